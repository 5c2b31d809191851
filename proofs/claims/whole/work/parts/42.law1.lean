/-! the law's helpers (printed by wip/whole/gen/law2.py) -/
def P_L_read (x1 : Int32) (x2 : Int32) (M : nf_M) (post : Int32 → nf_M → Prop) : Prop :=
    P_F_read x1 x2 M (fun _ M2 =>
    post (0 : Int32) M2) (nf_cat (fun j => nI (j + 1)) [0, 1, 4] post)
def P_L_put (x1 : Int32) (x2 : UInt64) (x4 : Int32) (M : nf_M) (post : Int32 → nf_M → Prop) : Prop :=
    P_F_put x1 x2 x4 M (fun _ M2 =>
    post (0 : Int32) M2) (nf_cat (fun j => nI (j + 1)) [0] post)
def P_L_reckon (x1 : Int32) (x2 : Int32) (x3 : Int32) (x4 : Int32) (M : nf_M) (post : Int32 → nf_M → Prop) : Prop :=
    P_F_reckon x1 x2 x3 x4 M (fun _ M2 =>
    post (0 : Int32) M2) (nf_cat (fun j => nI (j + 1)) [0, 2, 3, 4] post)
def P_L_one (x1 : Int32) (x2 : Int32) (x3 : Int32) (M : nf_M) (post : Int32 → nf_M → Prop) : Prop :=
    P_F_one x1 x2 x3 M (fun _ M2 =>
    post (0 : Int32) M2) (nf_cat (fun j => nI (j + 1)) [0, 2] post)
def P_L_cast (x1 : Int32) (x2 : Int32) (x3 : Int32) (M : nf_M) (post : Int32 → nf_M → Prop) : Prop :=
    P_F_cast x1 x2 x3 M (fun _ M2 =>
    post (0 : Int32) M2) (nf_cat (fun j => nI (j + 1)) [0, 2, 3, 4, 1] post)
def P_L_compare (x1 : Int32) (x2 : Int32) (M : nf_M) (post : Int32 → nf_M → Prop) : Prop :=
    P_F_compare x1 x2 M (fun r1 M2 =>
    ∀ t3 : Int64, t3 = r1.toInt64 → ((vp_in (0 : Int32) 1) ∧
    (∀ M5 : nf_M, M5 = ms_L M2 27 (0 : Int32).toNatClampNeg t3 → (post (0 : Int32) M5)))) (nf_cat (fun j => nI (j + 1)) [0, 2] post)
def P_L_real (x1 : Int32) (M : nf_M) (post : Int32 → nf_M → Prop) : Prop :=
    P_F_real x1 M (fun r1 M2 =>
    (vp_in (0 : Int32) 1) ∧
    (∀ M4 : nf_M, M4 = ms_D M2 28 (0 : Int32).toNatClampNeg r1 → (post (0 : Int32) M4))) (nf_cat (fun j => nI (j + 1)) [0, 2] post)
def P_L_write (x1 : Int32) (M : nf_M) (post : Int32 → nf_M → Prop) : Prop :=
    P_F_write x1 M (fun r1 M2 =>
    ∀ t3 : Int64, t3 = r1.toInt64 → ((vp_in (0 : Int32) 1) ∧
    (∀ M5 : nf_M, M5 = ms_L M2 27 (0 : Int32).toNatClampNeg t3 → (post (0 : Int32) M5)))) (nf_cat (fun j => nI (j + 1)) [0, 2, 4] post)
def P_L_picture (x1 : Int32) (M : nf_M) (post : Int32 → nf_M → Prop) : Prop :=
    P_F_picture x1 M (fun r1 M2 =>
    ∀ t3 : Int64, t3 = r1.toInt64 → ((vp_in (0 : Int32) 1) ∧
    (∀ M5 : nf_M, M5 = ms_L M2 27 (0 : Int32).toNatClampNeg t3 → (post (0 : Int32) M5)))) (nf_cat (fun j => nI (j + 1)) [0, 2, 1, 3, 4] post)
def P_L_letters (x1 : Int32) (x2 : Int32) (M : nf_M) (post : Int32 → nf_M → Prop) : Prop :=
    P_F_letters x1 x2 M (fun r1 M2 =>
    ∀ t3 : Int64, t3 = r1.toInt64 → ((vp_in (0 : Int32) 1) ∧
    (∀ M5 : nf_M, M5 = ms_L M2 27 (0 : Int32).toNatClampNeg t3 → (post (0 : Int32) M5)))) (nf_cat (fun j => nI (j + 1)) [0, 2] post)
theorem d_L_read_0 : decode nb_L_read 0 = .ok (.aload_n 0, 1) := by decide +kernel
theorem d_L_read_1 : decode nb_L_read 1 = .ok (.iload_n 1, 1) := by decide +kernel
theorem d_L_read_2 : decode nb_L_read 2 = .ok (.iload_n 2, 1) := by decide +kernel
theorem d_L_read_3 : decode nb_L_read 3 = .ok (.invokevirtual 7, 3) := by decide +kernel
theorem d_L_read_6 : decode nb_L_read 6 = .ok (.goto 12, 3) := by decide +kernel
theorem d_L_read_9 : decode nb_L_read 9 = .ok (.astore_n 3, 1) := by decide +kernel
theorem d_L_read_10 : decode nb_L_read 10 = .ok (.iconst 1, 1) := by decide +kernel
theorem d_L_read_11 : decode nb_L_read 11 = .ok (.ireturn, 1) := by decide +kernel
theorem d_L_read_12 : decode nb_L_read 12 = .ok (.astore_n 3, 1) := by decide +kernel
theorem d_L_read_13 : decode nb_L_read 13 = .ok (.iconst 2, 1) := by decide +kernel
theorem d_L_read_14 : decode nb_L_read 14 = .ok (.ireturn, 1) := by decide +kernel
theorem d_L_read_15 : decode nb_L_read 15 = .ok (.astore_n 3, 1) := by decide +kernel
theorem d_L_read_16 : decode nb_L_read 16 = .ok (.iconst 3, 1) := by decide +kernel
theorem d_L_read_17 : decode nb_L_read 17 = .ok (.ireturn, 1) := by decide +kernel
theorem d_L_read_18 : decode nb_L_read 18 = .ok (.iconst 0, 1) := by decide +kernel
theorem d_L_read_19 : decode nb_L_read 19 = .ok (.ireturn, 1) := by decide +kernel
abbrev rm_L_read : Room := ({ frames := 8, cells := 4, slots := 24, locals := 145 })
theorem c_L_read (l : Launch) (hfl : l.flags = flags0) (x1 : Int32) (x2 : Int32) : nf_CH nf_jI l nm_L_read nb_L_read 4 (some FieldType.int) [((0 : Nat), (6 : Nat), (9 : Nat), (13 : Nat)), ((0 : Nat), (6 : Nat), (12 : Nat), (15 : Nat)), ((0 : Nat), (6 : Nat), (15 : Nat), (17 : Nat))] rm_L_read (fun a => [.ref (a 0), .int x1, .int x2]) (fun M post ex => P_L_read x1 x2 M post) := by
  refine nf_startH (plainFor_of_name (by decide +kernel)) (fun a => Nat.le_of_ble_eq_true rfl) ?_
  intro D a sz M post ex p e s m below meth c ls h K hes hNC hl hw
  have hx := K.1
  have hb := K.2.1
  have hl : lv_has ls 4 [(0, .ref (a 0)), (1, .int x1), (2, .int x2)] := hl
  refine lv_aload_n hx hb d_L_read_0 rfl (lv_at hl 0 rfl) ?_
  refine lv_iload_n hx hb d_L_read_1 rfl (lv_at hl 1 rfl) ?_
  refine lv_iload_n hx hb d_L_read_2 rfl (lv_at hl 2 rfl) ?_
  refine nf_callWH (ex := nf_cat (fun j => nI (j + 1)) [0, 1, 4] post) (As := [.ref (a 0), .int x1, .int x2]) (st0 := [.int x2, .int x1, .ref (a 0)]) (rest := []) K hw (nf_invV hx hb K.2.2.2.1 (nf_KgH K nw_239) (nf_KgH K nw_240) (nf_KgH K nw_241) (nf_KgH K nw_242) ⟨by decide, by decide⟩ (nf_rcvH K hw 0 6 rfl rfl) rfl nl_F_read rfl d_L_read_3) (c_F_read l hfl x1 x2) nw_242 nw_1 rfl ⟨by decide, by decide⟩ (Nat.le_of_ble_eq_true rfl) hl.1 ⟨Nat.le_of_ble_eq_true rfl, Nat.le_of_ble_eq_true rfl⟩ h (fun k x M1 H locs hex hw hX => ?_) (fun r1 M2 H locs h hw => ?_)
  · obtain ⟨j, hj, hp⟩ := hex
    have hj9 : j < 3 := (List.getElem?_eq_some_iff.mp hj).1
    rcases (show j = 0 ∨ j = 1 ∨ j = 2 by omega) with rfl | rfl | rfl
    · cases Option.some.inj hj
      refine nf_catchW (hs := [((0 : Nat), (6 : Nat), (9 : Nat), (13 : Nat)), ((0 : Nat), (6 : Nat), (12 : Nat), (15 : Nat)), ((0 : Nat), (6 : Nat), (15 : Nat), (17 : Nat))]) (hpc := 9) ["java/lang/IndexOutOfBoundsException", "java/lang/IllegalArgumentException", "java/lang/UnsupportedOperationException"] 0 0 K.2.2.2.1 K.2.2.2.2.1 hes hNC K.2.2.2.2.2.2.2.2.2.2.1 rfl (by decide) (fun q hq => by
          simp only [List.zip_cons_cons, List.zip_nil_right, List.mem_cons, List.not_mem_nil, or_false] at hq
          rcases hq with rfl | rfl | rfl
          all_goals first | exact nw_236 | exact nw_237 | exact nw_238) rfl rfl (fun i hi => absurd hi (Nat.not_lt_zero _)) nf_self hX ?_
      refine lv_astore_n (lv' := [(3, .ref x), (0, .ref (a 0)), (1, .int x1), (2, .int x2)]) hx hb d_L_read_9 rfl hl (by decide) rfl (fun ls hl => ?_)
      refine lv_iconst (v := (1 : Int32)) hx hb d_L_read_10 (by decide) ?_
      exact nf_iretH K hw d_L_read_11 rfl (Nat.le_of_ble_eq_true rfl) (Nat.le_of_ble_eq_true rfl) (r := nI 1) rfl hp
    · cases Option.some.inj hj
      refine nf_catchW (hs := [((0 : Nat), (6 : Nat), (9 : Nat), (13 : Nat)), ((0 : Nat), (6 : Nat), (12 : Nat), (15 : Nat)), ((0 : Nat), (6 : Nat), (15 : Nat), (17 : Nat))]) (hpc := 12) ["java/lang/IndexOutOfBoundsException", "java/lang/IllegalArgumentException", "java/lang/UnsupportedOperationException"] 1 1 K.2.2.2.1 K.2.2.2.2.1 hes hNC K.2.2.2.2.2.2.2.2.2.2.1 rfl (by decide) (fun q hq => by
          simp only [List.zip_cons_cons, List.zip_nil_right, List.mem_cons, List.not_mem_nil, or_false] at hq
          rcases hq with rfl | rfl | rfl
          all_goals first | exact nw_236 | exact nw_237 | exact nw_238) rfl rfl (fun i hi => by
          rcases (show i = 0 by omega) with rfl
          all_goals first | exact ⟨0, by decide, rfl⟩) nf_self hX ?_
      refine lv_astore_n (lv' := [(3, .ref x), (0, .ref (a 0)), (1, .int x1), (2, .int x2)]) hx hb d_L_read_12 rfl hl (by decide) rfl (fun ls hl => ?_)
      refine lv_iconst (v := (2 : Int32)) hx hb d_L_read_13 (by decide) ?_
      exact nf_iretH K hw d_L_read_14 rfl (Nat.le_of_ble_eq_true rfl) (Nat.le_of_ble_eq_true rfl) (r := nI 2) rfl hp
    · cases Option.some.inj hj
      refine nf_catchW (hs := [((0 : Nat), (6 : Nat), (9 : Nat), (13 : Nat)), ((0 : Nat), (6 : Nat), (12 : Nat), (15 : Nat)), ((0 : Nat), (6 : Nat), (15 : Nat), (17 : Nat))]) (hpc := 15) ["java/lang/IndexOutOfBoundsException", "java/lang/IllegalArgumentException", "java/lang/UnsupportedOperationException"] 4 2 K.2.2.2.1 K.2.2.2.2.1 hes hNC K.2.2.2.2.2.2.2.2.2.2.1 rfl (by decide) (fun q hq => by
          simp only [List.zip_cons_cons, List.zip_nil_right, List.mem_cons, List.not_mem_nil, or_false] at hq
          rcases hq with rfl | rfl | rfl
          all_goals first | exact nw_236 | exact nw_237 | exact nw_238) rfl rfl (fun i hi => by
          rcases (show i = 0 ∨ i = 1 by omega) with rfl | rfl
          all_goals first | exact ⟨0, by decide, rfl⟩ | exact ⟨1, by decide, rfl⟩) nf_self hX ?_
      refine lv_astore_n (lv' := [(3, .ref x), (0, .ref (a 0)), (1, .int x1), (2, .int x2)]) hx hb d_L_read_15 rfl hl (by decide) rfl (fun ls hl => ?_)
      refine lv_iconst (v := (3 : Int32)) hx hb d_L_read_16 (by decide) ?_
      exact nf_iretH K hw d_L_read_17 rfl (Nat.le_of_ble_eq_true rfl) (Nat.le_of_ble_eq_true rfl) (r := nI 3) rfl hp
  refine W.eq (g2 := F0 m 6 ls []) rfl ?_
  refine W.widen (k := 4) (n := 24) (by decide) (by decide) ?_
  refine lv_goto hx hb d_L_read_6 (tgt := 18) (by decide) ?_
  refine lv_iconst (v := (0 : Int32)) hx hb d_L_read_18 (by decide) ?_
  exact nf_iretH K hw d_L_read_19 rfl (Nat.le_of_ble_eq_true rfl) (Nat.le_of_ble_eq_true rfl) (r := (0 : Int32)) rfl h
theorem d_L_put_0 : decode nb_L_put 0 = .ok (.aload_n 0, 1) := by decide +kernel
theorem d_L_put_1 : decode nb_L_put 1 = .ok (.iload_n 1, 1) := by decide +kernel
theorem d_L_put_2 : decode nb_L_put 2 = .ok (.dload_n 2, 1) := by decide +kernel
theorem d_L_put_3 : decode nb_L_put 3 = .ok (.iload 4, 2) := by decide +kernel
theorem d_L_put_5 : decode nb_L_put 5 = .ok (.invokevirtual 19, 3) := by decide +kernel
theorem d_L_put_8 : decode nb_L_put 8 = .ok (.goto 7, 3) := by decide +kernel
theorem d_L_put_11 : decode nb_L_put 11 = .ok (.astore 5, 2) := by decide +kernel
theorem d_L_put_13 : decode nb_L_put 13 = .ok (.iconst 1, 1) := by decide +kernel
theorem d_L_put_14 : decode nb_L_put 14 = .ok (.ireturn, 1) := by decide +kernel
theorem d_L_put_15 : decode nb_L_put 15 = .ok (.iconst 0, 1) := by decide +kernel
theorem d_L_put_16 : decode nb_L_put 16 = .ok (.ireturn, 1) := by decide +kernel
abbrev rm_L_put : Room := ({ frames := 8, cells := 1, slots := 6, locals := 146 })
theorem c_L_put (l : Launch) (hfl : l.flags = flags0) (x1 : Int32) (x2 : UInt64) (x4 : Int32) : nf_CH nf_jI l nm_L_put nb_L_put 6 (some FieldType.int) [((0 : Nat), (8 : Nat), (11 : Nat), (13 : Nat))] rm_L_put (fun a => [.ref (a 0), .int x1, .double x2, .int x4]) (fun M post ex => P_L_put x1 x2 x4 M post) := by
  refine nf_startH (plainFor_of_name (by decide +kernel)) (fun a => Nat.le_of_ble_eq_true rfl) ?_
  intro D a sz M post ex p e s m below meth c ls h K hes hNC hl hw
  have hx := K.1
  have hb := K.2.1
  have hl : lv_has ls 6 [(0, .ref (a 0)), (1, .int x1), (2, .double x2), (4, .int x4)] := hl
  refine lv_aload_n hx hb d_L_put_0 rfl (lv_at hl 0 rfl) ?_
  refine lv_iload_n hx hb d_L_put_1 rfl (lv_at hl 1 rfl) ?_
  refine lv_dload_n hx hb d_L_put_2 rfl (lv_at hl 2 rfl) ?_
  refine lv_iload hx hb d_L_put_3 (lv_at hl 3 rfl) ?_
  refine nf_callWH (ex := nf_cat (fun j => nI (j + 1)) [0] post) (As := [.ref (a 0), .int x1, .double x2, .int x4]) (st0 := [.int x4, .double x2, .int x1, .ref (a 0)]) (rest := []) K hw (nf_invV hx hb K.2.2.2.1 (nf_KgH K nw_436) (nf_KgH K nw_437) (nf_KgH K nw_438) (nf_KgH K nw_439) ⟨by decide, by decide⟩ (nf_rcvH K hw 0 6 rfl rfl) rfl nl_F_put rfl d_L_put_5) (c_F_put l hfl x1 x2 x4) nw_439 nw_1 rfl ⟨by decide, by decide⟩ (Nat.le_of_ble_eq_true rfl) hl.1 ⟨Nat.le_of_ble_eq_true rfl, Nat.le_of_ble_eq_true rfl⟩ h (fun k x M1 H locs hex hw hX => ?_) (fun r1 M2 H locs h hw => ?_)
  · obtain ⟨j, hj, hp⟩ := hex
    have hj9 : j < 1 := (List.getElem?_eq_some_iff.mp hj).1
    rcases (show j = 0 by omega) with rfl
    · cases Option.some.inj hj
      refine nf_catchW (hs := [((0 : Nat), (8 : Nat), (11 : Nat), (13 : Nat))]) (hpc := 11) ["java/lang/IndexOutOfBoundsException"] 0 0 K.2.2.2.1 K.2.2.2.2.1 hes hNC K.2.2.2.2.2.2.2.2.2.2.1 rfl (by decide) (fun q hq => by
          simp only [List.zip_cons_cons, List.zip_nil_right, List.mem_cons, List.not_mem_nil, or_false] at hq
          rcases hq with rfl
          all_goals first | exact nw_236) rfl rfl (fun i hi => absurd hi (Nat.not_lt_zero _)) nf_self hX ?_
      refine lv_astore (lv' := [(5, .ref x), (0, .ref (a 0)), (1, .int x1), (2, .double x2), (4, .int x4)]) hx hb d_L_put_11 hl (by decide) rfl (fun ls hl => ?_)
      refine lv_iconst (v := (1 : Int32)) hx hb d_L_put_13 (by decide) ?_
      exact nf_iretH K hw d_L_put_14 rfl (Nat.le_of_ble_eq_true rfl) (Nat.le_of_ble_eq_true rfl) (r := nI 1) rfl hp
  refine W.eq (g2 := F0 m 8 ls []) rfl ?_
  refine W.widen (k := 1) (n := 6) (by decide) (by decide) ?_
  refine lv_goto hx hb d_L_put_8 (tgt := 15) (by decide) ?_
  refine lv_iconst (v := (0 : Int32)) hx hb d_L_put_15 (by decide) ?_
  exact nf_iretH K hw d_L_put_16 rfl (Nat.le_of_ble_eq_true rfl) (Nat.le_of_ble_eq_true rfl) (r := (0 : Int32)) rfl h
theorem d_L_reckon_0 : decode nb_L_reckon 0 = .ok (.aload_n 0, 1) := by decide +kernel
theorem d_L_reckon_1 : decode nb_L_reckon 1 = .ok (.iload_n 1, 1) := by decide +kernel
theorem d_L_reckon_2 : decode nb_L_reckon 2 = .ok (.iload_n 2, 1) := by decide +kernel
theorem d_L_reckon_3 : decode nb_L_reckon 3 = .ok (.iload_n 3, 1) := by decide +kernel
theorem d_L_reckon_4 : decode nb_L_reckon 4 = .ok (.iload 4, 2) := by decide +kernel
theorem d_L_reckon_6 : decode nb_L_reckon 6 = .ok (.invokevirtual 23, 3) := by decide +kernel
theorem d_L_reckon_9 : decode nb_L_reckon 9 = .ok (.goto 19, 3) := by decide +kernel
theorem d_L_reckon_12 : decode nb_L_reckon 12 = .ok (.astore 5, 2) := by decide +kernel
theorem d_L_reckon_14 : decode nb_L_reckon 14 = .ok (.iconst 1, 1) := by decide +kernel
theorem d_L_reckon_15 : decode nb_L_reckon 15 = .ok (.ireturn, 1) := by decide +kernel
theorem d_L_reckon_16 : decode nb_L_reckon 16 = .ok (.astore 5, 2) := by decide +kernel
theorem d_L_reckon_18 : decode nb_L_reckon 18 = .ok (.iconst 2, 1) := by decide +kernel
theorem d_L_reckon_19 : decode nb_L_reckon 19 = .ok (.ireturn, 1) := by decide +kernel
theorem d_L_reckon_20 : decode nb_L_reckon 20 = .ok (.astore 5, 2) := by decide +kernel
theorem d_L_reckon_22 : decode nb_L_reckon 22 = .ok (.iconst 3, 1) := by decide +kernel
theorem d_L_reckon_23 : decode nb_L_reckon 23 = .ok (.ireturn, 1) := by decide +kernel
theorem d_L_reckon_24 : decode nb_L_reckon 24 = .ok (.astore 5, 2) := by decide +kernel
theorem d_L_reckon_26 : decode nb_L_reckon 26 = .ok (.iconst 4, 1) := by decide +kernel
theorem d_L_reckon_27 : decode nb_L_reckon 27 = .ok (.ireturn, 1) := by decide +kernel
theorem d_L_reckon_28 : decode nb_L_reckon 28 = .ok (.iconst 0, 1) := by decide +kernel
theorem d_L_reckon_29 : decode nb_L_reckon 29 = .ok (.ireturn, 1) := by decide +kernel
abbrev rm_L_reckon : Room := ({ frames := 10, cells := 9, slots := 54, locals := 206 })
theorem c_L_reckon (l : Launch) (hfl : l.flags = flags0) (x1 : Int32) (x2 : Int32) (x3 : Int32) (x4 : Int32) : nf_CH nf_jI l nm_L_reckon nb_L_reckon 6 (some FieldType.int) [((0 : Nat), (9 : Nat), (12 : Nat), (13 : Nat)), ((0 : Nat), (9 : Nat), (16 : Nat), (27 : Nat)), ((0 : Nat), (9 : Nat), (20 : Nat), (29 : Nat)), ((0 : Nat), (9 : Nat), (24 : Nat), (17 : Nat))] rm_L_reckon (fun a => [.ref (a 0), .int x1, .int x2, .int x3, .int x4]) (fun M post ex => P_L_reckon x1 x2 x3 x4 M post) := by
  refine nf_startH (plainFor_of_name (by decide +kernel)) (fun a => Nat.le_of_ble_eq_true rfl) ?_
  intro D a sz M post ex p e s m below meth c ls h K hes hNC hl hw
  have hx := K.1
  have hb := K.2.1
  have hl : lv_has ls 6 [(0, .ref (a 0)), (1, .int x1), (2, .int x2), (3, .int x3), (4, .int x4)] := hl
  refine lv_aload_n hx hb d_L_reckon_0 rfl (lv_at hl 0 rfl) ?_
  refine lv_iload_n hx hb d_L_reckon_1 rfl (lv_at hl 1 rfl) ?_
  refine lv_iload_n hx hb d_L_reckon_2 rfl (lv_at hl 2 rfl) ?_
  refine lv_iload_n hx hb d_L_reckon_3 rfl (lv_at hl 3 rfl) ?_
  refine lv_iload hx hb d_L_reckon_4 (lv_at hl 4 rfl) ?_
  refine nf_callWH (ex := nf_cat (fun j => nI (j + 1)) [0, 2, 3, 4] post) (As := [.ref (a 0), .int x1, .int x2, .int x3, .int x4]) (st0 := [.int x4, .int x3, .int x2, .int x1, .ref (a 0)]) (rest := []) K hw (nf_invV hx hb K.2.2.2.1 (nf_KgH K nw_445) (nf_KgH K nw_446) (nf_KgH K nw_447) (nf_KgH K nw_448) ⟨by decide, by decide⟩ (nf_rcvH K hw 0 6 rfl rfl) rfl nl_F_reckon rfl d_L_reckon_6) (c_F_reckon l hfl x1 x2 x3 x4) nw_448 nw_1 rfl ⟨by decide, by decide⟩ (Nat.le_of_ble_eq_true rfl) hl.1 ⟨Nat.le_of_ble_eq_true rfl, Nat.le_of_ble_eq_true rfl⟩ h (fun k x M1 H locs hex hw hX => ?_) (fun r1 M2 H locs h hw => ?_)
  · obtain ⟨j, hj, hp⟩ := hex
    have hj9 : j < 4 := (List.getElem?_eq_some_iff.mp hj).1
    rcases (show j = 0 ∨ j = 1 ∨ j = 2 ∨ j = 3 by omega) with rfl | rfl | rfl | rfl
    · cases Option.some.inj hj
      refine nf_catchW (hs := [((0 : Nat), (9 : Nat), (12 : Nat), (13 : Nat)), ((0 : Nat), (9 : Nat), (16 : Nat), (27 : Nat)), ((0 : Nat), (9 : Nat), (20 : Nat), (29 : Nat)), ((0 : Nat), (9 : Nat), (24 : Nat), (17 : Nat))]) (hpc := 12) ["java/lang/IndexOutOfBoundsException", "java/lang/IllegalStateException", "java/lang/ArithmeticException", "java/lang/UnsupportedOperationException"] 0 0 K.2.2.2.1 K.2.2.2.2.1 hes hNC K.2.2.2.2.2.2.2.2.2.2.1 rfl (by decide) (fun q hq => by
          simp only [List.zip_cons_cons, List.zip_nil_right, List.mem_cons, List.not_mem_nil, or_false] at hq
          rcases hq with rfl | rfl | rfl | rfl
          all_goals first | exact nw_236 | exact nw_443 | exact nw_444 | exact nw_238) rfl rfl (fun i hi => absurd hi (Nat.not_lt_zero _)) nf_self hX ?_
      refine lv_astore (lv' := [(5, .ref x), (0, .ref (a 0)), (1, .int x1), (2, .int x2), (3, .int x3), (4, .int x4)]) hx hb d_L_reckon_12 hl (by decide) rfl (fun ls hl => ?_)
      refine lv_iconst (v := (1 : Int32)) hx hb d_L_reckon_14 (by decide) ?_
      exact nf_iretH K hw d_L_reckon_15 rfl (Nat.le_of_ble_eq_true rfl) (Nat.le_of_ble_eq_true rfl) (r := nI 1) rfl hp
    · cases Option.some.inj hj
      refine nf_catchW (hs := [((0 : Nat), (9 : Nat), (12 : Nat), (13 : Nat)), ((0 : Nat), (9 : Nat), (16 : Nat), (27 : Nat)), ((0 : Nat), (9 : Nat), (20 : Nat), (29 : Nat)), ((0 : Nat), (9 : Nat), (24 : Nat), (17 : Nat))]) (hpc := 16) ["java/lang/IndexOutOfBoundsException", "java/lang/IllegalStateException", "java/lang/ArithmeticException", "java/lang/UnsupportedOperationException"] 2 1 K.2.2.2.1 K.2.2.2.2.1 hes hNC K.2.2.2.2.2.2.2.2.2.2.1 rfl (by decide) (fun q hq => by
          simp only [List.zip_cons_cons, List.zip_nil_right, List.mem_cons, List.not_mem_nil, or_false] at hq
          rcases hq with rfl | rfl | rfl | rfl
          all_goals first | exact nw_236 | exact nw_443 | exact nw_444 | exact nw_238) rfl rfl (fun i hi => by
          rcases (show i = 0 by omega) with rfl
          all_goals first | exact ⟨0, by decide, rfl⟩) nf_self hX ?_
      refine lv_astore (lv' := [(5, .ref x), (0, .ref (a 0)), (1, .int x1), (2, .int x2), (3, .int x3), (4, .int x4)]) hx hb d_L_reckon_16 hl (by decide) rfl (fun ls hl => ?_)
      refine lv_iconst (v := (2 : Int32)) hx hb d_L_reckon_18 (by decide) ?_
      exact nf_iretH K hw d_L_reckon_19 rfl (Nat.le_of_ble_eq_true rfl) (Nat.le_of_ble_eq_true rfl) (r := nI 2) rfl hp
    · cases Option.some.inj hj
      refine nf_catchW (hs := [((0 : Nat), (9 : Nat), (12 : Nat), (13 : Nat)), ((0 : Nat), (9 : Nat), (16 : Nat), (27 : Nat)), ((0 : Nat), (9 : Nat), (20 : Nat), (29 : Nat)), ((0 : Nat), (9 : Nat), (24 : Nat), (17 : Nat))]) (hpc := 20) ["java/lang/IndexOutOfBoundsException", "java/lang/IllegalStateException", "java/lang/ArithmeticException", "java/lang/UnsupportedOperationException"] 3 2 K.2.2.2.1 K.2.2.2.2.1 hes hNC K.2.2.2.2.2.2.2.2.2.2.1 rfl (by decide) (fun q hq => by
          simp only [List.zip_cons_cons, List.zip_nil_right, List.mem_cons, List.not_mem_nil, or_false] at hq
          rcases hq with rfl | rfl | rfl | rfl
          all_goals first | exact nw_236 | exact nw_443 | exact nw_444 | exact nw_238) rfl rfl (fun i hi => by
          rcases (show i = 0 ∨ i = 1 by omega) with rfl | rfl
          all_goals first | exact ⟨0, by decide, rfl⟩ | exact ⟨2, by decide, rfl⟩) nf_self hX ?_
      refine lv_astore (lv' := [(5, .ref x), (0, .ref (a 0)), (1, .int x1), (2, .int x2), (3, .int x3), (4, .int x4)]) hx hb d_L_reckon_20 hl (by decide) rfl (fun ls hl => ?_)
      refine lv_iconst (v := (3 : Int32)) hx hb d_L_reckon_22 (by decide) ?_
      exact nf_iretH K hw d_L_reckon_23 rfl (Nat.le_of_ble_eq_true rfl) (Nat.le_of_ble_eq_true rfl) (r := nI 3) rfl hp
    · cases Option.some.inj hj
      refine nf_catchW (hs := [((0 : Nat), (9 : Nat), (12 : Nat), (13 : Nat)), ((0 : Nat), (9 : Nat), (16 : Nat), (27 : Nat)), ((0 : Nat), (9 : Nat), (20 : Nat), (29 : Nat)), ((0 : Nat), (9 : Nat), (24 : Nat), (17 : Nat))]) (hpc := 24) ["java/lang/IndexOutOfBoundsException", "java/lang/IllegalStateException", "java/lang/ArithmeticException", "java/lang/UnsupportedOperationException"] 4 3 K.2.2.2.1 K.2.2.2.2.1 hes hNC K.2.2.2.2.2.2.2.2.2.2.1 rfl (by decide) (fun q hq => by
          simp only [List.zip_cons_cons, List.zip_nil_right, List.mem_cons, List.not_mem_nil, or_false] at hq
          rcases hq with rfl | rfl | rfl | rfl
          all_goals first | exact nw_236 | exact nw_443 | exact nw_444 | exact nw_238) rfl rfl (fun i hi => by
          rcases (show i = 0 ∨ i = 1 ∨ i = 2 by omega) with rfl | rfl | rfl
          all_goals first | exact ⟨0, by decide, rfl⟩ | exact ⟨2, by decide, rfl⟩ | exact ⟨3, by decide, rfl⟩) nf_self hX ?_
      refine lv_astore (lv' := [(5, .ref x), (0, .ref (a 0)), (1, .int x1), (2, .int x2), (3, .int x3), (4, .int x4)]) hx hb d_L_reckon_24 hl (by decide) rfl (fun ls hl => ?_)
      refine lv_iconst (v := (4 : Int32)) hx hb d_L_reckon_26 (by decide) ?_
      exact nf_iretH K hw d_L_reckon_27 rfl (Nat.le_of_ble_eq_true rfl) (Nat.le_of_ble_eq_true rfl) (r := nI 4) rfl hp
  refine W.eq (g2 := F0 m 9 ls []) rfl ?_
  refine W.widen (k := 9) (n := 54) (by decide) (by decide) ?_
  refine lv_goto hx hb d_L_reckon_9 (tgt := 28) (by decide) ?_
  refine lv_iconst (v := (0 : Int32)) hx hb d_L_reckon_28 (by decide) ?_
  exact nf_iretH K hw d_L_reckon_29 rfl (Nat.le_of_ble_eq_true rfl) (Nat.le_of_ble_eq_true rfl) (r := (0 : Int32)) rfl h
theorem d_L_one_0 : decode nb_L_one 0 = .ok (.aload_n 0, 1) := by decide +kernel
theorem d_L_one_1 : decode nb_L_one 1 = .ok (.iload_n 1, 1) := by decide +kernel
theorem d_L_one_2 : decode nb_L_one 2 = .ok (.iload_n 2, 1) := by decide +kernel
theorem d_L_one_3 : decode nb_L_one 3 = .ok (.iload_n 3, 1) := by decide +kernel
theorem d_L_one_4 : decode nb_L_one 4 = .ok (.invokevirtual 31, 3) := by decide +kernel
theorem d_L_one_7 : decode nb_L_one 7 = .ok (.goto 11, 3) := by decide +kernel
theorem d_L_one_10 : decode nb_L_one 10 = .ok (.astore 4, 2) := by decide +kernel
theorem d_L_one_12 : decode nb_L_one 12 = .ok (.iconst 1, 1) := by decide +kernel
theorem d_L_one_13 : decode nb_L_one 13 = .ok (.ireturn, 1) := by decide +kernel
theorem d_L_one_14 : decode nb_L_one 14 = .ok (.astore 4, 2) := by decide +kernel
theorem d_L_one_16 : decode nb_L_one 16 = .ok (.iconst 2, 1) := by decide +kernel
theorem d_L_one_17 : decode nb_L_one 17 = .ok (.ireturn, 1) := by decide +kernel
theorem d_L_one_18 : decode nb_L_one 18 = .ok (.iconst 0, 1) := by decide +kernel
theorem d_L_one_19 : decode nb_L_one 19 = .ok (.ireturn, 1) := by decide +kernel
abbrev rm_L_one : Room := ({ frames := 8, cells := 4, slots := 24, locals := 147 })
theorem c_L_one (l : Launch) (hfl : l.flags = flags0) (x1 : Int32) (x2 : Int32) (x3 : Int32) : nf_CH nf_jI l nm_L_one nb_L_one 5 (some FieldType.int) [((0 : Nat), (7 : Nat), (10 : Nat), (13 : Nat)), ((0 : Nat), (7 : Nat), (14 : Nat), (27 : Nat))] rm_L_one (fun a => [.ref (a 0), .int x1, .int x2, .int x3]) (fun M post ex => P_L_one x1 x2 x3 M post) := by
  refine nf_startH (plainFor_of_name (by decide +kernel)) (fun a => Nat.le_of_ble_eq_true rfl) ?_
  intro D a sz M post ex p e s m below meth c ls h K hes hNC hl hw
  have hx := K.1
  have hb := K.2.1
  have hl : lv_has ls 5 [(0, .ref (a 0)), (1, .int x1), (2, .int x2), (3, .int x3)] := hl
  refine lv_aload_n hx hb d_L_one_0 rfl (lv_at hl 0 rfl) ?_
  refine lv_iload_n hx hb d_L_one_1 rfl (lv_at hl 1 rfl) ?_
  refine lv_iload_n hx hb d_L_one_2 rfl (lv_at hl 2 rfl) ?_
  refine lv_iload_n hx hb d_L_one_3 rfl (lv_at hl 3 rfl) ?_
  refine nf_callWH (ex := nf_cat (fun j => nI (j + 1)) [0, 2] post) (As := [.ref (a 0), .int x1, .int x2, .int x3]) (st0 := [.int x3, .int x2, .int x1, .ref (a 0)]) (rest := []) K hw (nf_invV hx hb K.2.2.2.1 (nf_KgH K nw_632) (nf_KgH K nw_633) (nf_KgH K nw_634) (nf_KgH K nw_635) ⟨by decide, by decide⟩ (nf_rcvH K hw 0 6 rfl rfl) rfl nl_F_one rfl d_L_one_4) (c_F_one l hfl x1 x2 x3) nw_635 nw_1 rfl ⟨by decide, by decide⟩ (Nat.le_of_ble_eq_true rfl) hl.1 ⟨Nat.le_of_ble_eq_true rfl, Nat.le_of_ble_eq_true rfl⟩ h (fun k x M1 H locs hex hw hX => ?_) (fun r1 M2 H locs h hw => ?_)
  · obtain ⟨j, hj, hp⟩ := hex
    have hj9 : j < 2 := (List.getElem?_eq_some_iff.mp hj).1
    rcases (show j = 0 ∨ j = 1 by omega) with rfl | rfl
    · cases Option.some.inj hj
      refine nf_catchW (hs := [((0 : Nat), (7 : Nat), (10 : Nat), (13 : Nat)), ((0 : Nat), (7 : Nat), (14 : Nat), (27 : Nat))]) (hpc := 10) ["java/lang/IndexOutOfBoundsException", "java/lang/IllegalStateException"] 0 0 K.2.2.2.1 K.2.2.2.2.1 hes hNC K.2.2.2.2.2.2.2.2.2.2.1 rfl (by decide) (fun q hq => by
          simp only [List.zip_cons_cons, List.zip_nil_right, List.mem_cons, List.not_mem_nil, or_false] at hq
          rcases hq with rfl | rfl
          all_goals first | exact nw_236 | exact nw_443) rfl rfl (fun i hi => absurd hi (Nat.not_lt_zero _)) nf_self hX ?_
      refine lv_astore (lv' := [(4, .ref x), (0, .ref (a 0)), (1, .int x1), (2, .int x2), (3, .int x3)]) hx hb d_L_one_10 hl (by decide) rfl (fun ls hl => ?_)
      refine lv_iconst (v := (1 : Int32)) hx hb d_L_one_12 (by decide) ?_
      exact nf_iretH K hw d_L_one_13 rfl (Nat.le_of_ble_eq_true rfl) (Nat.le_of_ble_eq_true rfl) (r := nI 1) rfl hp
    · cases Option.some.inj hj
      refine nf_catchW (hs := [((0 : Nat), (7 : Nat), (10 : Nat), (13 : Nat)), ((0 : Nat), (7 : Nat), (14 : Nat), (27 : Nat))]) (hpc := 14) ["java/lang/IndexOutOfBoundsException", "java/lang/IllegalStateException"] 2 1 K.2.2.2.1 K.2.2.2.2.1 hes hNC K.2.2.2.2.2.2.2.2.2.2.1 rfl (by decide) (fun q hq => by
          simp only [List.zip_cons_cons, List.zip_nil_right, List.mem_cons, List.not_mem_nil, or_false] at hq
          rcases hq with rfl | rfl
          all_goals first | exact nw_236 | exact nw_443) rfl rfl (fun i hi => by
          rcases (show i = 0 by omega) with rfl
          all_goals first | exact ⟨0, by decide, rfl⟩) nf_self hX ?_
      refine lv_astore (lv' := [(4, .ref x), (0, .ref (a 0)), (1, .int x1), (2, .int x2), (3, .int x3)]) hx hb d_L_one_14 hl (by decide) rfl (fun ls hl => ?_)
      refine lv_iconst (v := (2 : Int32)) hx hb d_L_one_16 (by decide) ?_
      exact nf_iretH K hw d_L_one_17 rfl (Nat.le_of_ble_eq_true rfl) (Nat.le_of_ble_eq_true rfl) (r := nI 2) rfl hp
  refine W.eq (g2 := F0 m 7 ls []) rfl ?_
  refine W.widen (k := 4) (n := 24) (by decide) (by decide) ?_
  refine lv_goto hx hb d_L_one_7 (tgt := 18) (by decide) ?_
  refine lv_iconst (v := (0 : Int32)) hx hb d_L_one_18 (by decide) ?_
  exact nf_iretH K hw d_L_one_19 rfl (Nat.le_of_ble_eq_true rfl) (Nat.le_of_ble_eq_true rfl) (r := (0 : Int32)) rfl h
theorem d_L_cast_0 : decode nb_L_cast 0 = .ok (.aload_n 0, 1) := by decide +kernel
theorem d_L_cast_1 : decode nb_L_cast 1 = .ok (.iload_n 1, 1) := by decide +kernel
theorem d_L_cast_2 : decode nb_L_cast 2 = .ok (.iload_n 2, 1) := by decide +kernel
theorem d_L_cast_3 : decode nb_L_cast 3 = .ok (.iload_n 3, 1) := by decide +kernel
theorem d_L_cast_4 : decode nb_L_cast 4 = .ok (.invokevirtual 35, 3) := by decide +kernel
theorem d_L_cast_7 : decode nb_L_cast 7 = .ok (.goto 23, 3) := by decide +kernel
theorem d_L_cast_10 : decode nb_L_cast 10 = .ok (.astore 4, 2) := by decide +kernel
theorem d_L_cast_12 : decode nb_L_cast 12 = .ok (.iconst 1, 1) := by decide +kernel
theorem d_L_cast_13 : decode nb_L_cast 13 = .ok (.ireturn, 1) := by decide +kernel
theorem d_L_cast_14 : decode nb_L_cast 14 = .ok (.astore 4, 2) := by decide +kernel
theorem d_L_cast_16 : decode nb_L_cast 16 = .ok (.iconst 2, 1) := by decide +kernel
theorem d_L_cast_17 : decode nb_L_cast 17 = .ok (.ireturn, 1) := by decide +kernel
theorem d_L_cast_18 : decode nb_L_cast 18 = .ok (.astore 4, 2) := by decide +kernel
theorem d_L_cast_20 : decode nb_L_cast 20 = .ok (.iconst 3, 1) := by decide +kernel
theorem d_L_cast_21 : decode nb_L_cast 21 = .ok (.ireturn, 1) := by decide +kernel
theorem d_L_cast_22 : decode nb_L_cast 22 = .ok (.astore 4, 2) := by decide +kernel
theorem d_L_cast_24 : decode nb_L_cast 24 = .ok (.iconst 4, 1) := by decide +kernel
theorem d_L_cast_25 : decode nb_L_cast 25 = .ok (.ireturn, 1) := by decide +kernel
theorem d_L_cast_26 : decode nb_L_cast 26 = .ok (.astore 4, 2) := by decide +kernel
theorem d_L_cast_28 : decode nb_L_cast 28 = .ok (.iconst 5, 1) := by decide +kernel
theorem d_L_cast_29 : decode nb_L_cast 29 = .ok (.ireturn, 1) := by decide +kernel
theorem d_L_cast_30 : decode nb_L_cast 30 = .ok (.iconst 0, 1) := by decide +kernel
theorem d_L_cast_31 : decode nb_L_cast 31 = .ok (.ireturn, 1) := by decide +kernel
abbrev rm_L_cast : Room := ({ frames := 10, cells := 7, slots := 42, locals := 197 })
theorem c_L_cast (l : Launch) (hfl : l.flags = flags0) (x1 : Int32) (x2 : Int32) (x3 : Int32) : nf_CH nf_jI l nm_L_cast nb_L_cast 5 (some FieldType.int) [((0 : Nat), (7 : Nat), (10 : Nat), (13 : Nat)), ((0 : Nat), (7 : Nat), (14 : Nat), (27 : Nat)), ((0 : Nat), (7 : Nat), (18 : Nat), (29 : Nat)), ((0 : Nat), (7 : Nat), (22 : Nat), (17 : Nat)), ((0 : Nat), (7 : Nat), (26 : Nat), (15 : Nat))] rm_L_cast (fun a => [.ref (a 0), .int x1, .int x2, .int x3]) (fun M post ex => P_L_cast x1 x2 x3 M post) := by
  refine nf_startH (plainFor_of_name (by decide +kernel)) (fun a => Nat.le_of_ble_eq_true rfl) ?_
  intro D a sz M post ex p e s m below meth c ls h K hes hNC hl hw
  have hx := K.1
  have hb := K.2.1
  have hl : lv_has ls 5 [(0, .ref (a 0)), (1, .int x1), (2, .int x2), (3, .int x3)] := hl
  refine lv_aload_n hx hb d_L_cast_0 rfl (lv_at hl 0 rfl) ?_
  refine lv_iload_n hx hb d_L_cast_1 rfl (lv_at hl 1 rfl) ?_
  refine lv_iload_n hx hb d_L_cast_2 rfl (lv_at hl 2 rfl) ?_
  refine lv_iload_n hx hb d_L_cast_3 rfl (lv_at hl 3 rfl) ?_
  refine nf_callWH (ex := nf_cat (fun j => nI (j + 1)) [0, 2, 3, 4, 1] post) (As := [.ref (a 0), .int x1, .int x2, .int x3]) (st0 := [.int x3, .int x2, .int x1, .ref (a 0)]) (rest := []) K hw (nf_invV hx hb K.2.2.2.1 (nf_KgH K nw_669) (nf_KgH K nw_670) (nf_KgH K nw_671) (nf_KgH K nw_672) ⟨by decide, by decide⟩ (nf_rcvH K hw 0 6 rfl rfl) rfl nl_F_cast rfl d_L_cast_4) (c_F_cast l hfl x1 x2 x3) nw_672 nw_1 rfl ⟨by decide, by decide⟩ (Nat.le_of_ble_eq_true rfl) hl.1 ⟨Nat.le_of_ble_eq_true rfl, Nat.le_of_ble_eq_true rfl⟩ h (fun k x M1 H locs hex hw hX => ?_) (fun r1 M2 H locs h hw => ?_)
  · obtain ⟨j, hj, hp⟩ := hex
    have hj9 : j < 5 := (List.getElem?_eq_some_iff.mp hj).1
    rcases (show j = 0 ∨ j = 1 ∨ j = 2 ∨ j = 3 ∨ j = 4 by omega) with rfl | rfl | rfl | rfl | rfl
    · cases Option.some.inj hj
      refine nf_catchW (hs := [((0 : Nat), (7 : Nat), (10 : Nat), (13 : Nat)), ((0 : Nat), (7 : Nat), (14 : Nat), (27 : Nat)), ((0 : Nat), (7 : Nat), (18 : Nat), (29 : Nat)), ((0 : Nat), (7 : Nat), (22 : Nat), (17 : Nat)), ((0 : Nat), (7 : Nat), (26 : Nat), (15 : Nat))]) (hpc := 10) ["java/lang/IndexOutOfBoundsException", "java/lang/IllegalStateException", "java/lang/ArithmeticException", "java/lang/UnsupportedOperationException", "java/lang/IllegalArgumentException"] 0 0 K.2.2.2.1 K.2.2.2.2.1 hes hNC K.2.2.2.2.2.2.2.2.2.2.1 rfl (by decide) (fun q hq => by
          simp only [List.zip_cons_cons, List.zip_nil_right, List.mem_cons, List.not_mem_nil, or_false] at hq
          rcases hq with rfl | rfl | rfl | rfl | rfl
          all_goals first | exact nw_236 | exact nw_443 | exact nw_444 | exact nw_238 | exact nw_237) rfl rfl (fun i hi => absurd hi (Nat.not_lt_zero _)) nf_self hX ?_
      refine lv_astore (lv' := [(4, .ref x), (0, .ref (a 0)), (1, .int x1), (2, .int x2), (3, .int x3)]) hx hb d_L_cast_10 hl (by decide) rfl (fun ls hl => ?_)
      refine lv_iconst (v := (1 : Int32)) hx hb d_L_cast_12 (by decide) ?_
      exact nf_iretH K hw d_L_cast_13 rfl (Nat.le_of_ble_eq_true rfl) (Nat.le_of_ble_eq_true rfl) (r := nI 1) rfl hp
    · cases Option.some.inj hj
      refine nf_catchW (hs := [((0 : Nat), (7 : Nat), (10 : Nat), (13 : Nat)), ((0 : Nat), (7 : Nat), (14 : Nat), (27 : Nat)), ((0 : Nat), (7 : Nat), (18 : Nat), (29 : Nat)), ((0 : Nat), (7 : Nat), (22 : Nat), (17 : Nat)), ((0 : Nat), (7 : Nat), (26 : Nat), (15 : Nat))]) (hpc := 14) ["java/lang/IndexOutOfBoundsException", "java/lang/IllegalStateException", "java/lang/ArithmeticException", "java/lang/UnsupportedOperationException", "java/lang/IllegalArgumentException"] 2 1 K.2.2.2.1 K.2.2.2.2.1 hes hNC K.2.2.2.2.2.2.2.2.2.2.1 rfl (by decide) (fun q hq => by
          simp only [List.zip_cons_cons, List.zip_nil_right, List.mem_cons, List.not_mem_nil, or_false] at hq
          rcases hq with rfl | rfl | rfl | rfl | rfl
          all_goals first | exact nw_236 | exact nw_443 | exact nw_444 | exact nw_238 | exact nw_237) rfl rfl (fun i hi => by
          rcases (show i = 0 by omega) with rfl
          all_goals first | exact ⟨0, by decide, rfl⟩) nf_self hX ?_
      refine lv_astore (lv' := [(4, .ref x), (0, .ref (a 0)), (1, .int x1), (2, .int x2), (3, .int x3)]) hx hb d_L_cast_14 hl (by decide) rfl (fun ls hl => ?_)
      refine lv_iconst (v := (2 : Int32)) hx hb d_L_cast_16 (by decide) ?_
      exact nf_iretH K hw d_L_cast_17 rfl (Nat.le_of_ble_eq_true rfl) (Nat.le_of_ble_eq_true rfl) (r := nI 2) rfl hp
    · cases Option.some.inj hj
      refine nf_catchW (hs := [((0 : Nat), (7 : Nat), (10 : Nat), (13 : Nat)), ((0 : Nat), (7 : Nat), (14 : Nat), (27 : Nat)), ((0 : Nat), (7 : Nat), (18 : Nat), (29 : Nat)), ((0 : Nat), (7 : Nat), (22 : Nat), (17 : Nat)), ((0 : Nat), (7 : Nat), (26 : Nat), (15 : Nat))]) (hpc := 18) ["java/lang/IndexOutOfBoundsException", "java/lang/IllegalStateException", "java/lang/ArithmeticException", "java/lang/UnsupportedOperationException", "java/lang/IllegalArgumentException"] 3 2 K.2.2.2.1 K.2.2.2.2.1 hes hNC K.2.2.2.2.2.2.2.2.2.2.1 rfl (by decide) (fun q hq => by
          simp only [List.zip_cons_cons, List.zip_nil_right, List.mem_cons, List.not_mem_nil, or_false] at hq
          rcases hq with rfl | rfl | rfl | rfl | rfl
          all_goals first | exact nw_236 | exact nw_443 | exact nw_444 | exact nw_238 | exact nw_237) rfl rfl (fun i hi => by
          rcases (show i = 0 ∨ i = 1 by omega) with rfl | rfl
          all_goals first | exact ⟨0, by decide, rfl⟩ | exact ⟨2, by decide, rfl⟩) nf_self hX ?_
      refine lv_astore (lv' := [(4, .ref x), (0, .ref (a 0)), (1, .int x1), (2, .int x2), (3, .int x3)]) hx hb d_L_cast_18 hl (by decide) rfl (fun ls hl => ?_)
      refine lv_iconst (v := (3 : Int32)) hx hb d_L_cast_20 (by decide) ?_
      exact nf_iretH K hw d_L_cast_21 rfl (Nat.le_of_ble_eq_true rfl) (Nat.le_of_ble_eq_true rfl) (r := nI 3) rfl hp
    · cases Option.some.inj hj
      refine nf_catchW (hs := [((0 : Nat), (7 : Nat), (10 : Nat), (13 : Nat)), ((0 : Nat), (7 : Nat), (14 : Nat), (27 : Nat)), ((0 : Nat), (7 : Nat), (18 : Nat), (29 : Nat)), ((0 : Nat), (7 : Nat), (22 : Nat), (17 : Nat)), ((0 : Nat), (7 : Nat), (26 : Nat), (15 : Nat))]) (hpc := 22) ["java/lang/IndexOutOfBoundsException", "java/lang/IllegalStateException", "java/lang/ArithmeticException", "java/lang/UnsupportedOperationException", "java/lang/IllegalArgumentException"] 4 3 K.2.2.2.1 K.2.2.2.2.1 hes hNC K.2.2.2.2.2.2.2.2.2.2.1 rfl (by decide) (fun q hq => by
          simp only [List.zip_cons_cons, List.zip_nil_right, List.mem_cons, List.not_mem_nil, or_false] at hq
          rcases hq with rfl | rfl | rfl | rfl | rfl
          all_goals first | exact nw_236 | exact nw_443 | exact nw_444 | exact nw_238 | exact nw_237) rfl rfl (fun i hi => by
          rcases (show i = 0 ∨ i = 1 ∨ i = 2 by omega) with rfl | rfl | rfl
          all_goals first | exact ⟨0, by decide, rfl⟩ | exact ⟨2, by decide, rfl⟩ | exact ⟨3, by decide, rfl⟩) nf_self hX ?_
      refine lv_astore (lv' := [(4, .ref x), (0, .ref (a 0)), (1, .int x1), (2, .int x2), (3, .int x3)]) hx hb d_L_cast_22 hl (by decide) rfl (fun ls hl => ?_)
      refine lv_iconst (v := (4 : Int32)) hx hb d_L_cast_24 (by decide) ?_
      exact nf_iretH K hw d_L_cast_25 rfl (Nat.le_of_ble_eq_true rfl) (Nat.le_of_ble_eq_true rfl) (r := nI 4) rfl hp
    · cases Option.some.inj hj
      refine nf_catchW (hs := [((0 : Nat), (7 : Nat), (10 : Nat), (13 : Nat)), ((0 : Nat), (7 : Nat), (14 : Nat), (27 : Nat)), ((0 : Nat), (7 : Nat), (18 : Nat), (29 : Nat)), ((0 : Nat), (7 : Nat), (22 : Nat), (17 : Nat)), ((0 : Nat), (7 : Nat), (26 : Nat), (15 : Nat))]) (hpc := 26) ["java/lang/IndexOutOfBoundsException", "java/lang/IllegalStateException", "java/lang/ArithmeticException", "java/lang/UnsupportedOperationException", "java/lang/IllegalArgumentException"] 1 4 K.2.2.2.1 K.2.2.2.2.1 hes hNC K.2.2.2.2.2.2.2.2.2.2.1 rfl (by decide) (fun q hq => by
          simp only [List.zip_cons_cons, List.zip_nil_right, List.mem_cons, List.not_mem_nil, or_false] at hq
          rcases hq with rfl | rfl | rfl | rfl | rfl
          all_goals first | exact nw_236 | exact nw_443 | exact nw_444 | exact nw_238 | exact nw_237) rfl rfl (fun i hi => by
          rcases (show i = 0 ∨ i = 1 ∨ i = 2 ∨ i = 3 by omega) with rfl | rfl | rfl | rfl
          all_goals first | exact ⟨0, by decide, rfl⟩ | exact ⟨2, by decide, rfl⟩ | exact ⟨3, by decide, rfl⟩ | exact ⟨4, by decide, rfl⟩) nf_self hX ?_
      refine lv_astore (lv' := [(4, .ref x), (0, .ref (a 0)), (1, .int x1), (2, .int x2), (3, .int x3)]) hx hb d_L_cast_26 hl (by decide) rfl (fun ls hl => ?_)
      refine lv_iconst (v := (5 : Int32)) hx hb d_L_cast_28 (by decide) ?_
      exact nf_iretH K hw d_L_cast_29 rfl (Nat.le_of_ble_eq_true rfl) (Nat.le_of_ble_eq_true rfl) (r := nI 5) rfl hp
  refine W.eq (g2 := F0 m 7 ls []) rfl ?_
  refine W.widen (k := 7) (n := 42) (by decide) (by decide) ?_
  refine lv_goto hx hb d_L_cast_7 (tgt := 30) (by decide) ?_
  refine lv_iconst (v := (0 : Int32)) hx hb d_L_cast_30 (by decide) ?_
  exact nf_iretH K hw d_L_cast_31 rfl (Nat.le_of_ble_eq_true rfl) (Nat.le_of_ble_eq_true rfl) (r := (0 : Int32)) rfl h
theorem d_L_compare_0 : decode nb_L_compare 0 = .ok (.aload_n 3, 1) := by decide +kernel
theorem d_L_compare_1 : decode nb_L_compare 1 = .ok (.iconst 0, 1) := by decide +kernel
theorem d_L_compare_2 : decode nb_L_compare 2 = .ok (.aload_n 0, 1) := by decide +kernel
theorem d_L_compare_3 : decode nb_L_compare 3 = .ok (.iload_n 1, 1) := by decide +kernel
theorem d_L_compare_4 : decode nb_L_compare 4 = .ok (.iload_n 2, 1) := by decide +kernel
theorem d_L_compare_5 : decode nb_L_compare 5 = .ok (.invokevirtual 38, 3) := by decide +kernel
theorem d_L_compare_8 : decode nb_L_compare 8 = .ok (.i2l, 1) := by decide +kernel
theorem d_L_compare_9 : decode nb_L_compare 9 = .ok (.lastore, 1) := by decide +kernel
theorem d_L_compare_10 : decode nb_L_compare 10 = .ok (.goto 11, 3) := by decide +kernel
theorem d_L_compare_13 : decode nb_L_compare 13 = .ok (.astore 4, 2) := by decide +kernel
theorem d_L_compare_15 : decode nb_L_compare 15 = .ok (.iconst 1, 1) := by decide +kernel
theorem d_L_compare_16 : decode nb_L_compare 16 = .ok (.ireturn, 1) := by decide +kernel
theorem d_L_compare_17 : decode nb_L_compare 17 = .ok (.astore 4, 2) := by decide +kernel
theorem d_L_compare_19 : decode nb_L_compare 19 = .ok (.iconst 2, 1) := by decide +kernel
theorem d_L_compare_20 : decode nb_L_compare 20 = .ok (.ireturn, 1) := by decide +kernel
theorem d_L_compare_21 : decode nb_L_compare 21 = .ok (.iconst 0, 1) := by decide +kernel
theorem d_L_compare_22 : decode nb_L_compare 22 = .ok (.ireturn, 1) := by decide +kernel
abbrev rm_L_compare : Room := ({ frames := 8, cells := 4, slots := 24, locals := 145 })
theorem c_L_compare (l : Launch) (hfl : l.flags = flags0) (x1 : Int32) (x2 : Int32) : nf_CH nf_jI l nm_L_compare nb_L_compare 5 (some FieldType.int) [((0 : Nat), (10 : Nat), (13 : Nat), (13 : Nat)), ((0 : Nat), (10 : Nat), (17 : Nat), (27 : Nat))] rm_L_compare (fun a => [.ref (a 0), .int x1, .int x2, .ref (a 27)]) (fun M post ex => P_L_compare x1 x2 M post) := by
  refine nf_startH (plainFor_of_name (by decide +kernel)) (fun a => Nat.le_of_ble_eq_true rfl) ?_
  intro D a sz M post ex p e s m below meth c ls h K hes hNC hl hw
  have hx := K.1
  have hb := K.2.1
  have hl : lv_has ls 5 [(0, .ref (a 0)), (1, .int x1), (2, .int x2), (3, .ref (a 27))] := hl
  refine lv_aload_n hx hb d_L_compare_0 rfl (lv_at hl 3 rfl) ?_
  refine lv_iconst (v := (0 : Int32)) hx hb d_L_compare_1 (by decide) ?_
  refine lv_aload_n hx hb d_L_compare_2 rfl (lv_at hl 0 rfl) ?_
  refine lv_iload_n hx hb d_L_compare_3 rfl (lv_at hl 1 rfl) ?_
  refine lv_iload_n hx hb d_L_compare_4 rfl (lv_at hl 2 rfl) ?_
  refine nf_callWH (ex := nf_cat (fun j => nI (j + 1)) [0, 2] post) (As := [.ref (a 0), .int x1, .int x2]) (st0 := [.int x2, .int x1, .ref (a 0), .int (0 : Int32), .ref (a 27)]) (rest := [.int (0 : Int32), .ref (a 27)]) K hw (nf_invV hx hb K.2.2.2.1 (nf_KgH K nw_690) (nf_KgH K nw_691) (nf_KgH K nw_692) (nf_KgH K nw_693) ⟨by decide, by decide⟩ (nf_rcvH K hw 0 6 rfl rfl) rfl nl_F_compare rfl d_L_compare_5) (c_F_compare l hfl x1 x2) nw_693 nw_1 rfl ⟨by decide, by decide⟩ (Nat.le_of_ble_eq_true rfl) hl.1 ⟨Nat.le_of_ble_eq_true rfl, Nat.le_of_ble_eq_true rfl⟩ h (fun k x M1 H locs hex hw hX => ?_) (fun r1 M2 H locs h hw => ?_)
  · obtain ⟨j, hj, hp⟩ := hex
    have hj9 : j < 2 := (List.getElem?_eq_some_iff.mp hj).1
    rcases (show j = 0 ∨ j = 1 by omega) with rfl | rfl
    · cases Option.some.inj hj
      refine nf_catchW (hs := [((0 : Nat), (10 : Nat), (13 : Nat), (13 : Nat)), ((0 : Nat), (10 : Nat), (17 : Nat), (27 : Nat))]) (hpc := 13) ["java/lang/IndexOutOfBoundsException", "java/lang/IllegalStateException"] 0 0 K.2.2.2.1 K.2.2.2.2.1 hes hNC K.2.2.2.2.2.2.2.2.2.2.1 rfl (by decide) (fun q hq => by
          simp only [List.zip_cons_cons, List.zip_nil_right, List.mem_cons, List.not_mem_nil, or_false] at hq
          rcases hq with rfl | rfl
          all_goals first | exact nw_236 | exact nw_443) rfl rfl (fun i hi => absurd hi (Nat.not_lt_zero _)) nf_self hX ?_
      refine lv_astore (lv' := [(4, .ref x), (0, .ref (a 0)), (1, .int x1), (2, .int x2), (3, .ref (a 27))]) hx hb d_L_compare_13 hl (by decide) rfl (fun ls hl => ?_)
      refine lv_iconst (v := (1 : Int32)) hx hb d_L_compare_15 (by decide) ?_
      exact nf_iretH K hw d_L_compare_16 rfl (Nat.le_of_ble_eq_true rfl) (Nat.le_of_ble_eq_true rfl) (r := nI 1) rfl hp
    · cases Option.some.inj hj
      refine nf_catchW (hs := [((0 : Nat), (10 : Nat), (13 : Nat), (13 : Nat)), ((0 : Nat), (10 : Nat), (17 : Nat), (27 : Nat))]) (hpc := 17) ["java/lang/IndexOutOfBoundsException", "java/lang/IllegalStateException"] 2 1 K.2.2.2.1 K.2.2.2.2.1 hes hNC K.2.2.2.2.2.2.2.2.2.2.1 rfl (by decide) (fun q hq => by
          simp only [List.zip_cons_cons, List.zip_nil_right, List.mem_cons, List.not_mem_nil, or_false] at hq
          rcases hq with rfl | rfl
          all_goals first | exact nw_236 | exact nw_443) rfl rfl (fun i hi => by
          rcases (show i = 0 by omega) with rfl
          all_goals first | exact ⟨0, by decide, rfl⟩) nf_self hX ?_
      refine lv_astore (lv' := [(4, .ref x), (0, .ref (a 0)), (1, .int x1), (2, .int x2), (3, .ref (a 27))]) hx hb d_L_compare_17 hl (by decide) rfl (fun ls hl => ?_)
      refine lv_iconst (v := (2 : Int32)) hx hb d_L_compare_19 (by decide) ?_
      exact nf_iretH K hw d_L_compare_20 rfl (Nat.le_of_ble_eq_true rfl) (Nat.le_of_ble_eq_true rfl) (r := nI 2) rfl hp
  refine W.eq (g2 := F0 m 8 ls [.int r1, .int (0 : Int32), .ref (a 27)]) rfl ?_
  refine W.widen (k := 4) (n := 24) (by decide) (by decide) ?_
  refine lv_i2l hx hb d_L_compare_8 rfl ?_
  refine lv_topl (fun t3 et3 => ?_)
  have h := h t3 et3
  obtain ⟨g4, h⟩ := h
  refine nf_lastH (M' := ms_L M2 27 (0 : Int32).toNatClampNeg t3) K hw 27 10 rfl rfl g4 rfl d_L_compare_9 (fun H locs hw => ?_)
  obtain ⟨M5, eM5⟩ : ∃ z, z = ms_L M2 27 (0 : Int32).toNatClampNeg t3 := ⟨_, rfl⟩
  rw [← eM5] at hw
  have h := h M5 eM5
  refine lv_goto hx hb d_L_compare_10 (tgt := 21) (by decide) ?_
  refine lv_iconst (v := (0 : Int32)) hx hb d_L_compare_21 (by decide) ?_
  exact nf_iretH K hw d_L_compare_22 rfl (Nat.le_of_ble_eq_true rfl) (Nat.le_of_ble_eq_true rfl) (r := (0 : Int32)) rfl h
theorem d_L_real_0 : decode nb_L_real 0 = .ok (.aload_n 2, 1) := by decide +kernel
theorem d_L_real_1 : decode nb_L_real 1 = .ok (.iconst 0, 1) := by decide +kernel
theorem d_L_real_2 : decode nb_L_real 2 = .ok (.aload_n 0, 1) := by decide +kernel
theorem d_L_real_3 : decode nb_L_real 3 = .ok (.iload_n 1, 1) := by decide +kernel
theorem d_L_real_4 : decode nb_L_real 4 = .ok (.invokevirtual 42, 3) := by decide +kernel
theorem d_L_real_7 : decode nb_L_real 7 = .ok (.dastore, 1) := by decide +kernel
theorem d_L_real_8 : decode nb_L_real 8 = .ok (.goto 9, 3) := by decide +kernel
theorem d_L_real_11 : decode nb_L_real 11 = .ok (.astore_n 3, 1) := by decide +kernel
theorem d_L_real_12 : decode nb_L_real 12 = .ok (.iconst 1, 1) := by decide +kernel
theorem d_L_real_13 : decode nb_L_real 13 = .ok (.ireturn, 1) := by decide +kernel
theorem d_L_real_14 : decode nb_L_real 14 = .ok (.astore_n 3, 1) := by decide +kernel
theorem d_L_real_15 : decode nb_L_real 15 = .ok (.iconst 2, 1) := by decide +kernel
theorem d_L_real_16 : decode nb_L_real 16 = .ok (.ireturn, 1) := by decide +kernel
theorem d_L_real_17 : decode nb_L_real 17 = .ok (.iconst 0, 1) := by decide +kernel
theorem d_L_real_18 : decode nb_L_real 18 = .ok (.ireturn, 1) := by decide +kernel
abbrev rm_L_real : Room := ({ frames := 8, cells := 2, slots := 12, locals := 143 })
theorem c_L_real (l : Launch) (hfl : l.flags = flags0) (x1 : Int32) : nf_CH nf_jI l nm_L_real nb_L_real 4 (some FieldType.int) [((0 : Nat), (8 : Nat), (11 : Nat), (13 : Nat)), ((0 : Nat), (8 : Nat), (14 : Nat), (27 : Nat))] rm_L_real (fun a => [.ref (a 0), .int x1, .ref (a 28)]) (fun M post ex => P_L_real x1 M post) := by
  refine nf_startH (plainFor_of_name (by decide +kernel)) (fun a => Nat.le_of_ble_eq_true rfl) ?_
  intro D a sz M post ex p e s m below meth c ls h K hes hNC hl hw
  have hx := K.1
  have hb := K.2.1
  have hl : lv_has ls 4 [(0, .ref (a 0)), (1, .int x1), (2, .ref (a 28))] := hl
  refine lv_aload_n hx hb d_L_real_0 rfl (lv_at hl 2 rfl) ?_
  refine lv_iconst (v := (0 : Int32)) hx hb d_L_real_1 (by decide) ?_
  refine lv_aload_n hx hb d_L_real_2 rfl (lv_at hl 0 rfl) ?_
  refine lv_iload_n hx hb d_L_real_3 rfl (lv_at hl 1 rfl) ?_
  refine nf_callWH (ex := nf_cat (fun j => nI (j + 1)) [0, 2] post) (As := [.ref (a 0), .int x1]) (st0 := [.int x1, .ref (a 0), .int (0 : Int32), .ref (a 28)]) (rest := [.int (0 : Int32), .ref (a 28)]) K hw (nf_invV hx hb K.2.2.2.1 (nf_KgH K nw_709) (nf_KgH K nw_710) (nf_KgH K nw_711) (nf_KgH K nw_712) ⟨by decide, by decide⟩ (nf_rcvH K hw 0 6 rfl rfl) rfl nl_F_real rfl d_L_real_4) (c_F_real l hfl x1) nw_712 nw_1 rfl ⟨by decide, by decide⟩ (Nat.le_of_ble_eq_true rfl) hl.1 ⟨Nat.le_of_ble_eq_true rfl, Nat.le_of_ble_eq_true rfl⟩ h (fun k x M1 H locs hex hw hX => ?_) (fun r1 M2 H locs h hw => ?_)
  · obtain ⟨j, hj, hp⟩ := hex
    have hj9 : j < 2 := (List.getElem?_eq_some_iff.mp hj).1
    rcases (show j = 0 ∨ j = 1 by omega) with rfl | rfl
    · cases Option.some.inj hj
      refine nf_catchW (hs := [((0 : Nat), (8 : Nat), (11 : Nat), (13 : Nat)), ((0 : Nat), (8 : Nat), (14 : Nat), (27 : Nat))]) (hpc := 11) ["java/lang/IndexOutOfBoundsException", "java/lang/IllegalStateException"] 0 0 K.2.2.2.1 K.2.2.2.2.1 hes hNC K.2.2.2.2.2.2.2.2.2.2.1 rfl (by decide) (fun q hq => by
          simp only [List.zip_cons_cons, List.zip_nil_right, List.mem_cons, List.not_mem_nil, or_false] at hq
          rcases hq with rfl | rfl
          all_goals first | exact nw_236 | exact nw_443) rfl rfl (fun i hi => absurd hi (Nat.not_lt_zero _)) nf_self hX ?_
      refine lv_astore_n (lv' := [(3, .ref x), (0, .ref (a 0)), (1, .int x1), (2, .ref (a 28))]) hx hb d_L_real_11 rfl hl (by decide) rfl (fun ls hl => ?_)
      refine lv_iconst (v := (1 : Int32)) hx hb d_L_real_12 (by decide) ?_
      exact nf_iretH K hw d_L_real_13 rfl (Nat.le_of_ble_eq_true rfl) (Nat.le_of_ble_eq_true rfl) (r := nI 1) rfl hp
    · cases Option.some.inj hj
      refine nf_catchW (hs := [((0 : Nat), (8 : Nat), (11 : Nat), (13 : Nat)), ((0 : Nat), (8 : Nat), (14 : Nat), (27 : Nat))]) (hpc := 14) ["java/lang/IndexOutOfBoundsException", "java/lang/IllegalStateException"] 2 1 K.2.2.2.1 K.2.2.2.2.1 hes hNC K.2.2.2.2.2.2.2.2.2.2.1 rfl (by decide) (fun q hq => by
          simp only [List.zip_cons_cons, List.zip_nil_right, List.mem_cons, List.not_mem_nil, or_false] at hq
          rcases hq with rfl | rfl
          all_goals first | exact nw_236 | exact nw_443) rfl rfl (fun i hi => by
          rcases (show i = 0 by omega) with rfl
          all_goals first | exact ⟨0, by decide, rfl⟩) nf_self hX ?_
      refine lv_astore_n (lv' := [(3, .ref x), (0, .ref (a 0)), (1, .int x1), (2, .ref (a 28))]) hx hb d_L_real_14 rfl hl (by decide) rfl (fun ls hl => ?_)
      refine lv_iconst (v := (2 : Int32)) hx hb d_L_real_15 (by decide) ?_
      exact nf_iretH K hw d_L_real_16 rfl (Nat.le_of_ble_eq_true rfl) (Nat.le_of_ble_eq_true rfl) (r := nI 2) rfl hp
  refine W.eq (g2 := F0 m 7 ls [.double r1, .int (0 : Int32), .ref (a 28)]) rfl ?_
  refine W.widen (k := 2) (n := 12) (by decide) (by decide) ?_
  obtain ⟨g3, h⟩ := h
  refine nf_dastH (M' := ms_D M2 28 (0 : Int32).toNatClampNeg r1) K hw 28 11 rfl rfl g3 rfl d_L_real_7 (fun H locs hw => ?_)
  obtain ⟨M4, eM4⟩ : ∃ z, z = ms_D M2 28 (0 : Int32).toNatClampNeg r1 := ⟨_, rfl⟩
  rw [← eM4] at hw
  have h := h M4 eM4
  refine lv_goto hx hb d_L_real_8 (tgt := 17) (by decide) ?_
  refine lv_iconst (v := (0 : Int32)) hx hb d_L_real_17 (by decide) ?_
  exact nf_iretH K hw d_L_real_18 rfl (Nat.le_of_ble_eq_true rfl) (Nat.le_of_ble_eq_true rfl) (r := (0 : Int32)) rfl h
theorem d_L_write_0 : decode nb_L_write 0 = .ok (.aload_n 2, 1) := by decide +kernel
theorem d_L_write_1 : decode nb_L_write 1 = .ok (.iconst 0, 1) := by decide +kernel
theorem d_L_write_2 : decode nb_L_write 2 = .ok (.aload_n 0, 1) := by decide +kernel
theorem d_L_write_3 : decode nb_L_write 3 = .ok (.iload_n 1, 1) := by decide +kernel
theorem d_L_write_4 : decode nb_L_write 4 = .ok (.invokevirtual 46, 3) := by decide +kernel
theorem d_L_write_7 : decode nb_L_write 7 = .ok (.i2l, 1) := by decide +kernel
theorem d_L_write_8 : decode nb_L_write 8 = .ok (.lastore, 1) := by decide +kernel
theorem d_L_write_9 : decode nb_L_write 9 = .ok (.goto 12, 3) := by decide +kernel
theorem d_L_write_12 : decode nb_L_write 12 = .ok (.astore_n 3, 1) := by decide +kernel
theorem d_L_write_13 : decode nb_L_write 13 = .ok (.iconst 1, 1) := by decide +kernel
theorem d_L_write_14 : decode nb_L_write 14 = .ok (.ireturn, 1) := by decide +kernel
theorem d_L_write_15 : decode nb_L_write 15 = .ok (.astore_n 3, 1) := by decide +kernel
theorem d_L_write_16 : decode nb_L_write 16 = .ok (.iconst 2, 1) := by decide +kernel
theorem d_L_write_17 : decode nb_L_write 17 = .ok (.ireturn, 1) := by decide +kernel
theorem d_L_write_18 : decode nb_L_write 18 = .ok (.astore_n 3, 1) := by decide +kernel
theorem d_L_write_19 : decode nb_L_write 19 = .ok (.iconst 3, 1) := by decide +kernel
theorem d_L_write_20 : decode nb_L_write 20 = .ok (.ireturn, 1) := by decide +kernel
theorem d_L_write_21 : decode nb_L_write 21 = .ok (.iconst 0, 1) := by decide +kernel
theorem d_L_write_22 : decode nb_L_write 22 = .ok (.ireturn, 1) := by decide +kernel
abbrev rm_L_write : Room := ({ frames := 9, cells := 3, slots := 18, locals := 230 })
theorem c_L_write (l : Launch) (hfl : l.flags = flags0) (x1 : Int32) : nf_CH nf_jI l nm_L_write nb_L_write 4 (some FieldType.int) [((0 : Nat), (9 : Nat), (12 : Nat), (13 : Nat)), ((0 : Nat), (9 : Nat), (15 : Nat), (27 : Nat)), ((0 : Nat), (9 : Nat), (18 : Nat), (17 : Nat))] rm_L_write (fun a => [.ref (a 0), .int x1, .ref (a 27)]) (fun M post ex => P_L_write x1 M post) := by
  refine nf_startH (plainFor_of_name (by decide +kernel)) (fun a => Nat.le_of_ble_eq_true rfl) ?_
  intro D a sz M post ex p e s m below meth c ls h K hes hNC hl hw
  have hx := K.1
  have hb := K.2.1
  have hl : lv_has ls 4 [(0, .ref (a 0)), (1, .int x1), (2, .ref (a 27))] := hl
  refine lv_aload_n hx hb d_L_write_0 rfl (lv_at hl 2 rfl) ?_
  refine lv_iconst (v := (0 : Int32)) hx hb d_L_write_1 (by decide) ?_
  refine lv_aload_n hx hb d_L_write_2 rfl (lv_at hl 0 rfl) ?_
  refine lv_iload_n hx hb d_L_write_3 rfl (lv_at hl 1 rfl) ?_
  refine nf_callWH (ex := nf_cat (fun j => nI (j + 1)) [0, 2, 4] post) (As := [.ref (a 0), .int x1]) (st0 := [.int x1, .ref (a 0), .int (0 : Int32), .ref (a 27)]) (rest := [.int (0 : Int32), .ref (a 27)]) K hw (nf_invV hx hb K.2.2.2.1 (nf_KgH K nw_716) (nf_KgH K nw_717) (nf_KgH K nw_718) (nf_KgH K nw_719) ⟨by decide, by decide⟩ (nf_rcvH K hw 0 6 rfl rfl) rfl nl_F_write rfl d_L_write_4) (c_F_write l hfl x1) nw_719 nw_1 rfl ⟨by decide, by decide⟩ (Nat.le_of_ble_eq_true rfl) hl.1 ⟨Nat.le_of_ble_eq_true rfl, Nat.le_of_ble_eq_true rfl⟩ h (fun k x M1 H locs hex hw hX => ?_) (fun r1 M2 H locs h hw => ?_)
  · obtain ⟨j, hj, hp⟩ := hex
    have hj9 : j < 3 := (List.getElem?_eq_some_iff.mp hj).1
    rcases (show j = 0 ∨ j = 1 ∨ j = 2 by omega) with rfl | rfl | rfl
    · cases Option.some.inj hj
      refine nf_catchW (hs := [((0 : Nat), (9 : Nat), (12 : Nat), (13 : Nat)), ((0 : Nat), (9 : Nat), (15 : Nat), (27 : Nat)), ((0 : Nat), (9 : Nat), (18 : Nat), (17 : Nat))]) (hpc := 12) ["java/lang/IndexOutOfBoundsException", "java/lang/IllegalStateException", "java/lang/UnsupportedOperationException"] 0 0 K.2.2.2.1 K.2.2.2.2.1 hes hNC K.2.2.2.2.2.2.2.2.2.2.1 rfl (by decide) (fun q hq => by
          simp only [List.zip_cons_cons, List.zip_nil_right, List.mem_cons, List.not_mem_nil, or_false] at hq
          rcases hq with rfl | rfl | rfl
          all_goals first | exact nw_236 | exact nw_443 | exact nw_238) rfl rfl (fun i hi => absurd hi (Nat.not_lt_zero _)) nf_self hX ?_
      refine lv_astore_n (lv' := [(3, .ref x), (0, .ref (a 0)), (1, .int x1), (2, .ref (a 27))]) hx hb d_L_write_12 rfl hl (by decide) rfl (fun ls hl => ?_)
      refine lv_iconst (v := (1 : Int32)) hx hb d_L_write_13 (by decide) ?_
      exact nf_iretH K hw d_L_write_14 rfl (Nat.le_of_ble_eq_true rfl) (Nat.le_of_ble_eq_true rfl) (r := nI 1) rfl hp
    · cases Option.some.inj hj
      refine nf_catchW (hs := [((0 : Nat), (9 : Nat), (12 : Nat), (13 : Nat)), ((0 : Nat), (9 : Nat), (15 : Nat), (27 : Nat)), ((0 : Nat), (9 : Nat), (18 : Nat), (17 : Nat))]) (hpc := 15) ["java/lang/IndexOutOfBoundsException", "java/lang/IllegalStateException", "java/lang/UnsupportedOperationException"] 2 1 K.2.2.2.1 K.2.2.2.2.1 hes hNC K.2.2.2.2.2.2.2.2.2.2.1 rfl (by decide) (fun q hq => by
          simp only [List.zip_cons_cons, List.zip_nil_right, List.mem_cons, List.not_mem_nil, or_false] at hq
          rcases hq with rfl | rfl | rfl
          all_goals first | exact nw_236 | exact nw_443 | exact nw_238) rfl rfl (fun i hi => by
          rcases (show i = 0 by omega) with rfl
          all_goals first | exact ⟨0, by decide, rfl⟩) nf_self hX ?_
      refine lv_astore_n (lv' := [(3, .ref x), (0, .ref (a 0)), (1, .int x1), (2, .ref (a 27))]) hx hb d_L_write_15 rfl hl (by decide) rfl (fun ls hl => ?_)
      refine lv_iconst (v := (2 : Int32)) hx hb d_L_write_16 (by decide) ?_
      exact nf_iretH K hw d_L_write_17 rfl (Nat.le_of_ble_eq_true rfl) (Nat.le_of_ble_eq_true rfl) (r := nI 2) rfl hp
    · cases Option.some.inj hj
      refine nf_catchW (hs := [((0 : Nat), (9 : Nat), (12 : Nat), (13 : Nat)), ((0 : Nat), (9 : Nat), (15 : Nat), (27 : Nat)), ((0 : Nat), (9 : Nat), (18 : Nat), (17 : Nat))]) (hpc := 18) ["java/lang/IndexOutOfBoundsException", "java/lang/IllegalStateException", "java/lang/UnsupportedOperationException"] 4 2 K.2.2.2.1 K.2.2.2.2.1 hes hNC K.2.2.2.2.2.2.2.2.2.2.1 rfl (by decide) (fun q hq => by
          simp only [List.zip_cons_cons, List.zip_nil_right, List.mem_cons, List.not_mem_nil, or_false] at hq
          rcases hq with rfl | rfl | rfl
          all_goals first | exact nw_236 | exact nw_443 | exact nw_238) rfl rfl (fun i hi => by
          rcases (show i = 0 ∨ i = 1 by omega) with rfl | rfl
          all_goals first | exact ⟨0, by decide, rfl⟩ | exact ⟨2, by decide, rfl⟩) nf_self hX ?_
      refine lv_astore_n (lv' := [(3, .ref x), (0, .ref (a 0)), (1, .int x1), (2, .ref (a 27))]) hx hb d_L_write_18 rfl hl (by decide) rfl (fun ls hl => ?_)
      refine lv_iconst (v := (3 : Int32)) hx hb d_L_write_19 (by decide) ?_
      exact nf_iretH K hw d_L_write_20 rfl (Nat.le_of_ble_eq_true rfl) (Nat.le_of_ble_eq_true rfl) (r := nI 3) rfl hp
  refine W.eq (g2 := F0 m 7 ls [.int r1, .int (0 : Int32), .ref (a 27)]) rfl ?_
  refine W.widen (k := 3) (n := 18) (by decide) (by decide) ?_
  refine lv_i2l hx hb d_L_write_7 rfl ?_
  refine lv_topl (fun t3 et3 => ?_)
  have h := h t3 et3
  obtain ⟨g4, h⟩ := h
  refine nf_lastH (M' := ms_L M2 27 (0 : Int32).toNatClampNeg t3) K hw 27 10 rfl rfl g4 rfl d_L_write_8 (fun H locs hw => ?_)
  obtain ⟨M5, eM5⟩ : ∃ z, z = ms_L M2 27 (0 : Int32).toNatClampNeg t3 := ⟨_, rfl⟩
  rw [← eM5] at hw
  have h := h M5 eM5
  refine lv_goto hx hb d_L_write_9 (tgt := 21) (by decide) ?_
  refine lv_iconst (v := (0 : Int32)) hx hb d_L_write_21 (by decide) ?_
  exact nf_iretH K hw d_L_write_22 rfl (Nat.le_of_ble_eq_true rfl) (Nat.le_of_ble_eq_true rfl) (r := (0 : Int32)) rfl h
theorem d_L_picture_0 : decode nb_L_picture 0 = .ok (.aload_n 2, 1) := by decide +kernel
theorem d_L_picture_1 : decode nb_L_picture 1 = .ok (.iconst 0, 1) := by decide +kernel
theorem d_L_picture_2 : decode nb_L_picture 2 = .ok (.aload_n 0, 1) := by decide +kernel
theorem d_L_picture_3 : decode nb_L_picture 3 = .ok (.iload_n 1, 1) := by decide +kernel
theorem d_L_picture_4 : decode nb_L_picture 4 = .ok (.invokevirtual 50, 3) := by decide +kernel
theorem d_L_picture_7 : decode nb_L_picture 7 = .ok (.i2l, 1) := by decide +kernel
theorem d_L_picture_8 : decode nb_L_picture 8 = .ok (.lastore, 1) := by decide +kernel
theorem d_L_picture_9 : decode nb_L_picture 9 = .ok (.goto 18, 3) := by decide +kernel
theorem d_L_picture_12 : decode nb_L_picture 12 = .ok (.astore_n 3, 1) := by decide +kernel
theorem d_L_picture_13 : decode nb_L_picture 13 = .ok (.iconst 1, 1) := by decide +kernel
theorem d_L_picture_14 : decode nb_L_picture 14 = .ok (.ireturn, 1) := by decide +kernel
theorem d_L_picture_15 : decode nb_L_picture 15 = .ok (.astore_n 3, 1) := by decide +kernel
theorem d_L_picture_16 : decode nb_L_picture 16 = .ok (.iconst 2, 1) := by decide +kernel
theorem d_L_picture_17 : decode nb_L_picture 17 = .ok (.ireturn, 1) := by decide +kernel
theorem d_L_picture_18 : decode nb_L_picture 18 = .ok (.astore_n 3, 1) := by decide +kernel
theorem d_L_picture_19 : decode nb_L_picture 19 = .ok (.iconst 3, 1) := by decide +kernel
theorem d_L_picture_20 : decode nb_L_picture 20 = .ok (.ireturn, 1) := by decide +kernel
theorem d_L_picture_21 : decode nb_L_picture 21 = .ok (.astore_n 3, 1) := by decide +kernel
theorem d_L_picture_22 : decode nb_L_picture 22 = .ok (.iconst 4, 1) := by decide +kernel
theorem d_L_picture_23 : decode nb_L_picture 23 = .ok (.ireturn, 1) := by decide +kernel
theorem d_L_picture_24 : decode nb_L_picture 24 = .ok (.astore_n 3, 1) := by decide +kernel
theorem d_L_picture_25 : decode nb_L_picture 25 = .ok (.iconst 5, 1) := by decide +kernel
theorem d_L_picture_26 : decode nb_L_picture 26 = .ok (.ireturn, 1) := by decide +kernel
theorem d_L_picture_27 : decode nb_L_picture 27 = .ok (.iconst 0, 1) := by decide +kernel
theorem d_L_picture_28 : decode nb_L_picture 28 = .ok (.ireturn, 1) := by decide +kernel
abbrev rm_L_picture : Room := ({ frames := 10, cells := 7, slots := 42, locals := 194 })
theorem c_L_picture (l : Launch) (hfl : l.flags = flags0) (x1 : Int32) : nf_CH nf_jI l nm_L_picture nb_L_picture 4 (some FieldType.int) [((0 : Nat), (9 : Nat), (12 : Nat), (13 : Nat)), ((0 : Nat), (9 : Nat), (15 : Nat), (27 : Nat)), ((0 : Nat), (9 : Nat), (18 : Nat), (15 : Nat)), ((0 : Nat), (9 : Nat), (21 : Nat), (29 : Nat)), ((0 : Nat), (9 : Nat), (24 : Nat), (17 : Nat))] rm_L_picture (fun a => [.ref (a 0), .int x1, .ref (a 27)]) (fun M post ex => P_L_picture x1 M post) := by
  refine nf_startH (plainFor_of_name (by decide +kernel)) (fun a => Nat.le_of_ble_eq_true rfl) ?_
  intro D a sz M post ex p e s m below meth c ls h K hes hNC hl hw
  have hx := K.1
  have hb := K.2.1
  have hl : lv_has ls 4 [(0, .ref (a 0)), (1, .int x1), (2, .ref (a 27))] := hl
  refine lv_aload_n hx hb d_L_picture_0 rfl (lv_at hl 2 rfl) ?_
  refine lv_iconst (v := (0 : Int32)) hx hb d_L_picture_1 (by decide) ?_
  refine lv_aload_n hx hb d_L_picture_2 rfl (lv_at hl 0 rfl) ?_
  refine lv_iload_n hx hb d_L_picture_3 rfl (lv_at hl 1 rfl) ?_
  refine nf_callWH (ex := nf_cat (fun j => nI (j + 1)) [0, 2, 1, 3, 4] post) (As := [.ref (a 0), .int x1]) (st0 := [.int x1, .ref (a 0), .int (0 : Int32), .ref (a 27)]) (rest := [.int (0 : Int32), .ref (a 27)]) K hw (nf_invV hx hb K.2.2.2.1 (nf_KgH K nw_831) (nf_KgH K nw_832) (nf_KgH K nw_833) (nf_KgH K nw_834) ⟨by decide, by decide⟩ (nf_rcvH K hw 0 6 rfl rfl) rfl nl_F_picture rfl d_L_picture_4) (c_F_picture l hfl x1) nw_834 nw_1 rfl ⟨by decide, by decide⟩ (Nat.le_of_ble_eq_true rfl) hl.1 ⟨Nat.le_of_ble_eq_true rfl, Nat.le_of_ble_eq_true rfl⟩ h (fun k x M1 H locs hex hw hX => ?_) (fun r1 M2 H locs h hw => ?_)
  · obtain ⟨j, hj, hp⟩ := hex
    have hj9 : j < 5 := (List.getElem?_eq_some_iff.mp hj).1
    rcases (show j = 0 ∨ j = 1 ∨ j = 2 ∨ j = 3 ∨ j = 4 by omega) with rfl | rfl | rfl | rfl | rfl
    · cases Option.some.inj hj
      refine nf_catchW (hs := [((0 : Nat), (9 : Nat), (12 : Nat), (13 : Nat)), ((0 : Nat), (9 : Nat), (15 : Nat), (27 : Nat)), ((0 : Nat), (9 : Nat), (18 : Nat), (15 : Nat)), ((0 : Nat), (9 : Nat), (21 : Nat), (29 : Nat)), ((0 : Nat), (9 : Nat), (24 : Nat), (17 : Nat))]) (hpc := 12) ["java/lang/IndexOutOfBoundsException", "java/lang/IllegalStateException", "java/lang/IllegalArgumentException", "java/lang/ArithmeticException", "java/lang/UnsupportedOperationException"] 0 0 K.2.2.2.1 K.2.2.2.2.1 hes hNC K.2.2.2.2.2.2.2.2.2.2.1 rfl (by decide) (fun q hq => by
          simp only [List.zip_cons_cons, List.zip_nil_right, List.mem_cons, List.not_mem_nil, or_false] at hq
          rcases hq with rfl | rfl | rfl | rfl | rfl
          all_goals first | exact nw_236 | exact nw_443 | exact nw_237 | exact nw_444 | exact nw_238) rfl rfl (fun i hi => absurd hi (Nat.not_lt_zero _)) nf_self hX ?_
      refine lv_astore_n (lv' := [(3, .ref x), (0, .ref (a 0)), (1, .int x1), (2, .ref (a 27))]) hx hb d_L_picture_12 rfl hl (by decide) rfl (fun ls hl => ?_)
      refine lv_iconst (v := (1 : Int32)) hx hb d_L_picture_13 (by decide) ?_
      exact nf_iretH K hw d_L_picture_14 rfl (Nat.le_of_ble_eq_true rfl) (Nat.le_of_ble_eq_true rfl) (r := nI 1) rfl hp
    · cases Option.some.inj hj
      refine nf_catchW (hs := [((0 : Nat), (9 : Nat), (12 : Nat), (13 : Nat)), ((0 : Nat), (9 : Nat), (15 : Nat), (27 : Nat)), ((0 : Nat), (9 : Nat), (18 : Nat), (15 : Nat)), ((0 : Nat), (9 : Nat), (21 : Nat), (29 : Nat)), ((0 : Nat), (9 : Nat), (24 : Nat), (17 : Nat))]) (hpc := 15) ["java/lang/IndexOutOfBoundsException", "java/lang/IllegalStateException", "java/lang/IllegalArgumentException", "java/lang/ArithmeticException", "java/lang/UnsupportedOperationException"] 2 1 K.2.2.2.1 K.2.2.2.2.1 hes hNC K.2.2.2.2.2.2.2.2.2.2.1 rfl (by decide) (fun q hq => by
          simp only [List.zip_cons_cons, List.zip_nil_right, List.mem_cons, List.not_mem_nil, or_false] at hq
          rcases hq with rfl | rfl | rfl | rfl | rfl
          all_goals first | exact nw_236 | exact nw_443 | exact nw_237 | exact nw_444 | exact nw_238) rfl rfl (fun i hi => by
          rcases (show i = 0 by omega) with rfl
          all_goals first | exact ⟨0, by decide, rfl⟩) nf_self hX ?_
      refine lv_astore_n (lv' := [(3, .ref x), (0, .ref (a 0)), (1, .int x1), (2, .ref (a 27))]) hx hb d_L_picture_15 rfl hl (by decide) rfl (fun ls hl => ?_)
      refine lv_iconst (v := (2 : Int32)) hx hb d_L_picture_16 (by decide) ?_
      exact nf_iretH K hw d_L_picture_17 rfl (Nat.le_of_ble_eq_true rfl) (Nat.le_of_ble_eq_true rfl) (r := nI 2) rfl hp
    · cases Option.some.inj hj
      refine nf_catchW (hs := [((0 : Nat), (9 : Nat), (12 : Nat), (13 : Nat)), ((0 : Nat), (9 : Nat), (15 : Nat), (27 : Nat)), ((0 : Nat), (9 : Nat), (18 : Nat), (15 : Nat)), ((0 : Nat), (9 : Nat), (21 : Nat), (29 : Nat)), ((0 : Nat), (9 : Nat), (24 : Nat), (17 : Nat))]) (hpc := 18) ["java/lang/IndexOutOfBoundsException", "java/lang/IllegalStateException", "java/lang/IllegalArgumentException", "java/lang/ArithmeticException", "java/lang/UnsupportedOperationException"] 1 2 K.2.2.2.1 K.2.2.2.2.1 hes hNC K.2.2.2.2.2.2.2.2.2.2.1 rfl (by decide) (fun q hq => by
          simp only [List.zip_cons_cons, List.zip_nil_right, List.mem_cons, List.not_mem_nil, or_false] at hq
          rcases hq with rfl | rfl | rfl | rfl | rfl
          all_goals first | exact nw_236 | exact nw_443 | exact nw_237 | exact nw_444 | exact nw_238) rfl rfl (fun i hi => by
          rcases (show i = 0 ∨ i = 1 by omega) with rfl | rfl
          all_goals first | exact ⟨0, by decide, rfl⟩ | exact ⟨2, by decide, rfl⟩) nf_self hX ?_
      refine lv_astore_n (lv' := [(3, .ref x), (0, .ref (a 0)), (1, .int x1), (2, .ref (a 27))]) hx hb d_L_picture_18 rfl hl (by decide) rfl (fun ls hl => ?_)
      refine lv_iconst (v := (3 : Int32)) hx hb d_L_picture_19 (by decide) ?_
      exact nf_iretH K hw d_L_picture_20 rfl (Nat.le_of_ble_eq_true rfl) (Nat.le_of_ble_eq_true rfl) (r := nI 3) rfl hp
    · cases Option.some.inj hj
      refine nf_catchW (hs := [((0 : Nat), (9 : Nat), (12 : Nat), (13 : Nat)), ((0 : Nat), (9 : Nat), (15 : Nat), (27 : Nat)), ((0 : Nat), (9 : Nat), (18 : Nat), (15 : Nat)), ((0 : Nat), (9 : Nat), (21 : Nat), (29 : Nat)), ((0 : Nat), (9 : Nat), (24 : Nat), (17 : Nat))]) (hpc := 21) ["java/lang/IndexOutOfBoundsException", "java/lang/IllegalStateException", "java/lang/IllegalArgumentException", "java/lang/ArithmeticException", "java/lang/UnsupportedOperationException"] 3 3 K.2.2.2.1 K.2.2.2.2.1 hes hNC K.2.2.2.2.2.2.2.2.2.2.1 rfl (by decide) (fun q hq => by
          simp only [List.zip_cons_cons, List.zip_nil_right, List.mem_cons, List.not_mem_nil, or_false] at hq
          rcases hq with rfl | rfl | rfl | rfl | rfl
          all_goals first | exact nw_236 | exact nw_443 | exact nw_237 | exact nw_444 | exact nw_238) rfl rfl (fun i hi => by
          rcases (show i = 0 ∨ i = 1 ∨ i = 2 by omega) with rfl | rfl | rfl
          all_goals first | exact ⟨0, by decide, rfl⟩ | exact ⟨2, by decide, rfl⟩ | exact ⟨1, by decide, rfl⟩) nf_self hX ?_
      refine lv_astore_n (lv' := [(3, .ref x), (0, .ref (a 0)), (1, .int x1), (2, .ref (a 27))]) hx hb d_L_picture_21 rfl hl (by decide) rfl (fun ls hl => ?_)
      refine lv_iconst (v := (4 : Int32)) hx hb d_L_picture_22 (by decide) ?_
      exact nf_iretH K hw d_L_picture_23 rfl (Nat.le_of_ble_eq_true rfl) (Nat.le_of_ble_eq_true rfl) (r := nI 4) rfl hp
    · cases Option.some.inj hj
      refine nf_catchW (hs := [((0 : Nat), (9 : Nat), (12 : Nat), (13 : Nat)), ((0 : Nat), (9 : Nat), (15 : Nat), (27 : Nat)), ((0 : Nat), (9 : Nat), (18 : Nat), (15 : Nat)), ((0 : Nat), (9 : Nat), (21 : Nat), (29 : Nat)), ((0 : Nat), (9 : Nat), (24 : Nat), (17 : Nat))]) (hpc := 24) ["java/lang/IndexOutOfBoundsException", "java/lang/IllegalStateException", "java/lang/IllegalArgumentException", "java/lang/ArithmeticException", "java/lang/UnsupportedOperationException"] 4 4 K.2.2.2.1 K.2.2.2.2.1 hes hNC K.2.2.2.2.2.2.2.2.2.2.1 rfl (by decide) (fun q hq => by
          simp only [List.zip_cons_cons, List.zip_nil_right, List.mem_cons, List.not_mem_nil, or_false] at hq
          rcases hq with rfl | rfl | rfl | rfl | rfl
          all_goals first | exact nw_236 | exact nw_443 | exact nw_237 | exact nw_444 | exact nw_238) rfl rfl (fun i hi => by
          rcases (show i = 0 ∨ i = 1 ∨ i = 2 ∨ i = 3 by omega) with rfl | rfl | rfl | rfl
          all_goals first | exact ⟨0, by decide, rfl⟩ | exact ⟨2, by decide, rfl⟩ | exact ⟨1, by decide, rfl⟩ | exact ⟨3, by decide, rfl⟩) nf_self hX ?_
      refine lv_astore_n (lv' := [(3, .ref x), (0, .ref (a 0)), (1, .int x1), (2, .ref (a 27))]) hx hb d_L_picture_24 rfl hl (by decide) rfl (fun ls hl => ?_)
      refine lv_iconst (v := (5 : Int32)) hx hb d_L_picture_25 (by decide) ?_
      exact nf_iretH K hw d_L_picture_26 rfl (Nat.le_of_ble_eq_true rfl) (Nat.le_of_ble_eq_true rfl) (r := nI 5) rfl hp
  refine W.eq (g2 := F0 m 7 ls [.int r1, .int (0 : Int32), .ref (a 27)]) rfl ?_
  refine W.widen (k := 7) (n := 42) (by decide) (by decide) ?_
  refine lv_i2l hx hb d_L_picture_7 rfl ?_
  refine lv_topl (fun t3 et3 => ?_)
  have h := h t3 et3
  obtain ⟨g4, h⟩ := h
  refine nf_lastH (M' := ms_L M2 27 (0 : Int32).toNatClampNeg t3) K hw 27 10 rfl rfl g4 rfl d_L_picture_8 (fun H locs hw => ?_)
  obtain ⟨M5, eM5⟩ : ∃ z, z = ms_L M2 27 (0 : Int32).toNatClampNeg t3 := ⟨_, rfl⟩
  rw [← eM5] at hw
  have h := h M5 eM5
  refine lv_goto hx hb d_L_picture_9 (tgt := 27) (by decide) ?_
  refine lv_iconst (v := (0 : Int32)) hx hb d_L_picture_27 (by decide) ?_
  exact nf_iretH K hw d_L_picture_28 rfl (Nat.le_of_ble_eq_true rfl) (Nat.le_of_ble_eq_true rfl) (r := (0 : Int32)) rfl h
theorem d_L_letters_0 : decode nb_L_letters 0 = .ok (.aload_n 3, 1) := by decide +kernel
theorem d_L_letters_1 : decode nb_L_letters 1 = .ok (.iconst 0, 1) := by decide +kernel
theorem d_L_letters_2 : decode nb_L_letters 2 = .ok (.aload_n 0, 1) := by decide +kernel
theorem d_L_letters_3 : decode nb_L_letters 3 = .ok (.iload_n 1, 1) := by decide +kernel
theorem d_L_letters_4 : decode nb_L_letters 4 = .ok (.iload_n 2, 1) := by decide +kernel
theorem d_L_letters_5 : decode nb_L_letters 5 = .ok (.invokevirtual 53, 3) := by decide +kernel
theorem d_L_letters_8 : decode nb_L_letters 8 = .ok (.i2l, 1) := by decide +kernel
theorem d_L_letters_9 : decode nb_L_letters 9 = .ok (.lastore, 1) := by decide +kernel
theorem d_L_letters_10 : decode nb_L_letters 10 = .ok (.goto 11, 3) := by decide +kernel
theorem d_L_letters_13 : decode nb_L_letters 13 = .ok (.astore 4, 2) := by decide +kernel
theorem d_L_letters_15 : decode nb_L_letters 15 = .ok (.iconst 1, 1) := by decide +kernel
theorem d_L_letters_16 : decode nb_L_letters 16 = .ok (.ireturn, 1) := by decide +kernel
theorem d_L_letters_17 : decode nb_L_letters 17 = .ok (.astore 4, 2) := by decide +kernel
theorem d_L_letters_19 : decode nb_L_letters 19 = .ok (.iconst 2, 1) := by decide +kernel
theorem d_L_letters_20 : decode nb_L_letters 20 = .ok (.ireturn, 1) := by decide +kernel
theorem d_L_letters_21 : decode nb_L_letters 21 = .ok (.iconst 0, 1) := by decide +kernel
theorem d_L_letters_22 : decode nb_L_letters 22 = .ok (.ireturn, 1) := by decide +kernel
abbrev rm_L_letters : Room := ({ frames := 9, cells := 3, slots := 18, locals := 235 })
theorem c_L_letters (l : Launch) (hfl : l.flags = flags0) (x1 : Int32) (x2 : Int32) : nf_CH nf_jI l nm_L_letters nb_L_letters 5 (some FieldType.int) [((0 : Nat), (10 : Nat), (13 : Nat), (13 : Nat)), ((0 : Nat), (10 : Nat), (17 : Nat), (27 : Nat))] rm_L_letters (fun a => [.ref (a 0), .int x1, .int x2, .ref (a 27)]) (fun M post ex => P_L_letters x1 x2 M post) := by
  refine nf_startH (plainFor_of_name (by decide +kernel)) (fun a => Nat.le_of_ble_eq_true rfl) ?_
  intro D a sz M post ex p e s m below meth c ls h K hes hNC hl hw
  have hx := K.1
  have hb := K.2.1
  have hl : lv_has ls 5 [(0, .ref (a 0)), (1, .int x1), (2, .int x2), (3, .ref (a 27))] := hl
  refine lv_aload_n hx hb d_L_letters_0 rfl (lv_at hl 3 rfl) ?_
  refine lv_iconst (v := (0 : Int32)) hx hb d_L_letters_1 (by decide) ?_
  refine lv_aload_n hx hb d_L_letters_2 rfl (lv_at hl 0 rfl) ?_
  refine lv_iload_n hx hb d_L_letters_3 rfl (lv_at hl 1 rfl) ?_
  refine lv_iload_n hx hb d_L_letters_4 rfl (lv_at hl 2 rfl) ?_
  refine nf_callWH (ex := nf_cat (fun j => nI (j + 1)) [0, 2] post) (As := [.ref (a 0), .int x1, .int x2]) (st0 := [.int x2, .int x1, .ref (a 0), .int (0 : Int32), .ref (a 27)]) (rest := [.int (0 : Int32), .ref (a 27)]) K hw (nf_invV hx hb K.2.2.2.1 (nf_KgH K nw_897) (nf_KgH K nw_898) (nf_KgH K nw_899) (nf_KgH K nw_900) ⟨by decide, by decide⟩ (nf_rcvH K hw 0 6 rfl rfl) rfl nl_F_letters rfl d_L_letters_5) (c_F_letters l hfl x1 x2) nw_900 nw_1 rfl ⟨by decide, by decide⟩ (Nat.le_of_ble_eq_true rfl) hl.1 ⟨Nat.le_of_ble_eq_true rfl, Nat.le_of_ble_eq_true rfl⟩ h (fun k x M1 H locs hex hw hX => ?_) (fun r1 M2 H locs h hw => ?_)
  · obtain ⟨j, hj, hp⟩ := hex
    have hj9 : j < 2 := (List.getElem?_eq_some_iff.mp hj).1
    rcases (show j = 0 ∨ j = 1 by omega) with rfl | rfl
    · cases Option.some.inj hj
      refine nf_catchW (hs := [((0 : Nat), (10 : Nat), (13 : Nat), (13 : Nat)), ((0 : Nat), (10 : Nat), (17 : Nat), (27 : Nat))]) (hpc := 13) ["java/lang/IndexOutOfBoundsException", "java/lang/IllegalStateException"] 0 0 K.2.2.2.1 K.2.2.2.2.1 hes hNC K.2.2.2.2.2.2.2.2.2.2.1 rfl (by decide) (fun q hq => by
          simp only [List.zip_cons_cons, List.zip_nil_right, List.mem_cons, List.not_mem_nil, or_false] at hq
          rcases hq with rfl | rfl
          all_goals first | exact nw_236 | exact nw_443) rfl rfl (fun i hi => absurd hi (Nat.not_lt_zero _)) nf_self hX ?_
      refine lv_astore (lv' := [(4, .ref x), (0, .ref (a 0)), (1, .int x1), (2, .int x2), (3, .ref (a 27))]) hx hb d_L_letters_13 hl (by decide) rfl (fun ls hl => ?_)
      refine lv_iconst (v := (1 : Int32)) hx hb d_L_letters_15 (by decide) ?_
      exact nf_iretH K hw d_L_letters_16 rfl (Nat.le_of_ble_eq_true rfl) (Nat.le_of_ble_eq_true rfl) (r := nI 1) rfl hp
    · cases Option.some.inj hj
      refine nf_catchW (hs := [((0 : Nat), (10 : Nat), (13 : Nat), (13 : Nat)), ((0 : Nat), (10 : Nat), (17 : Nat), (27 : Nat))]) (hpc := 17) ["java/lang/IndexOutOfBoundsException", "java/lang/IllegalStateException"] 2 1 K.2.2.2.1 K.2.2.2.2.1 hes hNC K.2.2.2.2.2.2.2.2.2.2.1 rfl (by decide) (fun q hq => by
          simp only [List.zip_cons_cons, List.zip_nil_right, List.mem_cons, List.not_mem_nil, or_false] at hq
          rcases hq with rfl | rfl
          all_goals first | exact nw_236 | exact nw_443) rfl rfl (fun i hi => by
          rcases (show i = 0 by omega) with rfl
          all_goals first | exact ⟨0, by decide, rfl⟩) nf_self hX ?_
      refine lv_astore (lv' := [(4, .ref x), (0, .ref (a 0)), (1, .int x1), (2, .int x2), (3, .ref (a 27))]) hx hb d_L_letters_17 hl (by decide) rfl (fun ls hl => ?_)
      refine lv_iconst (v := (2 : Int32)) hx hb d_L_letters_19 (by decide) ?_
      exact nf_iretH K hw d_L_letters_20 rfl (Nat.le_of_ble_eq_true rfl) (Nat.le_of_ble_eq_true rfl) (r := nI 2) rfl hp
  refine W.eq (g2 := F0 m 8 ls [.int r1, .int (0 : Int32), .ref (a 27)]) rfl ?_
  refine W.widen (k := 3) (n := 18) (by decide) (by decide) ?_
  refine lv_i2l hx hb d_L_letters_8 rfl ?_
  refine lv_topl (fun t3 et3 => ?_)
  have h := h t3 et3
  obtain ⟨g4, h⟩ := h
  refine nf_lastH (M' := ms_L M2 27 (0 : Int32).toNatClampNeg t3) K hw 27 10 rfl rfl g4 rfl d_L_letters_9 (fun H locs hw => ?_)
  obtain ⟨M5, eM5⟩ : ∃ z, z = ms_L M2 27 (0 : Int32).toNatClampNeg t3 := ⟨_, rfl⟩
  rw [← eM5] at hw
  have h := h M5 eM5
  refine lv_goto hx hb d_L_letters_10 (tgt := 21) (by decide) ?_
  refine lv_iconst (v := (0 : Int32)) hx hb d_L_letters_21 (by decide) ?_
  exact nf_iretH K hw d_L_letters_22 rfl (Nat.le_of_ble_eq_true rfl) (Nat.le_of_ble_eq_true rfl) (r := (0 : Int32)) rfl h
