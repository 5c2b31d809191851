/-! constructors (printed by wip/whole/gen/ctor.py) -/
theorem nf_xget {α : Type} (X L : List α) (k : Nat) {v : α} (h : L[k]? = some v) : (X ++ L)[X.length + k]? = some v := by rw [List.getElem?_append_right (Nat.le_add_right _ _), Nat.add_sub_cancel_left]; exact h
theorem nf_xset {α : Type} (X L : List α) (k : Nat) {v : α} {L' : List α} (h : L.set k v = L') : (X ++ L).set (X.length + k) v = X ++ L' := by rw [List.set_append_right _ _ (Nat.le_add_right _ _), Nat.add_sub_cancel_left, h]
theorem nf_KL9 {p : Program} {s : State} {m : MethodId} {args : Array Value} {meth : Method} {c : Code} {y : MethodName} {cc : ByteArray} {nL : Nat} (K : nf_KL p s m args meth c y cc nL) : nf_NW s := K.2.2.2.2.2.2.2.2.1
theorem nf_KrL {p : Program} {s : State} {m : MethodId} {args : Array Value} {meth : Method} {c : Code} {y : MethodName} {cc : ByteArray} {nL : Nat} (K : nf_KL p s m args meth c y cc nL) {w : Cond} (h : w ∈ nf_rest) : va_Nw w s := K.2.2.2.2.2.2.2.2.1 w h
theorem nf_dvD (j : Nat) (hj : j < 2) : defaultValue (ny_D j) = vp_V [.long 0, .int 0] j := by
  rcases (show j = 0 ∨ j = 1 by omega) with rfl | rfl <;> rfl
theorem nf_dvN (j : Nat) (hj : j < 7) : defaultValue (ny_N j) = vp_V [.int 0, .int 0, .int 0, .int 0, .long 0, .int 0, .int 0] j := by
  rcases (show j = 0 ∨ j = 1 ∨ j = 2 ∨ j = 3 ∨ j = 4 ∨ j = 5 ∨ j = 6 by omega) with rfl | rfl | rfl | rfl | rfl | rfl | rfl <;> rfl
theorem nf_dvP (j : Nat) (hj : j < 8) : defaultValue (ny_P j) = vp_V [.int 0, .int 0, .int 0, .int 0, .int 0, .int 0, .int 0, .int 0] j := by
  rcases (show j = 0 ∨ j = 1 ∨ j = 2 ∨ j = 3 ∨ j = 4 ∨ j = 5 ∨ j = 6 ∨ j = 7 by omega) with rfl | rfl | rfl | rfl | rfl | rfl | rfl | rfl <;> rfl
theorem nf_dvR (j : Nat) (hj : j < 2) : defaultValue (ny_R j) = vp_V [.null, .int 0] j := by
  rcases (show j = 0 ∨ j = 1 by omega) with rfl | rfl <;> rfl
theorem nf_dvV (j : Nat) (hj : j < 4) : defaultValue (ny_V j) = vp_V [.int 0, .long 0, .int 0, .double 0] j := by
  rcases (show j = 0 ∨ j = 1 ∨ j = 2 ∨ j = 3 by omega) with rfl | rfl | rfl | rfl <;> rfl
theorem nf_dvW (j : Nat) (hj : j < 2) : defaultValue (ny_W j) = vp_V [.long 0, .long 0] j := by
  rcases (show j = 0 ∨ j = 1 by omega) with rfl | rfl <;> rfl
theorem nf_dvF (j : Nat) (hj : j < 8) : defaultValue (ny_F j) = vp_V [.null, .null, .null, .null, .null, .null, .null, .null] j := by
  rcases (show j = 0 ∨ j = 1 ∨ j = 2 ∨ j = 3 ∨ j = 4 ∨ j = 5 ∨ j = 6 ∨ j = 7 by omega) with rfl | rfl | rfl | rfl | rfl | rfl | rfl | rfl <;> rfl
theorem nf_dvM (j : Nat) (hj : j < 19) : defaultValue (ny_M j) = vp_V [.int 0, .int 0, .null, .int 0, .null, .null, .null, .null, .null, .int 0, .long 0, .int 0, .double 0, .int 0, .null, .int 0, .int 0, .int 0, .int 0] j := by
  rcases (show j = 0 ∨ j = 1 ∨ j = 2 ∨ j = 3 ∨ j = 4 ∨ j = 5 ∨ j = 6 ∨ j = 7 ∨ j = 8 ∨ j = 9 ∨ j = 10 ∨ j = 11 ∨ j = 12 ∨ j = 13 ∨ j = 14 ∨ j = 15 ∨ j = 16 ∨ j = 17 ∨ j = 18 by omega) with rfl | rfl | rfl | rfl | rfl | rfl | rfl | rfl | rfl | rfl | rfl | rfl | rfl | rfl | rfl | rfl | rfl | rfl | rfl <;> rfl
theorem d_D_init_0 : decode nb_D_init 0 = .ok (.aload_n 0, 1) := by decide +kernel
theorem d_D_init_1 : decode nb_D_init 1 = .ok (.invokespecial 3, 3) := by decide +kernel
theorem d_D_init_4 : decode nb_D_init 4 = .ok (.return_, 1) := by decide +kernel
abbrev rm_D_init : Room := ({ frames := 1, cells := 0, slots := 0, locals := 20 })
theorem c_D_init (l : Launch) (X : va_W) (T : List (ClassId × FieldType)) (q0 : Nat) {D : va_G} : nf_CL l nm_D_init nb_D_init 1 rm_D_init [.ref q0] D (X ++ [(q0, .inr (0, [.long 0, .int 0]))]) T (fun ws' tys' => ws' = X ++ [(q0, .inr (0, [.long 0, .int 0]))] ∧ tys' = T) := by
  refine nf_startL (plainFor_of_name (by decide +kernel)) (Nat.le_of_ble_eq_true rfl) ?_
  intro A p e s m below meth c ls K hA hl hw
  have hx := K.1
  have hb := K.2.1
  have hl : lv_has ls 1 [(0, .ref q0)] := hl
  refine lv_aload_n hx hb d_D_init_0 rfl (lv_at hl 0 rfl) ?_
  refine nf_oinitL (idx := 3) K nw_144 nw_29 nw_30 hl.1 d_D_init_1 (Nat.le_of_ble_eq_true rfl) (Nat.le_of_ble_eq_true rfl) ?_
  exact nf_vretL K hw d_D_init_4 (Nat.le_of_ble_eq_true rfl) (Nat.le_of_ble_eq_true rfl) ⟨rfl, rfl⟩
theorem d_N_init_0 : decode nb_N_init 0 = .ok (.aload_n 0, 1) := by decide +kernel
theorem d_N_init_1 : decode nb_N_init 1 = .ok (.invokespecial 3, 3) := by decide +kernel
theorem d_N_init_4 : decode nb_N_init 4 = .ok (.return_, 1) := by decide +kernel
abbrev rm_N_init : Room := ({ frames := 1, cells := 0, slots := 0, locals := 20 })
theorem c_N_init (l : Launch) (X : va_W) (T : List (ClassId × FieldType)) (q0 : Nat) {D : va_G} : nf_CL l nm_N_init nb_N_init 1 rm_N_init [.ref q0] D (X ++ [(q0, .inr (1, [.int 0, .int 0, .int 0, .int 0, .long 0, .int 0, .int 0]))]) T (fun ws' tys' => ws' = X ++ [(q0, .inr (1, [.int 0, .int 0, .int 0, .int 0, .long 0, .int 0, .int 0]))] ∧ tys' = T) := by
  refine nf_startL (plainFor_of_name (by decide +kernel)) (Nat.le_of_ble_eq_true rfl) ?_
  intro A p e s m below meth c ls K hA hl hw
  have hx := K.1
  have hb := K.2.1
  have hl : lv_has ls 1 [(0, .ref q0)] := hl
  refine lv_aload_n hx hb d_N_init_0 rfl (lv_at hl 0 rfl) ?_
  refine nf_oinitL (idx := 3) K nw_82 nw_29 nw_30 hl.1 d_N_init_1 (Nat.le_of_ble_eq_true rfl) (Nat.le_of_ble_eq_true rfl) ?_
  exact nf_vretL K hw d_N_init_4 (Nat.le_of_ble_eq_true rfl) (Nat.le_of_ble_eq_true rfl) ⟨rfl, rfl⟩
theorem d_P_init_0 : decode nb_P_init 0 = .ok (.aload_n 0, 1) := by decide +kernel
theorem d_P_init_1 : decode nb_P_init 1 = .ok (.invokespecial 1, 3) := by decide +kernel
theorem d_P_init_4 : decode nb_P_init 4 = .ok (.return_, 1) := by decide +kernel
abbrev rm_P_init : Room := ({ frames := 1, cells := 0, slots := 0, locals := 20 })
theorem c_P_init (l : Launch) (X : va_W) (T : List (ClassId × FieldType)) (q0 : Nat) {D : va_G} : nf_CL l nm_P_init nb_P_init 1 rm_P_init [.ref q0] D (X ++ [(q0, .inr (2, [.int 0, .int 0, .int 0, .int 0, .int 0, .int 0, .int 0, .int 0]))]) T (fun ws' tys' => ws' = X ++ [(q0, .inr (2, [.int 0, .int 0, .int 0, .int 0, .int 0, .int 0, .int 0, .int 0]))] ∧ tys' = T) := by
  refine nf_startL (plainFor_of_name (by decide +kernel)) (Nat.le_of_ble_eq_true rfl) ?_
  intro A p e s m below meth c ls K hA hl hw
  have hx := K.1
  have hb := K.2.1
  have hl : lv_has ls 1 [(0, .ref q0)] := hl
  refine lv_aload_n hx hb d_P_init_0 rfl (lv_at hl 0 rfl) ?_
  refine nf_oinitL (idx := 1) K nw_110 nw_29 nw_30 hl.1 d_P_init_1 (Nat.le_of_ble_eq_true rfl) (Nat.le_of_ble_eq_true rfl) ?_
  exact nf_vretL K hw d_P_init_4 (Nat.le_of_ble_eq_true rfl) (Nat.le_of_ble_eq_true rfl) ⟨rfl, rfl⟩
theorem d_W_init_0 : decode nb_W_init 0 = .ok (.aload_n 0, 1) := by decide +kernel
theorem d_W_init_1 : decode nb_W_init 1 = .ok (.invokespecial 3, 3) := by decide +kernel
theorem d_W_init_4 : decode nb_W_init 4 = .ok (.return_, 1) := by decide +kernel
abbrev rm_W_init : Room := ({ frames := 1, cells := 0, slots := 0, locals := 20 })
theorem c_W_init (l : Launch) (X : va_W) (T : List (ClassId × FieldType)) (q0 : Nat) {D : va_G} : nf_CL l nm_W_init nb_W_init 1 rm_W_init [.ref q0] D (X ++ [(q0, .inr (5, [.long 0, .long 0]))]) T (fun ws' tys' => ws' = X ++ [(q0, .inr (5, [.long 0, .long 0]))] ∧ tys' = T) := by
  refine nf_startL (plainFor_of_name (by decide +kernel)) (Nat.le_of_ble_eq_true rfl) ?_
  intro A p e s m below meth c ls K hA hl hw
  have hx := K.1
  have hb := K.2.1
  have hl : lv_has ls 1 [(0, .ref q0)] := hl
  refine lv_aload_n hx hb d_W_init_0 rfl (lv_at hl 0 rfl) ?_
  refine nf_oinitL (idx := 3) K nw_159 nw_29 nw_30 hl.1 d_W_init_1 (Nat.le_of_ble_eq_true rfl) (Nat.le_of_ble_eq_true rfl) ?_
  exact nf_vretL K hw d_W_init_4 (Nat.le_of_ble_eq_true rfl) (Nat.le_of_ble_eq_true rfl) ⟨rfl, rfl⟩
theorem d_V_init_0 : decode nb_V_init 0 = .ok (.aload_n 0, 1) := by decide +kernel
theorem d_V_init_1 : decode nb_V_init 1 = .ok (.invokespecial 3, 3) := by decide +kernel
theorem d_V_init_4 : decode nb_V_init 4 = .ok (.aload_n 0, 1) := by decide +kernel
theorem d_V_init_5 : decode nb_V_init 5 = .ok (.iconst (-1), 1) := by decide +kernel
theorem d_V_init_6 : decode nb_V_init 6 = .ok (.putfield 9, 3) := by decide +kernel
theorem d_V_init_9 : decode nb_V_init 9 = .ok (.return_, 1) := by decide +kernel
abbrev rm_V_init : Room := ({ frames := 1, cells := 0, slots := 0, locals := 20 })
theorem c_V_init (l : Launch) (X : va_W) (T : List (ClassId × FieldType)) (q0 : Nat) {D : va_G} : nf_CL l nm_V_init nb_V_init 1 rm_V_init [.ref q0] D (X ++ [(q0, .inr (4, [.int 0, .long 0, .int 0, .double 0]))]) T (fun ws' tys' => ws' = X ++ [(q0, .inr (4, [.int (-1), .long 0, .int 0, .double 0]))] ∧ tys' = T) := by
  refine nf_startL (plainFor_of_name (by decide +kernel)) (Nat.le_of_ble_eq_true rfl) ?_
  intro A p e s m below meth c ls K hA hl hw
  have hx := K.1
  have hb := K.2.1
  have hl : lv_has ls 1 [(0, .ref q0)] := hl
  refine lv_aload_n hx hb d_V_init_0 rfl (lv_at hl 0 rfl) ?_
  refine nf_oinitL (idx := 3) K nw_37 nw_29 nw_30 hl.1 d_V_init_1 (Nat.le_of_ble_eq_true rfl) (Nat.le_of_ble_eq_true rfl) ?_
  refine lv_aload_n hx hb d_V_init_4 rfl (lv_at hl 0 rfl) ?_
  refine lv_iconst (v := (-1 : Int32)) hx hb d_V_init_5 (by decide) ?_
  refine nf_putL (ws' := (X ++ [(q0, .inr (4, [.int (-1), .long 0, .int 0, .double 0]))])) (T := nt_V) (v := .int (-1)) K hw (X.length + 0) 4 0 nw_38 (nf_xget X _ 0 rfl) (nf_xset X _ 0 rfl) rfl ni_V ny_V nq_V nn_V (by decide) rfl (Or.inl rfl) rfl rfl (Nat.le_of_ble_eq_true rfl) d_V_init_6 (fun H locs hw => ?_)
  exact nf_vretL K hw d_V_init_9 (Nat.le_of_ble_eq_true rfl) (Nat.le_of_ble_eq_true rfl) ⟨rfl, rfl⟩
theorem d_R_init_0 : decode nb_R_init 0 = .ok (.aload_n 0, 1) := by decide +kernel
theorem d_R_init_1 : decode nb_R_init 1 = .ok (.invokespecial 1, 3) := by decide +kernel
theorem d_R_init_4 : decode nb_R_init 4 = .ok (.aload_n 0, 1) := by decide +kernel
theorem d_R_init_5 : decode nb_R_init 5 = .ok (.iload_n 1, 1) := by decide +kernel
theorem d_R_init_6 : decode nb_R_init 6 = .ok (.iconst 0, 1) := by decide +kernel
theorem d_R_init_7 : decode nb_R_init 7 = .ok (.invokestatic 7, 3) := by decide +kernel
theorem d_R_init_10 : decode nb_R_init 10 = .ok (.newarray .char, 2) := by decide +kernel
theorem d_R_init_12 : decode nb_R_init 12 = .ok (.putfield 13, 3) := by decide +kernel
theorem d_R_init_15 : decode nb_R_init 15 = .ok (.return_, 1) := by decide +kernel
abbrev rm_R_init (N : Nat) : Room := ({ frames := 1, cells := 1, slots := N, locals := 20 })
theorem c_R_init (l : Launch) (X : va_W) (T : List (ClassId × FieldType)) (q0 : Nat) (n : Int32) (N : Nat) (h0 : ¬ n < 0) (hN : n.toNatClampNeg = N) (hB : N * componentBytes .char ≤ 536870912) {D : va_G} : nf_CL l nm_R_init nb_R_init 2 (rm_R_init N) [.ref q0, .int n] D (X ++ [(q0, .inr (3, [.null, .int 0]))]) T (fun ws' tys' => ∃ (q : Nat) (cA : ClassId), ws' = X ++ [(q0, .inr (3, [.ref q, .int 0])), (q, .inl (cA, N, .inl (fun _ => 0)))] ∧ tys' = T ++ [(cA, .char)]) := by
  refine nf_startL (plainFor_of_name (by decide +kernel)) (Nat.le_of_ble_eq_true rfl) ?_
  intro A p e s m below meth c ls K hA hl hw
  have hx := K.1
  have hb := K.2.1
  have hl : lv_has ls 2 [(0, .ref q0), (1, .int n)] := hl
  have hc1 : 0 + 1 ≤ (rm_R_init N).cells := Nat.le_refl _
  have hs1 : 0 + N ≤ (rm_R_init N).slots := Nat.le_of_eq (Nat.zero_add N)
  have hw : nf_WL D A s s.heap [] (X ++ [(q0, .inr (3, [.null, .int 0]))]) (T ++ []) := by simpa using hw
  refine lv_aload_n hx hb d_R_init_0 rfl (lv_at hl 0 rfl) ?_
  refine nf_oinitL (idx := 1) K nw_62 nw_29 nw_30 hl.1 d_R_init_1 (Nat.le_of_ble_eq_true rfl) (Nat.le_of_ble_eq_true rfl) ?_
  refine lv_aload_n hx hb d_R_init_4 rfl (lv_at hl 0 rfl) ?_
  refine lv_iload_n hx hb d_R_init_5 rfl (lv_at hl 1 rfl) ?_
  refine lv_iconst (v := (0 : Int32)) hx hb d_R_init_6 (by decide) ?_
  refine va_mmax hx hb (by rw [K.2.2.1]; exact hl.1.symm) K.2.2.2.1 (K.2.2.2.2.1 _ nw_63) (K.2.2.2.2.1 _ nw_64) (K.2.2.2.2.1 _ nw_4) (K.2.2.2.2.1 _ nw_65) (Nat.le_of_ble_eq_true rfl) (Nat.le_of_ble_eq_true rfl) (Nat.zero_le _) (Nat.zero_le _) d_R_init_7 ?_
  rw [if_neg h0]
  refine nf_newaL (N' := N) (ty := .char) hx hb K.2.2.2.2.1 hA hw nw_76 rfl (N, .inl (fun _ => 0)) (fun _ => rfl) h0 hN hB hc1 hs1 d_R_init_10 (fun q1 c1 H hw => ?_)
  have hw : nf_WL D A s H [] (X ++ [(q0, .inr (3, [.null, .int 0])), (q1, .inl (c1, N, .inl (fun _ => 0)))]) (T ++ [(c1, .char)]) := by simpa only [List.append_assoc, List.cons_append, List.nil_append] using hw
  refine nf_putL (ws' := (X ++ [(q0, .inr (3, [.ref q1, .int 0])), (q1, .inl (c1, N, .inl (fun _ => 0)))])) (T := nt_R) (v := .ref q1) K hw (X.length + 0) 3 0 nw_66 (nf_xget X _ 0 rfl) (nf_xset X _ 0 rfl) rfl ni_R ny_R nq_R nn_R (by decide) rfl (Or.inr ⟨rfl, rfl, rfl⟩) rfl rfl (Nat.le_of_ble_eq_true rfl) d_R_init_12 (fun H locs hw => ?_)
  exact nf_vretL K hw d_R_init_15 (Nat.le_refl _) (Nat.le_of_eq (Nat.zero_add _)) ⟨_, _, rfl, rfl⟩
theorem d_F_init_0 : decode nb_F_init 0 = .ok (.aload_n 0, 1) := by decide +kernel
theorem d_F_init_1 : decode nb_F_init 1 = .ok (.invokespecial 1, 3) := by decide +kernel
theorem d_F_init_4 : decode nb_F_init 4 = .ok (.aload_n 0, 1) := by decide +kernel
theorem d_F_init_5 : decode nb_F_init 5 = .ok (.bipush 8, 2) := by decide +kernel
theorem d_F_init_7 : decode nb_F_init 7 = .ok (.anewarray 9, 3) := by decide +kernel
theorem d_F_init_10 : decode nb_F_init 10 = .ok (.putfield 11, 3) := by decide +kernel
theorem d_F_init_13 : decode nb_F_init 13 = .ok (.aload_n 0, 1) := by decide +kernel
theorem d_F_init_14 : decode nb_F_init 14 = .ok (.new 9, 3) := by decide +kernel
theorem d_F_init_17 : decode nb_F_init 17 = .ok (.dup, 1) := by decide +kernel
theorem d_F_init_18 : decode nb_F_init 18 = .ok (.invokespecial 15, 3) := by decide +kernel
theorem d_F_init_21 : decode nb_F_init 21 = .ok (.putfield 16, 3) := by decide +kernel
theorem d_F_init_24 : decode nb_F_init 24 = .ok (.aload_n 0, 1) := by decide +kernel
theorem d_F_init_25 : decode nb_F_init 25 = .ok (.new 20, 3) := by decide +kernel
theorem d_F_init_28 : decode nb_F_init 28 = .ok (.dup, 1) := by decide +kernel
theorem d_F_init_29 : decode nb_F_init 29 = .ok (.bipush 40, 2) := by decide +kernel
theorem d_F_init_31 : decode nb_F_init 31 = .ok (.invokespecial 22, 3) := by decide +kernel
theorem d_F_init_34 : decode nb_F_init 34 = .ok (.putfield 25, 3) := by decide +kernel
theorem d_F_init_37 : decode nb_F_init 37 = .ok (.aload_n 0, 1) := by decide +kernel
theorem d_F_init_38 : decode nb_F_init 38 = .ok (.new 20, 3) := by decide +kernel
theorem d_F_init_41 : decode nb_F_init 41 = .ok (.dup, 1) := by decide +kernel
theorem d_F_init_42 : decode nb_F_init 42 = .ok (.sipush 128, 3) := by decide +kernel
theorem d_F_init_45 : decode nb_F_init 45 = .ok (.invokespecial 22, 3) := by decide +kernel
theorem d_F_init_48 : decode nb_F_init 48 = .ok (.putfield 29, 3) := by decide +kernel
theorem d_F_init_51 : decode nb_F_init 51 = .ok (.aload_n 0, 1) := by decide +kernel
theorem d_F_init_52 : decode nb_F_init 52 = .ok (.new 32, 3) := by decide +kernel
theorem d_F_init_55 : decode nb_F_init 55 = .ok (.dup, 1) := by decide +kernel
theorem d_F_init_56 : decode nb_F_init 56 = .ok (.invokespecial 34, 3) := by decide +kernel
theorem d_F_init_59 : decode nb_F_init 59 = .ok (.putfield 35, 3) := by decide +kernel
theorem d_F_init_62 : decode nb_F_init 62 = .ok (.aload_n 0, 1) := by decide +kernel
theorem d_F_init_63 : decode nb_F_init 63 = .ok (.new 39, 3) := by decide +kernel
theorem d_F_init_66 : decode nb_F_init 66 = .ok (.dup, 1) := by decide +kernel
theorem d_F_init_67 : decode nb_F_init 67 = .ok (.invokespecial 41, 3) := by decide +kernel
theorem d_F_init_70 : decode nb_F_init 70 = .ok (.putfield 42, 3) := by decide +kernel
theorem d_F_init_73 : decode nb_F_init 73 = .ok (.aload_n 0, 1) := by decide +kernel
theorem d_F_init_74 : decode nb_F_init 74 = .ok (.new 46, 3) := by decide +kernel
theorem d_F_init_77 : decode nb_F_init 77 = .ok (.dup, 1) := by decide +kernel
theorem d_F_init_78 : decode nb_F_init 78 = .ok (.invokespecial 48, 3) := by decide +kernel
theorem d_F_init_81 : decode nb_F_init 81 = .ok (.putfield 49, 3) := by decide +kernel
theorem d_F_init_84 : decode nb_F_init 84 = .ok (.aload_n 0, 1) := by decide +kernel
theorem d_F_init_85 : decode nb_F_init 85 = .ok (.new 53, 3) := by decide +kernel
theorem d_F_init_88 : decode nb_F_init 88 = .ok (.dup, 1) := by decide +kernel
theorem d_F_init_89 : decode nb_F_init 89 = .ok (.invokespecial 55, 3) := by decide +kernel
theorem d_F_init_92 : decode nb_F_init 92 = .ok (.putfield 56, 3) := by decide +kernel
theorem d_F_init_95 : decode nb_F_init 95 = .ok (.iconst 0, 1) := by decide +kernel
theorem d_F_init_96 : decode nb_F_init 96 = .ok (.istore_n 1, 1) := by decide +kernel
theorem d_F_init_97 : decode nb_F_init 97 = .ok (.iload_n 1, 1) := by decide +kernel
theorem d_F_init_98 : decode nb_F_init 98 = .ok (.aload_n 0, 1) := by decide +kernel
theorem d_F_init_99 : decode nb_F_init 99 = .ok (.getfield 11, 3) := by decide +kernel
theorem d_F_init_102 : decode nb_F_init 102 = .ok (.arraylength, 1) := by decide +kernel
theorem d_F_init_103 : decode nb_F_init 103 = .ok (.if_icmp .ge 22, 3) := by decide +kernel
theorem d_F_init_106 : decode nb_F_init 106 = .ok (.aload_n 0, 1) := by decide +kernel
theorem d_F_init_107 : decode nb_F_init 107 = .ok (.getfield 11, 3) := by decide +kernel
theorem d_F_init_110 : decode nb_F_init 110 = .ok (.iload_n 1, 1) := by decide +kernel
theorem d_F_init_111 : decode nb_F_init 111 = .ok (.new 9, 3) := by decide +kernel
theorem d_F_init_114 : decode nb_F_init 114 = .ok (.dup, 1) := by decide +kernel
theorem d_F_init_115 : decode nb_F_init 115 = .ok (.invokespecial 15, 3) := by decide +kernel
theorem d_F_init_118 : decode nb_F_init 118 = .ok (.aastore, 1) := by decide +kernel
theorem d_F_init_119 : decode nb_F_init 119 = .ok (.iinc 1 1, 3) := by decide +kernel
theorem d_F_init_122 : decode nb_F_init 122 = .ok (.goto (-25), 3) := by decide +kernel
theorem d_F_init_125 : decode nb_F_init 125 = .ok (.return_, 1) := by decide +kernel
abbrev rm_F_init : Room := ({ frames := 2, cells := 18, slots := 235, locals := 41 })
theorem c_F_init (l : Launch) (q0 : Nat) {D : va_G} : nf_CL l nm_F_init nb_F_init 2 rm_F_init [.ref q0] D [(q0, .inr (6, [.null, .null, .null, .null, .null, .null, .null, .null]))] [] (fun ws' tys' => ∃ (q1 q2 q3 q4 q5 q6 q7 q8 q9 q10 q11 q12 q13 q14 q15 q16 q17 q18 : Nat) (c1 c4 c6 : ClassId), ws' = [(q0, .inr (6, [.ref q1, .ref q2, .ref q3, .ref q5, .ref q7, .ref q8, .ref q9, .ref q10])), (q1, .inl (c1, 8, .inr (.inr (.inr (.inr (va_up (va_up (va_up (va_up (va_up (va_up (va_up (va_up (fun _ => none) 0 (some q11)) 1 (some q12)) 2 (some q13)) 3 (some q14)) 4 (some q15)) 5 (some q16)) 6 (some q17)) 7 (some q18))))))), (q2, .inr (4, [.int (-1), .long 0, .int 0, .double 0])), (q3, .inr (3, [.ref q4, .int 0])), (q4, .inl (c4, 40, .inl (fun _ => 0))), (q5, .inr (3, [.ref q6, .int 0])), (q6, .inl (c6, 128, .inl (fun _ => 0))), (q7, .inr (1, [.int 0, .int 0, .int 0, .int 0, .long 0, .int 0, .int 0])), (q8, .inr (2, [.int 0, .int 0, .int 0, .int 0, .int 0, .int 0, .int 0, .int 0])), (q9, .inr (0, [.long 0, .int 0])), (q10, .inr (5, [.long 0, .long 0])), (q11, .inr (4, [.int (-1), .long 0, .int 0, .double 0])), (q12, .inr (4, [.int (-1), .long 0, .int 0, .double 0])), (q13, .inr (4, [.int (-1), .long 0, .int 0, .double 0])), (q14, .inr (4, [.int (-1), .long 0, .int 0, .double 0])), (q15, .inr (4, [.int (-1), .long 0, .int 0, .double 0])), (q16, .inr (4, [.int (-1), .long 0, .int 0, .double 0])), (q17, .inr (4, [.int (-1), .long 0, .int 0, .double 0])), (q18, .inr (4, [.int (-1), .long 0, .int 0, .double 0]))] ∧ tys' = [(c1, .object "NumberForge$Value"), (c4, .char), (c6, .char)]) := by
  refine nf_startL (plainFor_of_name (by decide +kernel)) (Nat.le_of_ble_eq_true rfl) ?_
  intro A p e s m below meth c ls K hA hl hw
  have hx := K.1
  have hb := K.2.1
  have hl : lv_has ls 2 [(0, .ref q0)] := hl
  refine lv_aload_n hx hb d_F_init_0 rfl (lv_at hl 0 rfl) ?_
  refine nf_oinitL (idx := 1) K nw_28 nw_29 nw_30 hl.1 d_F_init_1 (Nat.le_of_ble_eq_true rfl) (Nat.le_of_ble_eq_true rfl) ?_
  refine lv_aload_n hx hb d_F_init_4 rfl (lv_at hl 0 rfl) ?_
  refine lv_bipush (v := (8 : Int32)) hx hb d_F_init_5 (by decide) ?_
  refine va_newq (N' := 8) hx hb K.2.2.2.1 (K.2.2.2.2.1 _ nw_31) K.2.2.2.2.2.2.2.2.2 hw.2.2.2 hw.1 hw.2.1 hw.2.2.1 hA (by decide) rfl (by decide) (Nat.le_of_ble_eq_true rfl) (Nat.le_of_ble_eq_true rfl) d_F_init_7 (fun q1 c1 H hK1 hP1 hD1 hS1 => ?_)
  have hw : nf_WL D A s H [] [(q0, .inr (6, [.null, .null, .null, .null, .null, .null, .null, .null])), (q1, .inl (c1, 8, .inr (.inr (.inr (.inr (fun _ => none))))))] [(c1, .object "NumberForge$Value")] := ⟨hP1, hD1, hS1, hK1⟩
  refine nf_putL (ws' := [(q0, .inr (6, [.ref q1, .null, .null, .null, .null, .null, .null, .null])), (q1, .inl (c1, 8, .inr (.inr (.inr (.inr (fun _ => none))))))]) (T := nt_F) (v := .ref q1) K hw 0 6 0 nw_168 rfl rfl rfl ni_F ny_F nq_F nn_F (by decide) rfl (Or.inr ⟨rfl, rfl, rfl⟩) rfl rfl (Nat.le_of_ble_eq_true rfl) d_F_init_10 (fun H locs hw => ?_)
  refine lv_aload_n hx hb d_F_init_13 rfl (lv_at hl 0 rfl) ?_
  refine nf_newL (T := nt_V) (N := 4) hx hb K.2.2.2.1 K.2.2.2.2.1 hA hw 4 rfl ni_V ny_V nq_V nw_31 nw_33 nw_2 [.int 0, .long 0, .int 0, .double 0] (fun j hj => nf_dvV j hj) (Nat.le_of_ble_eq_true rfl) (Nat.le_of_ble_eq_true rfl) d_F_init_14 (fun q2 H hw => ?_)
  refine lv_dup hx hb d_F_init_17 rfl ?_
  refine nf_callL (As := [.ref q2]) (st0 := [.ref q2, .ref q2, .ref q0]) (rest := [.ref q2, .ref q0]) K.2.2.2.2.1 (nf_KL9 K) K.2.2.2.2.2.2.2.2.2 K.2.2.1 hA hw (nf_invIN hx hb K.2.2.2.1 rfl ((nf_KrL K nv_34).use rfl) (K.2.2.2.2.1 _ nw_35) (K.2.2.2.2.1 _ nw_36) ⟨by decide, by decide⟩ rfl nl_V_init rfl d_F_init_18) (c_V_init l [(q0, .inr (6, [.ref q1, .null, .null, .null, .null, .null, .null, .null])), (q1, .inl (c1, 8, .inr (.inr (.inr (.inr (fun _ => none))))))] [(c1, .object "NumberForge$Value")] q2 ) nw_36 nw_2 ⟨Nat.le_of_ble_eq_true rfl, Nat.le_of_ble_eq_true rfl⟩ (Nat.le_of_ble_eq_true rfl) hl.1 ⟨Nat.le_of_ble_eq_true rfl, Nat.le_of_ble_eq_true rfl⟩ (fun ws1 tys1 H locs hp hw => ?_)
  obtain ⟨rfl, rfl⟩ := hp
  have hw : nf_WL D A s H locs [(q0, .inr (6, [.ref q1, .null, .null, .null, .null, .null, .null, .null])), (q1, .inl (c1, 8, .inr (.inr (.inr (.inr (fun _ => none)))))), (q2, .inr (4, [.int (-1), .long 0, .int 0, .double 0]))] [(c1, .object "NumberForge$Value")] := hw
  refine nf_putL (ws' := [(q0, .inr (6, [.ref q1, .ref q2, .null, .null, .null, .null, .null, .null])), (q1, .inl (c1, 8, .inr (.inr (.inr (.inr (fun _ => none)))))), (q2, .inr (4, [.int (-1), .long 0, .int 0, .double 0]))]) (T := nt_F) (v := .ref q2) K hw 0 6 1 nw_169 rfl rfl rfl ni_F ny_F nq_F nn_F (by decide) rfl (Or.inr ⟨rfl, rfl, rfl⟩) rfl rfl (Nat.le_of_ble_eq_true rfl) d_F_init_21 (fun H locs hw => ?_)
  refine lv_aload_n hx hb d_F_init_24 rfl (lv_at hl 0 rfl) ?_
  refine nf_newL (T := nt_R) (N := 2) hx hb K.2.2.2.1 K.2.2.2.2.1 hA hw 3 rfl ni_R ny_R nq_R nw_57 nw_58 nw_3 [.null, .int 0] (fun j hj => nf_dvR j hj) (Nat.le_of_ble_eq_true rfl) (Nat.le_of_ble_eq_true rfl) d_F_init_25 (fun q3 H hw => ?_)
  refine lv_dup hx hb d_F_init_28 rfl ?_
  refine lv_bipush (v := (40 : Int32)) hx hb d_F_init_29 (by decide) ?_
  refine nf_callL (As := [.ref q3, .int 40]) (st0 := [.int (40 : Int32), .ref q3, .ref q3, .ref q0]) (rest := [.ref q3, .ref q0]) K.2.2.2.2.1 (nf_KL9 K) K.2.2.2.2.2.2.2.2.2 K.2.2.1 hA hw (nf_invIN hx hb K.2.2.2.1 rfl ((nf_KrL K nv_59).use rfl) (K.2.2.2.2.1 _ nw_60) (K.2.2.2.2.1 _ nw_61) ⟨by decide, by decide⟩ rfl nl_R_init rfl d_F_init_31) (c_R_init l [(q0, .inr (6, [.ref q1, .ref q2, .null, .null, .null, .null, .null, .null])), (q1, .inl (c1, 8, .inr (.inr (.inr (.inr (fun _ => none)))))), (q2, .inr (4, [.int (-1), .long 0, .int 0, .double 0]))] [(c1, .object "NumberForge$Value")] q3 40 40 (by decide) rfl (by decide)) nw_61 nw_3 ⟨Nat.le_of_ble_eq_true rfl, Nat.le_of_ble_eq_true rfl⟩ (Nat.le_of_ble_eq_true rfl) hl.1 ⟨Nat.le_of_ble_eq_true rfl, Nat.le_of_ble_eq_true rfl⟩ (fun ws1 tys1 H locs hp hw => ?_)
  obtain ⟨q4, c4, rfl, rfl⟩ := hp
  have hw : nf_WL D A s H locs [(q0, .inr (6, [.ref q1, .ref q2, .null, .null, .null, .null, .null, .null])), (q1, .inl (c1, 8, .inr (.inr (.inr (.inr (fun _ => none)))))), (q2, .inr (4, [.int (-1), .long 0, .int 0, .double 0])), (q3, .inr (3, [.ref q4, .int 0])), (q4, .inl (c4, 40, .inl (fun _ => 0)))] [(c1, .object "NumberForge$Value"), (c4, .char)] := hw
  refine nf_putL (ws' := [(q0, .inr (6, [.ref q1, .ref q2, .ref q3, .null, .null, .null, .null, .null])), (q1, .inl (c1, 8, .inr (.inr (.inr (.inr (fun _ => none)))))), (q2, .inr (4, [.int (-1), .long 0, .int 0, .double 0])), (q3, .inr (3, [.ref q4, .int 0])), (q4, .inl (c4, 40, .inl (fun _ => 0)))]) (T := nt_F) (v := .ref q3) K hw 0 6 2 nw_170 rfl rfl rfl ni_F ny_F nq_F nn_F (by decide) rfl (Or.inr ⟨rfl, rfl, rfl⟩) rfl rfl (Nat.le_of_ble_eq_true rfl) d_F_init_34 (fun H locs hw => ?_)
  refine lv_aload_n hx hb d_F_init_37 rfl (lv_at hl 0 rfl) ?_
  refine nf_newL (T := nt_R) (N := 2) hx hb K.2.2.2.1 K.2.2.2.2.1 hA hw 3 rfl ni_R ny_R nq_R nw_57 nw_58 nw_3 [.null, .int 0] (fun j hj => nf_dvR j hj) (Nat.le_of_ble_eq_true rfl) (Nat.le_of_ble_eq_true rfl) d_F_init_38 (fun q5 H hw => ?_)
  refine lv_dup hx hb d_F_init_41 rfl ?_
  refine lv_sipush (v := (128 : Int32)) hx hb d_F_init_42 (by decide) ?_
  refine nf_callL (As := [.ref q5, .int 128]) (st0 := [.int (128 : Int32), .ref q5, .ref q5, .ref q0]) (rest := [.ref q5, .ref q0]) K.2.2.2.2.1 (nf_KL9 K) K.2.2.2.2.2.2.2.2.2 K.2.2.1 hA hw (nf_invIN hx hb K.2.2.2.1 rfl ((nf_KrL K nv_59).use rfl) (K.2.2.2.2.1 _ nw_60) (K.2.2.2.2.1 _ nw_61) ⟨by decide, by decide⟩ rfl nl_R_init rfl d_F_init_45) (c_R_init l [(q0, .inr (6, [.ref q1, .ref q2, .ref q3, .null, .null, .null, .null, .null])), (q1, .inl (c1, 8, .inr (.inr (.inr (.inr (fun _ => none)))))), (q2, .inr (4, [.int (-1), .long 0, .int 0, .double 0])), (q3, .inr (3, [.ref q4, .int 0])), (q4, .inl (c4, 40, .inl (fun _ => 0)))] [(c1, .object "NumberForge$Value"), (c4, .char)] q5 128 128 (by decide) rfl (by decide)) nw_61 nw_3 ⟨Nat.le_of_ble_eq_true rfl, Nat.le_of_ble_eq_true rfl⟩ (Nat.le_of_ble_eq_true rfl) hl.1 ⟨Nat.le_of_ble_eq_true rfl, Nat.le_of_ble_eq_true rfl⟩ (fun ws1 tys1 H locs hp hw => ?_)
  obtain ⟨q6, c6, rfl, rfl⟩ := hp
  have hw : nf_WL D A s H locs [(q0, .inr (6, [.ref q1, .ref q2, .ref q3, .null, .null, .null, .null, .null])), (q1, .inl (c1, 8, .inr (.inr (.inr (.inr (fun _ => none)))))), (q2, .inr (4, [.int (-1), .long 0, .int 0, .double 0])), (q3, .inr (3, [.ref q4, .int 0])), (q4, .inl (c4, 40, .inl (fun _ => 0))), (q5, .inr (3, [.ref q6, .int 0])), (q6, .inl (c6, 128, .inl (fun _ => 0)))] [(c1, .object "NumberForge$Value"), (c4, .char), (c6, .char)] := hw
  refine nf_putL (ws' := [(q0, .inr (6, [.ref q1, .ref q2, .ref q3, .ref q5, .null, .null, .null, .null])), (q1, .inl (c1, 8, .inr (.inr (.inr (.inr (fun _ => none)))))), (q2, .inr (4, [.int (-1), .long 0, .int 0, .double 0])), (q3, .inr (3, [.ref q4, .int 0])), (q4, .inl (c4, 40, .inl (fun _ => 0))), (q5, .inr (3, [.ref q6, .int 0])), (q6, .inl (c6, 128, .inl (fun _ => 0)))]) (T := nt_F) (v := .ref q5) K hw 0 6 3 nw_171 rfl rfl rfl ni_F ny_F nq_F nn_F (by decide) rfl (Or.inr ⟨rfl, rfl, rfl⟩) rfl rfl (Nat.le_of_ble_eq_true rfl) d_F_init_48 (fun H locs hw => ?_)
  refine lv_aload_n hx hb d_F_init_51 rfl (lv_at hl 0 rfl) ?_
  refine nf_newL (T := nt_N) (N := 7) hx hb K.2.2.2.1 K.2.2.2.2.1 hA hw 1 rfl ni_N ny_N nq_N nw_77 nw_78 nw_5 [.int 0, .int 0, .int 0, .int 0, .long 0, .int 0, .int 0] (fun j hj => nf_dvN j hj) (Nat.le_of_ble_eq_true rfl) (Nat.le_of_ble_eq_true rfl) d_F_init_52 (fun q7 H hw => ?_)
  refine lv_dup hx hb d_F_init_55 rfl ?_
  refine nf_callL (As := [.ref q7]) (st0 := [.ref q7, .ref q7, .ref q0]) (rest := [.ref q7, .ref q0]) K.2.2.2.2.1 (nf_KL9 K) K.2.2.2.2.2.2.2.2.2 K.2.2.1 hA hw (nf_invIN hx hb K.2.2.2.1 rfl ((nf_KrL K nv_79).use rfl) (K.2.2.2.2.1 _ nw_80) (K.2.2.2.2.1 _ nw_81) ⟨by decide, by decide⟩ rfl nl_N_init rfl d_F_init_56) (c_N_init l [(q0, .inr (6, [.ref q1, .ref q2, .ref q3, .ref q5, .null, .null, .null, .null])), (q1, .inl (c1, 8, .inr (.inr (.inr (.inr (fun _ => none)))))), (q2, .inr (4, [.int (-1), .long 0, .int 0, .double 0])), (q3, .inr (3, [.ref q4, .int 0])), (q4, .inl (c4, 40, .inl (fun _ => 0))), (q5, .inr (3, [.ref q6, .int 0])), (q6, .inl (c6, 128, .inl (fun _ => 0)))] [(c1, .object "NumberForge$Value"), (c4, .char), (c6, .char)] q7 ) nw_81 nw_5 ⟨Nat.le_of_ble_eq_true rfl, Nat.le_of_ble_eq_true rfl⟩ (Nat.le_of_ble_eq_true rfl) hl.1 ⟨Nat.le_of_ble_eq_true rfl, Nat.le_of_ble_eq_true rfl⟩ (fun ws1 tys1 H locs hp hw => ?_)
  obtain ⟨rfl, rfl⟩ := hp
  have hw : nf_WL D A s H locs [(q0, .inr (6, [.ref q1, .ref q2, .ref q3, .ref q5, .null, .null, .null, .null])), (q1, .inl (c1, 8, .inr (.inr (.inr (.inr (fun _ => none)))))), (q2, .inr (4, [.int (-1), .long 0, .int 0, .double 0])), (q3, .inr (3, [.ref q4, .int 0])), (q4, .inl (c4, 40, .inl (fun _ => 0))), (q5, .inr (3, [.ref q6, .int 0])), (q6, .inl (c6, 128, .inl (fun _ => 0))), (q7, .inr (1, [.int 0, .int 0, .int 0, .int 0, .long 0, .int 0, .int 0]))] [(c1, .object "NumberForge$Value"), (c4, .char), (c6, .char)] := hw
  refine nf_putL (ws' := [(q0, .inr (6, [.ref q1, .ref q2, .ref q3, .ref q5, .ref q7, .null, .null, .null])), (q1, .inl (c1, 8, .inr (.inr (.inr (.inr (fun _ => none)))))), (q2, .inr (4, [.int (-1), .long 0, .int 0, .double 0])), (q3, .inr (3, [.ref q4, .int 0])), (q4, .inl (c4, 40, .inl (fun _ => 0))), (q5, .inr (3, [.ref q6, .int 0])), (q6, .inl (c6, 128, .inl (fun _ => 0))), (q7, .inr (1, [.int 0, .int 0, .int 0, .int 0, .long 0, .int 0, .int 0]))]) (T := nt_F) (v := .ref q7) K hw 0 6 4 nw_172 rfl rfl rfl ni_F ny_F nq_F nn_F (by decide) rfl (Or.inr ⟨rfl, rfl, rfl⟩) rfl rfl (Nat.le_of_ble_eq_true rfl) d_F_init_59 (fun H locs hw => ?_)
  refine lv_aload_n hx hb d_F_init_62 rfl (lv_at hl 0 rfl) ?_
  refine nf_newL (T := nt_P) (N := 8) hx hb K.2.2.2.1 K.2.2.2.2.1 hA hw 2 rfl ni_P ny_P nq_P nw_105 nw_106 nw_6 [.int 0, .int 0, .int 0, .int 0, .int 0, .int 0, .int 0, .int 0] (fun j hj => nf_dvP j hj) (Nat.le_of_ble_eq_true rfl) (Nat.le_of_ble_eq_true rfl) d_F_init_63 (fun q8 H hw => ?_)
  refine lv_dup hx hb d_F_init_66 rfl ?_
  refine nf_callL (As := [.ref q8]) (st0 := [.ref q8, .ref q8, .ref q0]) (rest := [.ref q8, .ref q0]) K.2.2.2.2.1 (nf_KL9 K) K.2.2.2.2.2.2.2.2.2 K.2.2.1 hA hw (nf_invIN hx hb K.2.2.2.1 rfl ((nf_KrL K nv_107).use rfl) (K.2.2.2.2.1 _ nw_108) (K.2.2.2.2.1 _ nw_109) ⟨by decide, by decide⟩ rfl nl_P_init rfl d_F_init_67) (c_P_init l [(q0, .inr (6, [.ref q1, .ref q2, .ref q3, .ref q5, .ref q7, .null, .null, .null])), (q1, .inl (c1, 8, .inr (.inr (.inr (.inr (fun _ => none)))))), (q2, .inr (4, [.int (-1), .long 0, .int 0, .double 0])), (q3, .inr (3, [.ref q4, .int 0])), (q4, .inl (c4, 40, .inl (fun _ => 0))), (q5, .inr (3, [.ref q6, .int 0])), (q6, .inl (c6, 128, .inl (fun _ => 0))), (q7, .inr (1, [.int 0, .int 0, .int 0, .int 0, .long 0, .int 0, .int 0]))] [(c1, .object "NumberForge$Value"), (c4, .char), (c6, .char)] q8 ) nw_109 nw_6 ⟨Nat.le_of_ble_eq_true rfl, Nat.le_of_ble_eq_true rfl⟩ (Nat.le_of_ble_eq_true rfl) hl.1 ⟨Nat.le_of_ble_eq_true rfl, Nat.le_of_ble_eq_true rfl⟩ (fun ws1 tys1 H locs hp hw => ?_)
  obtain ⟨rfl, rfl⟩ := hp
  have hw : nf_WL D A s H locs [(q0, .inr (6, [.ref q1, .ref q2, .ref q3, .ref q5, .ref q7, .null, .null, .null])), (q1, .inl (c1, 8, .inr (.inr (.inr (.inr (fun _ => none)))))), (q2, .inr (4, [.int (-1), .long 0, .int 0, .double 0])), (q3, .inr (3, [.ref q4, .int 0])), (q4, .inl (c4, 40, .inl (fun _ => 0))), (q5, .inr (3, [.ref q6, .int 0])), (q6, .inl (c6, 128, .inl (fun _ => 0))), (q7, .inr (1, [.int 0, .int 0, .int 0, .int 0, .long 0, .int 0, .int 0])), (q8, .inr (2, [.int 0, .int 0, .int 0, .int 0, .int 0, .int 0, .int 0, .int 0]))] [(c1, .object "NumberForge$Value"), (c4, .char), (c6, .char)] := hw
  refine nf_putL (ws' := [(q0, .inr (6, [.ref q1, .ref q2, .ref q3, .ref q5, .ref q7, .ref q8, .null, .null])), (q1, .inl (c1, 8, .inr (.inr (.inr (.inr (fun _ => none)))))), (q2, .inr (4, [.int (-1), .long 0, .int 0, .double 0])), (q3, .inr (3, [.ref q4, .int 0])), (q4, .inl (c4, 40, .inl (fun _ => 0))), (q5, .inr (3, [.ref q6, .int 0])), (q6, .inl (c6, 128, .inl (fun _ => 0))), (q7, .inr (1, [.int 0, .int 0, .int 0, .int 0, .long 0, .int 0, .int 0])), (q8, .inr (2, [.int 0, .int 0, .int 0, .int 0, .int 0, .int 0, .int 0, .int 0]))]) (T := nt_F) (v := .ref q8) K hw 0 6 5 nw_173 rfl rfl rfl ni_F ny_F nq_F nn_F (by decide) rfl (Or.inr ⟨rfl, rfl, rfl⟩) rfl rfl (Nat.le_of_ble_eq_true rfl) d_F_init_70 (fun H locs hw => ?_)
  refine lv_aload_n hx hb d_F_init_73 rfl (lv_at hl 0 rfl) ?_
  refine nf_newL (T := nt_D) (N := 2) hx hb K.2.2.2.1 K.2.2.2.2.1 hA hw 0 rfl ni_D ny_D nq_D nw_139 nw_140 nw_7 [.long 0, .int 0] (fun j hj => nf_dvD j hj) (Nat.le_of_ble_eq_true rfl) (Nat.le_of_ble_eq_true rfl) d_F_init_74 (fun q9 H hw => ?_)
  refine lv_dup hx hb d_F_init_77 rfl ?_
  refine nf_callL (As := [.ref q9]) (st0 := [.ref q9, .ref q9, .ref q0]) (rest := [.ref q9, .ref q0]) K.2.2.2.2.1 (nf_KL9 K) K.2.2.2.2.2.2.2.2.2 K.2.2.1 hA hw (nf_invIN hx hb K.2.2.2.1 rfl ((nf_KrL K nv_141).use rfl) (K.2.2.2.2.1 _ nw_142) (K.2.2.2.2.1 _ nw_143) ⟨by decide, by decide⟩ rfl nl_D_init rfl d_F_init_78) (c_D_init l [(q0, .inr (6, [.ref q1, .ref q2, .ref q3, .ref q5, .ref q7, .ref q8, .null, .null])), (q1, .inl (c1, 8, .inr (.inr (.inr (.inr (fun _ => none)))))), (q2, .inr (4, [.int (-1), .long 0, .int 0, .double 0])), (q3, .inr (3, [.ref q4, .int 0])), (q4, .inl (c4, 40, .inl (fun _ => 0))), (q5, .inr (3, [.ref q6, .int 0])), (q6, .inl (c6, 128, .inl (fun _ => 0))), (q7, .inr (1, [.int 0, .int 0, .int 0, .int 0, .long 0, .int 0, .int 0])), (q8, .inr (2, [.int 0, .int 0, .int 0, .int 0, .int 0, .int 0, .int 0, .int 0]))] [(c1, .object "NumberForge$Value"), (c4, .char), (c6, .char)] q9 ) nw_143 nw_7 ⟨Nat.le_of_ble_eq_true rfl, Nat.le_of_ble_eq_true rfl⟩ (Nat.le_of_ble_eq_true rfl) hl.1 ⟨Nat.le_of_ble_eq_true rfl, Nat.le_of_ble_eq_true rfl⟩ (fun ws1 tys1 H locs hp hw => ?_)
  obtain ⟨rfl, rfl⟩ := hp
  have hw : nf_WL D A s H locs [(q0, .inr (6, [.ref q1, .ref q2, .ref q3, .ref q5, .ref q7, .ref q8, .null, .null])), (q1, .inl (c1, 8, .inr (.inr (.inr (.inr (fun _ => none)))))), (q2, .inr (4, [.int (-1), .long 0, .int 0, .double 0])), (q3, .inr (3, [.ref q4, .int 0])), (q4, .inl (c4, 40, .inl (fun _ => 0))), (q5, .inr (3, [.ref q6, .int 0])), (q6, .inl (c6, 128, .inl (fun _ => 0))), (q7, .inr (1, [.int 0, .int 0, .int 0, .int 0, .long 0, .int 0, .int 0])), (q8, .inr (2, [.int 0, .int 0, .int 0, .int 0, .int 0, .int 0, .int 0, .int 0])), (q9, .inr (0, [.long 0, .int 0]))] [(c1, .object "NumberForge$Value"), (c4, .char), (c6, .char)] := hw
  refine nf_putL (ws' := [(q0, .inr (6, [.ref q1, .ref q2, .ref q3, .ref q5, .ref q7, .ref q8, .ref q9, .null])), (q1, .inl (c1, 8, .inr (.inr (.inr (.inr (fun _ => none)))))), (q2, .inr (4, [.int (-1), .long 0, .int 0, .double 0])), (q3, .inr (3, [.ref q4, .int 0])), (q4, .inl (c4, 40, .inl (fun _ => 0))), (q5, .inr (3, [.ref q6, .int 0])), (q6, .inl (c6, 128, .inl (fun _ => 0))), (q7, .inr (1, [.int 0, .int 0, .int 0, .int 0, .long 0, .int 0, .int 0])), (q8, .inr (2, [.int 0, .int 0, .int 0, .int 0, .int 0, .int 0, .int 0, .int 0])), (q9, .inr (0, [.long 0, .int 0]))]) (T := nt_F) (v := .ref q9) K hw 0 6 6 nw_174 rfl rfl rfl ni_F ny_F nq_F nn_F (by decide) rfl (Or.inr ⟨rfl, rfl, rfl⟩) rfl rfl (Nat.le_of_ble_eq_true rfl) d_F_init_81 (fun H locs hw => ?_)
  refine lv_aload_n hx hb d_F_init_84 rfl (lv_at hl 0 rfl) ?_
  refine nf_newL (T := nt_W) (N := 2) hx hb K.2.2.2.1 K.2.2.2.2.1 hA hw 5 rfl ni_W ny_W nq_W nw_154 nw_155 nw_8 [.long 0, .long 0] (fun j hj => nf_dvW j hj) (Nat.le_of_ble_eq_true rfl) (Nat.le_of_ble_eq_true rfl) d_F_init_85 (fun q10 H hw => ?_)
  refine lv_dup hx hb d_F_init_88 rfl ?_
  refine nf_callL (As := [.ref q10]) (st0 := [.ref q10, .ref q10, .ref q0]) (rest := [.ref q10, .ref q0]) K.2.2.2.2.1 (nf_KL9 K) K.2.2.2.2.2.2.2.2.2 K.2.2.1 hA hw (nf_invIN hx hb K.2.2.2.1 rfl ((nf_KrL K nv_156).use rfl) (K.2.2.2.2.1 _ nw_157) (K.2.2.2.2.1 _ nw_158) ⟨by decide, by decide⟩ rfl nl_W_init rfl d_F_init_89) (c_W_init l [(q0, .inr (6, [.ref q1, .ref q2, .ref q3, .ref q5, .ref q7, .ref q8, .ref q9, .null])), (q1, .inl (c1, 8, .inr (.inr (.inr (.inr (fun _ => none)))))), (q2, .inr (4, [.int (-1), .long 0, .int 0, .double 0])), (q3, .inr (3, [.ref q4, .int 0])), (q4, .inl (c4, 40, .inl (fun _ => 0))), (q5, .inr (3, [.ref q6, .int 0])), (q6, .inl (c6, 128, .inl (fun _ => 0))), (q7, .inr (1, [.int 0, .int 0, .int 0, .int 0, .long 0, .int 0, .int 0])), (q8, .inr (2, [.int 0, .int 0, .int 0, .int 0, .int 0, .int 0, .int 0, .int 0])), (q9, .inr (0, [.long 0, .int 0]))] [(c1, .object "NumberForge$Value"), (c4, .char), (c6, .char)] q10 ) nw_158 nw_8 ⟨Nat.le_of_ble_eq_true rfl, Nat.le_of_ble_eq_true rfl⟩ (Nat.le_of_ble_eq_true rfl) hl.1 ⟨Nat.le_of_ble_eq_true rfl, Nat.le_of_ble_eq_true rfl⟩ (fun ws1 tys1 H locs hp hw => ?_)
  obtain ⟨rfl, rfl⟩ := hp
  have hw : nf_WL D A s H locs [(q0, .inr (6, [.ref q1, .ref q2, .ref q3, .ref q5, .ref q7, .ref q8, .ref q9, .null])), (q1, .inl (c1, 8, .inr (.inr (.inr (.inr (fun _ => none)))))), (q2, .inr (4, [.int (-1), .long 0, .int 0, .double 0])), (q3, .inr (3, [.ref q4, .int 0])), (q4, .inl (c4, 40, .inl (fun _ => 0))), (q5, .inr (3, [.ref q6, .int 0])), (q6, .inl (c6, 128, .inl (fun _ => 0))), (q7, .inr (1, [.int 0, .int 0, .int 0, .int 0, .long 0, .int 0, .int 0])), (q8, .inr (2, [.int 0, .int 0, .int 0, .int 0, .int 0, .int 0, .int 0, .int 0])), (q9, .inr (0, [.long 0, .int 0])), (q10, .inr (5, [.long 0, .long 0]))] [(c1, .object "NumberForge$Value"), (c4, .char), (c6, .char)] := hw
  refine nf_putL (ws' := [(q0, .inr (6, [.ref q1, .ref q2, .ref q3, .ref q5, .ref q7, .ref q8, .ref q9, .ref q10])), (q1, .inl (c1, 8, .inr (.inr (.inr (.inr (fun _ => none)))))), (q2, .inr (4, [.int (-1), .long 0, .int 0, .double 0])), (q3, .inr (3, [.ref q4, .int 0])), (q4, .inl (c4, 40, .inl (fun _ => 0))), (q5, .inr (3, [.ref q6, .int 0])), (q6, .inl (c6, 128, .inl (fun _ => 0))), (q7, .inr (1, [.int 0, .int 0, .int 0, .int 0, .long 0, .int 0, .int 0])), (q8, .inr (2, [.int 0, .int 0, .int 0, .int 0, .int 0, .int 0, .int 0, .int 0])), (q9, .inr (0, [.long 0, .int 0])), (q10, .inr (5, [.long 0, .long 0]))]) (T := nt_F) (v := .ref q10) K hw 0 6 7 nw_175 rfl rfl rfl ni_F ny_F nq_F nn_F (by decide) rfl (Or.inr ⟨rfl, rfl, rfl⟩) rfl rfl (Nat.le_of_ble_eq_true rfl) d_F_init_92 (fun H locs hw => ?_)
  refine lv_iconst (v := (0 : Int32)) hx hb d_F_init_95 (by decide) ?_
  refine lv_istore_n (lv' := [(1, .int (0 : Int32)), (0, .ref q0)]) hx hb d_F_init_96 rfl hl (by decide) rfl (fun ls hl => ?_)
  refine lv_iload_n hx hb d_F_init_97 rfl (lv_at hl 0 rfl) ?_
  refine lv_aload_n hx hb d_F_init_98 rfl (lv_at hl 1 rfl) ?_
  refine nf_getL (T := nt_F) K hw 0 6 0 nw_168 rfl rfl ni_F (by decide) rfl rfl d_F_init_99 ?_
  refine va_alen (v := (8 : Int32)) hx hb hw.2.2.2 hw.1 1 0 rfl rfl rfl d_F_init_102 ?_
  refine nf_ic_ge hx hb d_F_init_103 (tgt := 125) (by decide) (fun _ => ?_) (fun h => absurd (by decide) h)
  refine lv_aload_n hx hb d_F_init_106 rfl (lv_at hl 1 rfl) ?_
  refine nf_getL (T := nt_F) K hw 0 6 0 nw_168 rfl rfl ni_F (by decide) rfl rfl d_F_init_107 ?_
  refine lv_iload_n hx hb d_F_init_110 rfl (lv_at hl 0 rfl) ?_
  refine nf_newL (T := nt_V) (N := 4) hx hb K.2.2.2.1 K.2.2.2.2.1 hA hw 4 rfl ni_V ny_V nq_V nw_31 nw_33 nw_2 [.int 0, .long 0, .int 0, .double 0] (fun j hj => nf_dvV j hj) (Nat.le_of_ble_eq_true rfl) (Nat.le_of_ble_eq_true rfl) d_F_init_111 (fun q11 H hw => ?_)
  refine lv_dup hx hb d_F_init_114 rfl ?_
  refine nf_callL (As := [.ref q11]) (st0 := [.ref q11, .ref q11, .int (0 : Int32), .ref q1]) (rest := [.ref q11, .int (0 : Int32), .ref q1]) K.2.2.2.2.1 (nf_KL9 K) K.2.2.2.2.2.2.2.2.2 K.2.2.1 hA hw (nf_invIN hx hb K.2.2.2.1 rfl ((nf_KrL K nv_34).use rfl) (K.2.2.2.2.1 _ nw_35) (K.2.2.2.2.1 _ nw_36) ⟨by decide, by decide⟩ rfl nl_V_init rfl d_F_init_115) (c_V_init l [(q0, .inr (6, [.ref q1, .ref q2, .ref q3, .ref q5, .ref q7, .ref q8, .ref q9, .ref q10])), (q1, .inl (c1, 8, .inr (.inr (.inr (.inr (fun _ => none)))))), (q2, .inr (4, [.int (-1), .long 0, .int 0, .double 0])), (q3, .inr (3, [.ref q4, .int 0])), (q4, .inl (c4, 40, .inl (fun _ => 0))), (q5, .inr (3, [.ref q6, .int 0])), (q6, .inl (c6, 128, .inl (fun _ => 0))), (q7, .inr (1, [.int 0, .int 0, .int 0, .int 0, .long 0, .int 0, .int 0])), (q8, .inr (2, [.int 0, .int 0, .int 0, .int 0, .int 0, .int 0, .int 0, .int 0])), (q9, .inr (0, [.long 0, .int 0])), (q10, .inr (5, [.long 0, .long 0]))] [(c1, .object "NumberForge$Value"), (c4, .char), (c6, .char)] q11 ) nw_36 nw_2 ⟨Nat.le_of_ble_eq_true rfl, Nat.le_of_ble_eq_true rfl⟩ (Nat.le_of_ble_eq_true rfl) hl.1 ⟨Nat.le_of_ble_eq_true rfl, Nat.le_of_ble_eq_true rfl⟩ (fun ws1 tys1 H locs hp hw => ?_)
  obtain ⟨rfl, rfl⟩ := hp
  have hw : nf_WL D A s H locs [(q0, .inr (6, [.ref q1, .ref q2, .ref q3, .ref q5, .ref q7, .ref q8, .ref q9, .ref q10])), (q1, .inl (c1, 8, .inr (.inr (.inr (.inr (fun _ => none)))))), (q2, .inr (4, [.int (-1), .long 0, .int 0, .double 0])), (q3, .inr (3, [.ref q4, .int 0])), (q4, .inl (c4, 40, .inl (fun _ => 0))), (q5, .inr (3, [.ref q6, .int 0])), (q6, .inl (c6, 128, .inl (fun _ => 0))), (q7, .inr (1, [.int 0, .int 0, .int 0, .int 0, .long 0, .int 0, .int 0])), (q8, .inr (2, [.int 0, .int 0, .int 0, .int 0, .int 0, .int 0, .int 0, .int 0])), (q9, .inr (0, [.long 0, .int 0])), (q10, .inr (5, [.long 0, .long 0])), (q11, .inr (4, [.int (-1), .long 0, .int 0, .double 0]))] [(c1, .object "NumberForge$Value"), (c4, .char), (c6, .char)] := hw
  refine va_astq (r := (nr_V, nt_V, 4)) hx hb hw.2.2.2 hw.1 hw.2.1 hw.2.2.1 1 0 11 4 rfl rfl rfl rfl (show ¬ ((0 : Int32) < 0 ∨ 8 ≤ (0 : Int32).toNatClampNeg) by decide) d_F_init_118 (fun H locs hP1 hD1 hS1 => ?_)
  have hw : nf_WL D A s H locs [(q0, .inr (6, [.ref q1, .ref q2, .ref q3, .ref q5, .ref q7, .ref q8, .ref q9, .ref q10])), (q1, .inl (c1, 8, .inr (.inr (.inr (.inr (va_up (fun _ => none) 0 (some q11))))))), (q2, .inr (4, [.int (-1), .long 0, .int 0, .double 0])), (q3, .inr (3, [.ref q4, .int 0])), (q4, .inl (c4, 40, .inl (fun _ => 0))), (q5, .inr (3, [.ref q6, .int 0])), (q6, .inl (c6, 128, .inl (fun _ => 0))), (q7, .inr (1, [.int 0, .int 0, .int 0, .int 0, .long 0, .int 0, .int 0])), (q8, .inr (2, [.int 0, .int 0, .int 0, .int 0, .int 0, .int 0, .int 0, .int 0])), (q9, .inr (0, [.long 0, .int 0])), (q10, .inr (5, [.long 0, .long 0])), (q11, .inr (4, [.int (-1), .long 0, .int 0, .double 0]))] [(c1, .object "NumberForge$Value"), (c4, .char), (c6, .char)] := ⟨hP1, hD1, hS1, hw.2.2.2⟩
  refine lv_iinc (k := 0) (v := (1 : Int32)) (lv' := [(1, .int (1 : Int32)), (0, .ref q0)]) hx hb d_F_init_119 hl rfl (by decide) (by decide) rfl (fun ls hl => ?_)
  refine lv_goto hx hb d_F_init_122 (tgt := 97) (by decide) ?_
  refine lv_iload_n hx hb d_F_init_97 rfl (lv_at hl 0 rfl) ?_
  refine lv_aload_n hx hb d_F_init_98 rfl (lv_at hl 1 rfl) ?_
  refine nf_getL (T := nt_F) K hw 0 6 0 nw_168 rfl rfl ni_F (by decide) rfl rfl d_F_init_99 ?_
  refine va_alen (v := (8 : Int32)) hx hb hw.2.2.2 hw.1 1 0 rfl rfl rfl d_F_init_102 ?_
  refine nf_ic_ge hx hb d_F_init_103 (tgt := 125) (by decide) (fun _ => ?_) (fun h => absurd (by decide) h)
  refine lv_aload_n hx hb d_F_init_106 rfl (lv_at hl 1 rfl) ?_
  refine nf_getL (T := nt_F) K hw 0 6 0 nw_168 rfl rfl ni_F (by decide) rfl rfl d_F_init_107 ?_
  refine lv_iload_n hx hb d_F_init_110 rfl (lv_at hl 0 rfl) ?_
  refine nf_newL (T := nt_V) (N := 4) hx hb K.2.2.2.1 K.2.2.2.2.1 hA hw 4 rfl ni_V ny_V nq_V nw_31 nw_33 nw_2 [.int 0, .long 0, .int 0, .double 0] (fun j hj => nf_dvV j hj) (Nat.le_of_ble_eq_true rfl) (Nat.le_of_ble_eq_true rfl) d_F_init_111 (fun q12 H hw => ?_)
  refine lv_dup hx hb d_F_init_114 rfl ?_
  refine nf_callL (As := [.ref q12]) (st0 := [.ref q12, .ref q12, .int (1 : Int32), .ref q1]) (rest := [.ref q12, .int (1 : Int32), .ref q1]) K.2.2.2.2.1 (nf_KL9 K) K.2.2.2.2.2.2.2.2.2 K.2.2.1 hA hw (nf_invIN hx hb K.2.2.2.1 rfl ((nf_KrL K nv_34).use rfl) (K.2.2.2.2.1 _ nw_35) (K.2.2.2.2.1 _ nw_36) ⟨by decide, by decide⟩ rfl nl_V_init rfl d_F_init_115) (c_V_init l [(q0, .inr (6, [.ref q1, .ref q2, .ref q3, .ref q5, .ref q7, .ref q8, .ref q9, .ref q10])), (q1, .inl (c1, 8, .inr (.inr (.inr (.inr (va_up (fun _ => none) 0 (some q11))))))), (q2, .inr (4, [.int (-1), .long 0, .int 0, .double 0])), (q3, .inr (3, [.ref q4, .int 0])), (q4, .inl (c4, 40, .inl (fun _ => 0))), (q5, .inr (3, [.ref q6, .int 0])), (q6, .inl (c6, 128, .inl (fun _ => 0))), (q7, .inr (1, [.int 0, .int 0, .int 0, .int 0, .long 0, .int 0, .int 0])), (q8, .inr (2, [.int 0, .int 0, .int 0, .int 0, .int 0, .int 0, .int 0, .int 0])), (q9, .inr (0, [.long 0, .int 0])), (q10, .inr (5, [.long 0, .long 0])), (q11, .inr (4, [.int (-1), .long 0, .int 0, .double 0]))] [(c1, .object "NumberForge$Value"), (c4, .char), (c6, .char)] q12 ) nw_36 nw_2 ⟨Nat.le_of_ble_eq_true rfl, Nat.le_of_ble_eq_true rfl⟩ (Nat.le_of_ble_eq_true rfl) hl.1 ⟨Nat.le_of_ble_eq_true rfl, Nat.le_of_ble_eq_true rfl⟩ (fun ws1 tys1 H locs hp hw => ?_)
  obtain ⟨rfl, rfl⟩ := hp
  have hw : nf_WL D A s H locs [(q0, .inr (6, [.ref q1, .ref q2, .ref q3, .ref q5, .ref q7, .ref q8, .ref q9, .ref q10])), (q1, .inl (c1, 8, .inr (.inr (.inr (.inr (va_up (fun _ => none) 0 (some q11))))))), (q2, .inr (4, [.int (-1), .long 0, .int 0, .double 0])), (q3, .inr (3, [.ref q4, .int 0])), (q4, .inl (c4, 40, .inl (fun _ => 0))), (q5, .inr (3, [.ref q6, .int 0])), (q6, .inl (c6, 128, .inl (fun _ => 0))), (q7, .inr (1, [.int 0, .int 0, .int 0, .int 0, .long 0, .int 0, .int 0])), (q8, .inr (2, [.int 0, .int 0, .int 0, .int 0, .int 0, .int 0, .int 0, .int 0])), (q9, .inr (0, [.long 0, .int 0])), (q10, .inr (5, [.long 0, .long 0])), (q11, .inr (4, [.int (-1), .long 0, .int 0, .double 0])), (q12, .inr (4, [.int (-1), .long 0, .int 0, .double 0]))] [(c1, .object "NumberForge$Value"), (c4, .char), (c6, .char)] := hw
  refine va_astq (r := (nr_V, nt_V, 4)) hx hb hw.2.2.2 hw.1 hw.2.1 hw.2.2.1 1 0 12 4 rfl rfl rfl rfl (show ¬ ((1 : Int32) < 0 ∨ 8 ≤ (1 : Int32).toNatClampNeg) by decide) d_F_init_118 (fun H locs hP1 hD1 hS1 => ?_)
  have hw : nf_WL D A s H locs [(q0, .inr (6, [.ref q1, .ref q2, .ref q3, .ref q5, .ref q7, .ref q8, .ref q9, .ref q10])), (q1, .inl (c1, 8, .inr (.inr (.inr (.inr (va_up (va_up (fun _ => none) 0 (some q11)) 1 (some q12))))))), (q2, .inr (4, [.int (-1), .long 0, .int 0, .double 0])), (q3, .inr (3, [.ref q4, .int 0])), (q4, .inl (c4, 40, .inl (fun _ => 0))), (q5, .inr (3, [.ref q6, .int 0])), (q6, .inl (c6, 128, .inl (fun _ => 0))), (q7, .inr (1, [.int 0, .int 0, .int 0, .int 0, .long 0, .int 0, .int 0])), (q8, .inr (2, [.int 0, .int 0, .int 0, .int 0, .int 0, .int 0, .int 0, .int 0])), (q9, .inr (0, [.long 0, .int 0])), (q10, .inr (5, [.long 0, .long 0])), (q11, .inr (4, [.int (-1), .long 0, .int 0, .double 0])), (q12, .inr (4, [.int (-1), .long 0, .int 0, .double 0]))] [(c1, .object "NumberForge$Value"), (c4, .char), (c6, .char)] := ⟨hP1, hD1, hS1, hw.2.2.2⟩
  refine lv_iinc (k := 0) (v := (2 : Int32)) (lv' := [(1, .int (2 : Int32)), (0, .ref q0)]) hx hb d_F_init_119 hl rfl (by decide) (by decide) rfl (fun ls hl => ?_)
  refine lv_goto hx hb d_F_init_122 (tgt := 97) (by decide) ?_
  refine lv_iload_n hx hb d_F_init_97 rfl (lv_at hl 0 rfl) ?_
  refine lv_aload_n hx hb d_F_init_98 rfl (lv_at hl 1 rfl) ?_
  refine nf_getL (T := nt_F) K hw 0 6 0 nw_168 rfl rfl ni_F (by decide) rfl rfl d_F_init_99 ?_
  refine va_alen (v := (8 : Int32)) hx hb hw.2.2.2 hw.1 1 0 rfl rfl rfl d_F_init_102 ?_
  refine nf_ic_ge hx hb d_F_init_103 (tgt := 125) (by decide) (fun _ => ?_) (fun h => absurd (by decide) h)
  refine lv_aload_n hx hb d_F_init_106 rfl (lv_at hl 1 rfl) ?_
  refine nf_getL (T := nt_F) K hw 0 6 0 nw_168 rfl rfl ni_F (by decide) rfl rfl d_F_init_107 ?_
  refine lv_iload_n hx hb d_F_init_110 rfl (lv_at hl 0 rfl) ?_
  refine nf_newL (T := nt_V) (N := 4) hx hb K.2.2.2.1 K.2.2.2.2.1 hA hw 4 rfl ni_V ny_V nq_V nw_31 nw_33 nw_2 [.int 0, .long 0, .int 0, .double 0] (fun j hj => nf_dvV j hj) (Nat.le_of_ble_eq_true rfl) (Nat.le_of_ble_eq_true rfl) d_F_init_111 (fun q13 H hw => ?_)
  refine lv_dup hx hb d_F_init_114 rfl ?_
  refine nf_callL (As := [.ref q13]) (st0 := [.ref q13, .ref q13, .int (2 : Int32), .ref q1]) (rest := [.ref q13, .int (2 : Int32), .ref q1]) K.2.2.2.2.1 (nf_KL9 K) K.2.2.2.2.2.2.2.2.2 K.2.2.1 hA hw (nf_invIN hx hb K.2.2.2.1 rfl ((nf_KrL K nv_34).use rfl) (K.2.2.2.2.1 _ nw_35) (K.2.2.2.2.1 _ nw_36) ⟨by decide, by decide⟩ rfl nl_V_init rfl d_F_init_115) (c_V_init l [(q0, .inr (6, [.ref q1, .ref q2, .ref q3, .ref q5, .ref q7, .ref q8, .ref q9, .ref q10])), (q1, .inl (c1, 8, .inr (.inr (.inr (.inr (va_up (va_up (fun _ => none) 0 (some q11)) 1 (some q12))))))), (q2, .inr (4, [.int (-1), .long 0, .int 0, .double 0])), (q3, .inr (3, [.ref q4, .int 0])), (q4, .inl (c4, 40, .inl (fun _ => 0))), (q5, .inr (3, [.ref q6, .int 0])), (q6, .inl (c6, 128, .inl (fun _ => 0))), (q7, .inr (1, [.int 0, .int 0, .int 0, .int 0, .long 0, .int 0, .int 0])), (q8, .inr (2, [.int 0, .int 0, .int 0, .int 0, .int 0, .int 0, .int 0, .int 0])), (q9, .inr (0, [.long 0, .int 0])), (q10, .inr (5, [.long 0, .long 0])), (q11, .inr (4, [.int (-1), .long 0, .int 0, .double 0])), (q12, .inr (4, [.int (-1), .long 0, .int 0, .double 0]))] [(c1, .object "NumberForge$Value"), (c4, .char), (c6, .char)] q13 ) nw_36 nw_2 ⟨Nat.le_of_ble_eq_true rfl, Nat.le_of_ble_eq_true rfl⟩ (Nat.le_of_ble_eq_true rfl) hl.1 ⟨Nat.le_of_ble_eq_true rfl, Nat.le_of_ble_eq_true rfl⟩ (fun ws1 tys1 H locs hp hw => ?_)
  obtain ⟨rfl, rfl⟩ := hp
  have hw : nf_WL D A s H locs [(q0, .inr (6, [.ref q1, .ref q2, .ref q3, .ref q5, .ref q7, .ref q8, .ref q9, .ref q10])), (q1, .inl (c1, 8, .inr (.inr (.inr (.inr (va_up (va_up (fun _ => none) 0 (some q11)) 1 (some q12))))))), (q2, .inr (4, [.int (-1), .long 0, .int 0, .double 0])), (q3, .inr (3, [.ref q4, .int 0])), (q4, .inl (c4, 40, .inl (fun _ => 0))), (q5, .inr (3, [.ref q6, .int 0])), (q6, .inl (c6, 128, .inl (fun _ => 0))), (q7, .inr (1, [.int 0, .int 0, .int 0, .int 0, .long 0, .int 0, .int 0])), (q8, .inr (2, [.int 0, .int 0, .int 0, .int 0, .int 0, .int 0, .int 0, .int 0])), (q9, .inr (0, [.long 0, .int 0])), (q10, .inr (5, [.long 0, .long 0])), (q11, .inr (4, [.int (-1), .long 0, .int 0, .double 0])), (q12, .inr (4, [.int (-1), .long 0, .int 0, .double 0])), (q13, .inr (4, [.int (-1), .long 0, .int 0, .double 0]))] [(c1, .object "NumberForge$Value"), (c4, .char), (c6, .char)] := hw
  refine va_astq (r := (nr_V, nt_V, 4)) hx hb hw.2.2.2 hw.1 hw.2.1 hw.2.2.1 1 0 13 4 rfl rfl rfl rfl (show ¬ ((2 : Int32) < 0 ∨ 8 ≤ (2 : Int32).toNatClampNeg) by decide) d_F_init_118 (fun H locs hP1 hD1 hS1 => ?_)
  have hw : nf_WL D A s H locs [(q0, .inr (6, [.ref q1, .ref q2, .ref q3, .ref q5, .ref q7, .ref q8, .ref q9, .ref q10])), (q1, .inl (c1, 8, .inr (.inr (.inr (.inr (va_up (va_up (va_up (fun _ => none) 0 (some q11)) 1 (some q12)) 2 (some q13))))))), (q2, .inr (4, [.int (-1), .long 0, .int 0, .double 0])), (q3, .inr (3, [.ref q4, .int 0])), (q4, .inl (c4, 40, .inl (fun _ => 0))), (q5, .inr (3, [.ref q6, .int 0])), (q6, .inl (c6, 128, .inl (fun _ => 0))), (q7, .inr (1, [.int 0, .int 0, .int 0, .int 0, .long 0, .int 0, .int 0])), (q8, .inr (2, [.int 0, .int 0, .int 0, .int 0, .int 0, .int 0, .int 0, .int 0])), (q9, .inr (0, [.long 0, .int 0])), (q10, .inr (5, [.long 0, .long 0])), (q11, .inr (4, [.int (-1), .long 0, .int 0, .double 0])), (q12, .inr (4, [.int (-1), .long 0, .int 0, .double 0])), (q13, .inr (4, [.int (-1), .long 0, .int 0, .double 0]))] [(c1, .object "NumberForge$Value"), (c4, .char), (c6, .char)] := ⟨hP1, hD1, hS1, hw.2.2.2⟩
  refine lv_iinc (k := 0) (v := (3 : Int32)) (lv' := [(1, .int (3 : Int32)), (0, .ref q0)]) hx hb d_F_init_119 hl rfl (by decide) (by decide) rfl (fun ls hl => ?_)
  refine lv_goto hx hb d_F_init_122 (tgt := 97) (by decide) ?_
  refine lv_iload_n hx hb d_F_init_97 rfl (lv_at hl 0 rfl) ?_
  refine lv_aload_n hx hb d_F_init_98 rfl (lv_at hl 1 rfl) ?_
  refine nf_getL (T := nt_F) K hw 0 6 0 nw_168 rfl rfl ni_F (by decide) rfl rfl d_F_init_99 ?_
  refine va_alen (v := (8 : Int32)) hx hb hw.2.2.2 hw.1 1 0 rfl rfl rfl d_F_init_102 ?_
  refine nf_ic_ge hx hb d_F_init_103 (tgt := 125) (by decide) (fun _ => ?_) (fun h => absurd (by decide) h)
  refine lv_aload_n hx hb d_F_init_106 rfl (lv_at hl 1 rfl) ?_
  refine nf_getL (T := nt_F) K hw 0 6 0 nw_168 rfl rfl ni_F (by decide) rfl rfl d_F_init_107 ?_
  refine lv_iload_n hx hb d_F_init_110 rfl (lv_at hl 0 rfl) ?_
  refine nf_newL (T := nt_V) (N := 4) hx hb K.2.2.2.1 K.2.2.2.2.1 hA hw 4 rfl ni_V ny_V nq_V nw_31 nw_33 nw_2 [.int 0, .long 0, .int 0, .double 0] (fun j hj => nf_dvV j hj) (Nat.le_of_ble_eq_true rfl) (Nat.le_of_ble_eq_true rfl) d_F_init_111 (fun q14 H hw => ?_)
  refine lv_dup hx hb d_F_init_114 rfl ?_
  refine nf_callL (As := [.ref q14]) (st0 := [.ref q14, .ref q14, .int (3 : Int32), .ref q1]) (rest := [.ref q14, .int (3 : Int32), .ref q1]) K.2.2.2.2.1 (nf_KL9 K) K.2.2.2.2.2.2.2.2.2 K.2.2.1 hA hw (nf_invIN hx hb K.2.2.2.1 rfl ((nf_KrL K nv_34).use rfl) (K.2.2.2.2.1 _ nw_35) (K.2.2.2.2.1 _ nw_36) ⟨by decide, by decide⟩ rfl nl_V_init rfl d_F_init_115) (c_V_init l [(q0, .inr (6, [.ref q1, .ref q2, .ref q3, .ref q5, .ref q7, .ref q8, .ref q9, .ref q10])), (q1, .inl (c1, 8, .inr (.inr (.inr (.inr (va_up (va_up (va_up (fun _ => none) 0 (some q11)) 1 (some q12)) 2 (some q13))))))), (q2, .inr (4, [.int (-1), .long 0, .int 0, .double 0])), (q3, .inr (3, [.ref q4, .int 0])), (q4, .inl (c4, 40, .inl (fun _ => 0))), (q5, .inr (3, [.ref q6, .int 0])), (q6, .inl (c6, 128, .inl (fun _ => 0))), (q7, .inr (1, [.int 0, .int 0, .int 0, .int 0, .long 0, .int 0, .int 0])), (q8, .inr (2, [.int 0, .int 0, .int 0, .int 0, .int 0, .int 0, .int 0, .int 0])), (q9, .inr (0, [.long 0, .int 0])), (q10, .inr (5, [.long 0, .long 0])), (q11, .inr (4, [.int (-1), .long 0, .int 0, .double 0])), (q12, .inr (4, [.int (-1), .long 0, .int 0, .double 0])), (q13, .inr (4, [.int (-1), .long 0, .int 0, .double 0]))] [(c1, .object "NumberForge$Value"), (c4, .char), (c6, .char)] q14 ) nw_36 nw_2 ⟨Nat.le_of_ble_eq_true rfl, Nat.le_of_ble_eq_true rfl⟩ (Nat.le_of_ble_eq_true rfl) hl.1 ⟨Nat.le_of_ble_eq_true rfl, Nat.le_of_ble_eq_true rfl⟩ (fun ws1 tys1 H locs hp hw => ?_)
  obtain ⟨rfl, rfl⟩ := hp
  have hw : nf_WL D A s H locs [(q0, .inr (6, [.ref q1, .ref q2, .ref q3, .ref q5, .ref q7, .ref q8, .ref q9, .ref q10])), (q1, .inl (c1, 8, .inr (.inr (.inr (.inr (va_up (va_up (va_up (fun _ => none) 0 (some q11)) 1 (some q12)) 2 (some q13))))))), (q2, .inr (4, [.int (-1), .long 0, .int 0, .double 0])), (q3, .inr (3, [.ref q4, .int 0])), (q4, .inl (c4, 40, .inl (fun _ => 0))), (q5, .inr (3, [.ref q6, .int 0])), (q6, .inl (c6, 128, .inl (fun _ => 0))), (q7, .inr (1, [.int 0, .int 0, .int 0, .int 0, .long 0, .int 0, .int 0])), (q8, .inr (2, [.int 0, .int 0, .int 0, .int 0, .int 0, .int 0, .int 0, .int 0])), (q9, .inr (0, [.long 0, .int 0])), (q10, .inr (5, [.long 0, .long 0])), (q11, .inr (4, [.int (-1), .long 0, .int 0, .double 0])), (q12, .inr (4, [.int (-1), .long 0, .int 0, .double 0])), (q13, .inr (4, [.int (-1), .long 0, .int 0, .double 0])), (q14, .inr (4, [.int (-1), .long 0, .int 0, .double 0]))] [(c1, .object "NumberForge$Value"), (c4, .char), (c6, .char)] := hw
  refine va_astq (r := (nr_V, nt_V, 4)) hx hb hw.2.2.2 hw.1 hw.2.1 hw.2.2.1 1 0 14 4 rfl rfl rfl rfl (show ¬ ((3 : Int32) < 0 ∨ 8 ≤ (3 : Int32).toNatClampNeg) by decide) d_F_init_118 (fun H locs hP1 hD1 hS1 => ?_)
  have hw : nf_WL D A s H locs [(q0, .inr (6, [.ref q1, .ref q2, .ref q3, .ref q5, .ref q7, .ref q8, .ref q9, .ref q10])), (q1, .inl (c1, 8, .inr (.inr (.inr (.inr (va_up (va_up (va_up (va_up (fun _ => none) 0 (some q11)) 1 (some q12)) 2 (some q13)) 3 (some q14))))))), (q2, .inr (4, [.int (-1), .long 0, .int 0, .double 0])), (q3, .inr (3, [.ref q4, .int 0])), (q4, .inl (c4, 40, .inl (fun _ => 0))), (q5, .inr (3, [.ref q6, .int 0])), (q6, .inl (c6, 128, .inl (fun _ => 0))), (q7, .inr (1, [.int 0, .int 0, .int 0, .int 0, .long 0, .int 0, .int 0])), (q8, .inr (2, [.int 0, .int 0, .int 0, .int 0, .int 0, .int 0, .int 0, .int 0])), (q9, .inr (0, [.long 0, .int 0])), (q10, .inr (5, [.long 0, .long 0])), (q11, .inr (4, [.int (-1), .long 0, .int 0, .double 0])), (q12, .inr (4, [.int (-1), .long 0, .int 0, .double 0])), (q13, .inr (4, [.int (-1), .long 0, .int 0, .double 0])), (q14, .inr (4, [.int (-1), .long 0, .int 0, .double 0]))] [(c1, .object "NumberForge$Value"), (c4, .char), (c6, .char)] := ⟨hP1, hD1, hS1, hw.2.2.2⟩
  refine lv_iinc (k := 0) (v := (4 : Int32)) (lv' := [(1, .int (4 : Int32)), (0, .ref q0)]) hx hb d_F_init_119 hl rfl (by decide) (by decide) rfl (fun ls hl => ?_)
  refine lv_goto hx hb d_F_init_122 (tgt := 97) (by decide) ?_
  refine lv_iload_n hx hb d_F_init_97 rfl (lv_at hl 0 rfl) ?_
  refine lv_aload_n hx hb d_F_init_98 rfl (lv_at hl 1 rfl) ?_
  refine nf_getL (T := nt_F) K hw 0 6 0 nw_168 rfl rfl ni_F (by decide) rfl rfl d_F_init_99 ?_
  refine va_alen (v := (8 : Int32)) hx hb hw.2.2.2 hw.1 1 0 rfl rfl rfl d_F_init_102 ?_
  refine nf_ic_ge hx hb d_F_init_103 (tgt := 125) (by decide) (fun _ => ?_) (fun h => absurd (by decide) h)
  refine lv_aload_n hx hb d_F_init_106 rfl (lv_at hl 1 rfl) ?_
  refine nf_getL (T := nt_F) K hw 0 6 0 nw_168 rfl rfl ni_F (by decide) rfl rfl d_F_init_107 ?_
  refine lv_iload_n hx hb d_F_init_110 rfl (lv_at hl 0 rfl) ?_
  refine nf_newL (T := nt_V) (N := 4) hx hb K.2.2.2.1 K.2.2.2.2.1 hA hw 4 rfl ni_V ny_V nq_V nw_31 nw_33 nw_2 [.int 0, .long 0, .int 0, .double 0] (fun j hj => nf_dvV j hj) (Nat.le_of_ble_eq_true rfl) (Nat.le_of_ble_eq_true rfl) d_F_init_111 (fun q15 H hw => ?_)
  refine lv_dup hx hb d_F_init_114 rfl ?_
  refine nf_callL (As := [.ref q15]) (st0 := [.ref q15, .ref q15, .int (4 : Int32), .ref q1]) (rest := [.ref q15, .int (4 : Int32), .ref q1]) K.2.2.2.2.1 (nf_KL9 K) K.2.2.2.2.2.2.2.2.2 K.2.2.1 hA hw (nf_invIN hx hb K.2.2.2.1 rfl ((nf_KrL K nv_34).use rfl) (K.2.2.2.2.1 _ nw_35) (K.2.2.2.2.1 _ nw_36) ⟨by decide, by decide⟩ rfl nl_V_init rfl d_F_init_115) (c_V_init l [(q0, .inr (6, [.ref q1, .ref q2, .ref q3, .ref q5, .ref q7, .ref q8, .ref q9, .ref q10])), (q1, .inl (c1, 8, .inr (.inr (.inr (.inr (va_up (va_up (va_up (va_up (fun _ => none) 0 (some q11)) 1 (some q12)) 2 (some q13)) 3 (some q14))))))), (q2, .inr (4, [.int (-1), .long 0, .int 0, .double 0])), (q3, .inr (3, [.ref q4, .int 0])), (q4, .inl (c4, 40, .inl (fun _ => 0))), (q5, .inr (3, [.ref q6, .int 0])), (q6, .inl (c6, 128, .inl (fun _ => 0))), (q7, .inr (1, [.int 0, .int 0, .int 0, .int 0, .long 0, .int 0, .int 0])), (q8, .inr (2, [.int 0, .int 0, .int 0, .int 0, .int 0, .int 0, .int 0, .int 0])), (q9, .inr (0, [.long 0, .int 0])), (q10, .inr (5, [.long 0, .long 0])), (q11, .inr (4, [.int (-1), .long 0, .int 0, .double 0])), (q12, .inr (4, [.int (-1), .long 0, .int 0, .double 0])), (q13, .inr (4, [.int (-1), .long 0, .int 0, .double 0])), (q14, .inr (4, [.int (-1), .long 0, .int 0, .double 0]))] [(c1, .object "NumberForge$Value"), (c4, .char), (c6, .char)] q15 ) nw_36 nw_2 ⟨Nat.le_of_ble_eq_true rfl, Nat.le_of_ble_eq_true rfl⟩ (Nat.le_of_ble_eq_true rfl) hl.1 ⟨Nat.le_of_ble_eq_true rfl, Nat.le_of_ble_eq_true rfl⟩ (fun ws1 tys1 H locs hp hw => ?_)
  obtain ⟨rfl, rfl⟩ := hp
  have hw : nf_WL D A s H locs [(q0, .inr (6, [.ref q1, .ref q2, .ref q3, .ref q5, .ref q7, .ref q8, .ref q9, .ref q10])), (q1, .inl (c1, 8, .inr (.inr (.inr (.inr (va_up (va_up (va_up (va_up (fun _ => none) 0 (some q11)) 1 (some q12)) 2 (some q13)) 3 (some q14))))))), (q2, .inr (4, [.int (-1), .long 0, .int 0, .double 0])), (q3, .inr (3, [.ref q4, .int 0])), (q4, .inl (c4, 40, .inl (fun _ => 0))), (q5, .inr (3, [.ref q6, .int 0])), (q6, .inl (c6, 128, .inl (fun _ => 0))), (q7, .inr (1, [.int 0, .int 0, .int 0, .int 0, .long 0, .int 0, .int 0])), (q8, .inr (2, [.int 0, .int 0, .int 0, .int 0, .int 0, .int 0, .int 0, .int 0])), (q9, .inr (0, [.long 0, .int 0])), (q10, .inr (5, [.long 0, .long 0])), (q11, .inr (4, [.int (-1), .long 0, .int 0, .double 0])), (q12, .inr (4, [.int (-1), .long 0, .int 0, .double 0])), (q13, .inr (4, [.int (-1), .long 0, .int 0, .double 0])), (q14, .inr (4, [.int (-1), .long 0, .int 0, .double 0])), (q15, .inr (4, [.int (-1), .long 0, .int 0, .double 0]))] [(c1, .object "NumberForge$Value"), (c4, .char), (c6, .char)] := hw
  refine va_astq (r := (nr_V, nt_V, 4)) hx hb hw.2.2.2 hw.1 hw.2.1 hw.2.2.1 1 0 15 4 rfl rfl rfl rfl (show ¬ ((4 : Int32) < 0 ∨ 8 ≤ (4 : Int32).toNatClampNeg) by decide) d_F_init_118 (fun H locs hP1 hD1 hS1 => ?_)
  have hw : nf_WL D A s H locs [(q0, .inr (6, [.ref q1, .ref q2, .ref q3, .ref q5, .ref q7, .ref q8, .ref q9, .ref q10])), (q1, .inl (c1, 8, .inr (.inr (.inr (.inr (va_up (va_up (va_up (va_up (va_up (fun _ => none) 0 (some q11)) 1 (some q12)) 2 (some q13)) 3 (some q14)) 4 (some q15))))))), (q2, .inr (4, [.int (-1), .long 0, .int 0, .double 0])), (q3, .inr (3, [.ref q4, .int 0])), (q4, .inl (c4, 40, .inl (fun _ => 0))), (q5, .inr (3, [.ref q6, .int 0])), (q6, .inl (c6, 128, .inl (fun _ => 0))), (q7, .inr (1, [.int 0, .int 0, .int 0, .int 0, .long 0, .int 0, .int 0])), (q8, .inr (2, [.int 0, .int 0, .int 0, .int 0, .int 0, .int 0, .int 0, .int 0])), (q9, .inr (0, [.long 0, .int 0])), (q10, .inr (5, [.long 0, .long 0])), (q11, .inr (4, [.int (-1), .long 0, .int 0, .double 0])), (q12, .inr (4, [.int (-1), .long 0, .int 0, .double 0])), (q13, .inr (4, [.int (-1), .long 0, .int 0, .double 0])), (q14, .inr (4, [.int (-1), .long 0, .int 0, .double 0])), (q15, .inr (4, [.int (-1), .long 0, .int 0, .double 0]))] [(c1, .object "NumberForge$Value"), (c4, .char), (c6, .char)] := ⟨hP1, hD1, hS1, hw.2.2.2⟩
  refine lv_iinc (k := 0) (v := (5 : Int32)) (lv' := [(1, .int (5 : Int32)), (0, .ref q0)]) hx hb d_F_init_119 hl rfl (by decide) (by decide) rfl (fun ls hl => ?_)
  refine lv_goto hx hb d_F_init_122 (tgt := 97) (by decide) ?_
  refine lv_iload_n hx hb d_F_init_97 rfl (lv_at hl 0 rfl) ?_
  refine lv_aload_n hx hb d_F_init_98 rfl (lv_at hl 1 rfl) ?_
  refine nf_getL (T := nt_F) K hw 0 6 0 nw_168 rfl rfl ni_F (by decide) rfl rfl d_F_init_99 ?_
  refine va_alen (v := (8 : Int32)) hx hb hw.2.2.2 hw.1 1 0 rfl rfl rfl d_F_init_102 ?_
  refine nf_ic_ge hx hb d_F_init_103 (tgt := 125) (by decide) (fun _ => ?_) (fun h => absurd (by decide) h)
  refine lv_aload_n hx hb d_F_init_106 rfl (lv_at hl 1 rfl) ?_
  refine nf_getL (T := nt_F) K hw 0 6 0 nw_168 rfl rfl ni_F (by decide) rfl rfl d_F_init_107 ?_
  refine lv_iload_n hx hb d_F_init_110 rfl (lv_at hl 0 rfl) ?_
  refine nf_newL (T := nt_V) (N := 4) hx hb K.2.2.2.1 K.2.2.2.2.1 hA hw 4 rfl ni_V ny_V nq_V nw_31 nw_33 nw_2 [.int 0, .long 0, .int 0, .double 0] (fun j hj => nf_dvV j hj) (Nat.le_of_ble_eq_true rfl) (Nat.le_of_ble_eq_true rfl) d_F_init_111 (fun q16 H hw => ?_)
  refine lv_dup hx hb d_F_init_114 rfl ?_
  refine nf_callL (As := [.ref q16]) (st0 := [.ref q16, .ref q16, .int (5 : Int32), .ref q1]) (rest := [.ref q16, .int (5 : Int32), .ref q1]) K.2.2.2.2.1 (nf_KL9 K) K.2.2.2.2.2.2.2.2.2 K.2.2.1 hA hw (nf_invIN hx hb K.2.2.2.1 rfl ((nf_KrL K nv_34).use rfl) (K.2.2.2.2.1 _ nw_35) (K.2.2.2.2.1 _ nw_36) ⟨by decide, by decide⟩ rfl nl_V_init rfl d_F_init_115) (c_V_init l [(q0, .inr (6, [.ref q1, .ref q2, .ref q3, .ref q5, .ref q7, .ref q8, .ref q9, .ref q10])), (q1, .inl (c1, 8, .inr (.inr (.inr (.inr (va_up (va_up (va_up (va_up (va_up (fun _ => none) 0 (some q11)) 1 (some q12)) 2 (some q13)) 3 (some q14)) 4 (some q15))))))), (q2, .inr (4, [.int (-1), .long 0, .int 0, .double 0])), (q3, .inr (3, [.ref q4, .int 0])), (q4, .inl (c4, 40, .inl (fun _ => 0))), (q5, .inr (3, [.ref q6, .int 0])), (q6, .inl (c6, 128, .inl (fun _ => 0))), (q7, .inr (1, [.int 0, .int 0, .int 0, .int 0, .long 0, .int 0, .int 0])), (q8, .inr (2, [.int 0, .int 0, .int 0, .int 0, .int 0, .int 0, .int 0, .int 0])), (q9, .inr (0, [.long 0, .int 0])), (q10, .inr (5, [.long 0, .long 0])), (q11, .inr (4, [.int (-1), .long 0, .int 0, .double 0])), (q12, .inr (4, [.int (-1), .long 0, .int 0, .double 0])), (q13, .inr (4, [.int (-1), .long 0, .int 0, .double 0])), (q14, .inr (4, [.int (-1), .long 0, .int 0, .double 0])), (q15, .inr (4, [.int (-1), .long 0, .int 0, .double 0]))] [(c1, .object "NumberForge$Value"), (c4, .char), (c6, .char)] q16 ) nw_36 nw_2 ⟨Nat.le_of_ble_eq_true rfl, Nat.le_of_ble_eq_true rfl⟩ (Nat.le_of_ble_eq_true rfl) hl.1 ⟨Nat.le_of_ble_eq_true rfl, Nat.le_of_ble_eq_true rfl⟩ (fun ws1 tys1 H locs hp hw => ?_)
  obtain ⟨rfl, rfl⟩ := hp
  have hw : nf_WL D A s H locs [(q0, .inr (6, [.ref q1, .ref q2, .ref q3, .ref q5, .ref q7, .ref q8, .ref q9, .ref q10])), (q1, .inl (c1, 8, .inr (.inr (.inr (.inr (va_up (va_up (va_up (va_up (va_up (fun _ => none) 0 (some q11)) 1 (some q12)) 2 (some q13)) 3 (some q14)) 4 (some q15))))))), (q2, .inr (4, [.int (-1), .long 0, .int 0, .double 0])), (q3, .inr (3, [.ref q4, .int 0])), (q4, .inl (c4, 40, .inl (fun _ => 0))), (q5, .inr (3, [.ref q6, .int 0])), (q6, .inl (c6, 128, .inl (fun _ => 0))), (q7, .inr (1, [.int 0, .int 0, .int 0, .int 0, .long 0, .int 0, .int 0])), (q8, .inr (2, [.int 0, .int 0, .int 0, .int 0, .int 0, .int 0, .int 0, .int 0])), (q9, .inr (0, [.long 0, .int 0])), (q10, .inr (5, [.long 0, .long 0])), (q11, .inr (4, [.int (-1), .long 0, .int 0, .double 0])), (q12, .inr (4, [.int (-1), .long 0, .int 0, .double 0])), (q13, .inr (4, [.int (-1), .long 0, .int 0, .double 0])), (q14, .inr (4, [.int (-1), .long 0, .int 0, .double 0])), (q15, .inr (4, [.int (-1), .long 0, .int 0, .double 0])), (q16, .inr (4, [.int (-1), .long 0, .int 0, .double 0]))] [(c1, .object "NumberForge$Value"), (c4, .char), (c6, .char)] := hw
  refine va_astq (r := (nr_V, nt_V, 4)) hx hb hw.2.2.2 hw.1 hw.2.1 hw.2.2.1 1 0 16 4 rfl rfl rfl rfl (show ¬ ((5 : Int32) < 0 ∨ 8 ≤ (5 : Int32).toNatClampNeg) by decide) d_F_init_118 (fun H locs hP1 hD1 hS1 => ?_)
  have hw : nf_WL D A s H locs [(q0, .inr (6, [.ref q1, .ref q2, .ref q3, .ref q5, .ref q7, .ref q8, .ref q9, .ref q10])), (q1, .inl (c1, 8, .inr (.inr (.inr (.inr (va_up (va_up (va_up (va_up (va_up (va_up (fun _ => none) 0 (some q11)) 1 (some q12)) 2 (some q13)) 3 (some q14)) 4 (some q15)) 5 (some q16))))))), (q2, .inr (4, [.int (-1), .long 0, .int 0, .double 0])), (q3, .inr (3, [.ref q4, .int 0])), (q4, .inl (c4, 40, .inl (fun _ => 0))), (q5, .inr (3, [.ref q6, .int 0])), (q6, .inl (c6, 128, .inl (fun _ => 0))), (q7, .inr (1, [.int 0, .int 0, .int 0, .int 0, .long 0, .int 0, .int 0])), (q8, .inr (2, [.int 0, .int 0, .int 0, .int 0, .int 0, .int 0, .int 0, .int 0])), (q9, .inr (0, [.long 0, .int 0])), (q10, .inr (5, [.long 0, .long 0])), (q11, .inr (4, [.int (-1), .long 0, .int 0, .double 0])), (q12, .inr (4, [.int (-1), .long 0, .int 0, .double 0])), (q13, .inr (4, [.int (-1), .long 0, .int 0, .double 0])), (q14, .inr (4, [.int (-1), .long 0, .int 0, .double 0])), (q15, .inr (4, [.int (-1), .long 0, .int 0, .double 0])), (q16, .inr (4, [.int (-1), .long 0, .int 0, .double 0]))] [(c1, .object "NumberForge$Value"), (c4, .char), (c6, .char)] := ⟨hP1, hD1, hS1, hw.2.2.2⟩
  refine lv_iinc (k := 0) (v := (6 : Int32)) (lv' := [(1, .int (6 : Int32)), (0, .ref q0)]) hx hb d_F_init_119 hl rfl (by decide) (by decide) rfl (fun ls hl => ?_)
  refine lv_goto hx hb d_F_init_122 (tgt := 97) (by decide) ?_
  refine lv_iload_n hx hb d_F_init_97 rfl (lv_at hl 0 rfl) ?_
  refine lv_aload_n hx hb d_F_init_98 rfl (lv_at hl 1 rfl) ?_
  refine nf_getL (T := nt_F) K hw 0 6 0 nw_168 rfl rfl ni_F (by decide) rfl rfl d_F_init_99 ?_
  refine va_alen (v := (8 : Int32)) hx hb hw.2.2.2 hw.1 1 0 rfl rfl rfl d_F_init_102 ?_
  refine nf_ic_ge hx hb d_F_init_103 (tgt := 125) (by decide) (fun _ => ?_) (fun h => absurd (by decide) h)
  refine lv_aload_n hx hb d_F_init_106 rfl (lv_at hl 1 rfl) ?_
  refine nf_getL (T := nt_F) K hw 0 6 0 nw_168 rfl rfl ni_F (by decide) rfl rfl d_F_init_107 ?_
  refine lv_iload_n hx hb d_F_init_110 rfl (lv_at hl 0 rfl) ?_
  refine nf_newL (T := nt_V) (N := 4) hx hb K.2.2.2.1 K.2.2.2.2.1 hA hw 4 rfl ni_V ny_V nq_V nw_31 nw_33 nw_2 [.int 0, .long 0, .int 0, .double 0] (fun j hj => nf_dvV j hj) (Nat.le_of_ble_eq_true rfl) (Nat.le_of_ble_eq_true rfl) d_F_init_111 (fun q17 H hw => ?_)
  refine lv_dup hx hb d_F_init_114 rfl ?_
  refine nf_callL (As := [.ref q17]) (st0 := [.ref q17, .ref q17, .int (6 : Int32), .ref q1]) (rest := [.ref q17, .int (6 : Int32), .ref q1]) K.2.2.2.2.1 (nf_KL9 K) K.2.2.2.2.2.2.2.2.2 K.2.2.1 hA hw (nf_invIN hx hb K.2.2.2.1 rfl ((nf_KrL K nv_34).use rfl) (K.2.2.2.2.1 _ nw_35) (K.2.2.2.2.1 _ nw_36) ⟨by decide, by decide⟩ rfl nl_V_init rfl d_F_init_115) (c_V_init l [(q0, .inr (6, [.ref q1, .ref q2, .ref q3, .ref q5, .ref q7, .ref q8, .ref q9, .ref q10])), (q1, .inl (c1, 8, .inr (.inr (.inr (.inr (va_up (va_up (va_up (va_up (va_up (va_up (fun _ => none) 0 (some q11)) 1 (some q12)) 2 (some q13)) 3 (some q14)) 4 (some q15)) 5 (some q16))))))), (q2, .inr (4, [.int (-1), .long 0, .int 0, .double 0])), (q3, .inr (3, [.ref q4, .int 0])), (q4, .inl (c4, 40, .inl (fun _ => 0))), (q5, .inr (3, [.ref q6, .int 0])), (q6, .inl (c6, 128, .inl (fun _ => 0))), (q7, .inr (1, [.int 0, .int 0, .int 0, .int 0, .long 0, .int 0, .int 0])), (q8, .inr (2, [.int 0, .int 0, .int 0, .int 0, .int 0, .int 0, .int 0, .int 0])), (q9, .inr (0, [.long 0, .int 0])), (q10, .inr (5, [.long 0, .long 0])), (q11, .inr (4, [.int (-1), .long 0, .int 0, .double 0])), (q12, .inr (4, [.int (-1), .long 0, .int 0, .double 0])), (q13, .inr (4, [.int (-1), .long 0, .int 0, .double 0])), (q14, .inr (4, [.int (-1), .long 0, .int 0, .double 0])), (q15, .inr (4, [.int (-1), .long 0, .int 0, .double 0])), (q16, .inr (4, [.int (-1), .long 0, .int 0, .double 0]))] [(c1, .object "NumberForge$Value"), (c4, .char), (c6, .char)] q17 ) nw_36 nw_2 ⟨Nat.le_of_ble_eq_true rfl, Nat.le_of_ble_eq_true rfl⟩ (Nat.le_of_ble_eq_true rfl) hl.1 ⟨Nat.le_of_ble_eq_true rfl, Nat.le_of_ble_eq_true rfl⟩ (fun ws1 tys1 H locs hp hw => ?_)
  obtain ⟨rfl, rfl⟩ := hp
  have hw : nf_WL D A s H locs [(q0, .inr (6, [.ref q1, .ref q2, .ref q3, .ref q5, .ref q7, .ref q8, .ref q9, .ref q10])), (q1, .inl (c1, 8, .inr (.inr (.inr (.inr (va_up (va_up (va_up (va_up (va_up (va_up (fun _ => none) 0 (some q11)) 1 (some q12)) 2 (some q13)) 3 (some q14)) 4 (some q15)) 5 (some q16))))))), (q2, .inr (4, [.int (-1), .long 0, .int 0, .double 0])), (q3, .inr (3, [.ref q4, .int 0])), (q4, .inl (c4, 40, .inl (fun _ => 0))), (q5, .inr (3, [.ref q6, .int 0])), (q6, .inl (c6, 128, .inl (fun _ => 0))), (q7, .inr (1, [.int 0, .int 0, .int 0, .int 0, .long 0, .int 0, .int 0])), (q8, .inr (2, [.int 0, .int 0, .int 0, .int 0, .int 0, .int 0, .int 0, .int 0])), (q9, .inr (0, [.long 0, .int 0])), (q10, .inr (5, [.long 0, .long 0])), (q11, .inr (4, [.int (-1), .long 0, .int 0, .double 0])), (q12, .inr (4, [.int (-1), .long 0, .int 0, .double 0])), (q13, .inr (4, [.int (-1), .long 0, .int 0, .double 0])), (q14, .inr (4, [.int (-1), .long 0, .int 0, .double 0])), (q15, .inr (4, [.int (-1), .long 0, .int 0, .double 0])), (q16, .inr (4, [.int (-1), .long 0, .int 0, .double 0])), (q17, .inr (4, [.int (-1), .long 0, .int 0, .double 0]))] [(c1, .object "NumberForge$Value"), (c4, .char), (c6, .char)] := hw
  refine va_astq (r := (nr_V, nt_V, 4)) hx hb hw.2.2.2 hw.1 hw.2.1 hw.2.2.1 1 0 17 4 rfl rfl rfl rfl (show ¬ ((6 : Int32) < 0 ∨ 8 ≤ (6 : Int32).toNatClampNeg) by decide) d_F_init_118 (fun H locs hP1 hD1 hS1 => ?_)
  have hw : nf_WL D A s H locs [(q0, .inr (6, [.ref q1, .ref q2, .ref q3, .ref q5, .ref q7, .ref q8, .ref q9, .ref q10])), (q1, .inl (c1, 8, .inr (.inr (.inr (.inr (va_up (va_up (va_up (va_up (va_up (va_up (va_up (fun _ => none) 0 (some q11)) 1 (some q12)) 2 (some q13)) 3 (some q14)) 4 (some q15)) 5 (some q16)) 6 (some q17))))))), (q2, .inr (4, [.int (-1), .long 0, .int 0, .double 0])), (q3, .inr (3, [.ref q4, .int 0])), (q4, .inl (c4, 40, .inl (fun _ => 0))), (q5, .inr (3, [.ref q6, .int 0])), (q6, .inl (c6, 128, .inl (fun _ => 0))), (q7, .inr (1, [.int 0, .int 0, .int 0, .int 0, .long 0, .int 0, .int 0])), (q8, .inr (2, [.int 0, .int 0, .int 0, .int 0, .int 0, .int 0, .int 0, .int 0])), (q9, .inr (0, [.long 0, .int 0])), (q10, .inr (5, [.long 0, .long 0])), (q11, .inr (4, [.int (-1), .long 0, .int 0, .double 0])), (q12, .inr (4, [.int (-1), .long 0, .int 0, .double 0])), (q13, .inr (4, [.int (-1), .long 0, .int 0, .double 0])), (q14, .inr (4, [.int (-1), .long 0, .int 0, .double 0])), (q15, .inr (4, [.int (-1), .long 0, .int 0, .double 0])), (q16, .inr (4, [.int (-1), .long 0, .int 0, .double 0])), (q17, .inr (4, [.int (-1), .long 0, .int 0, .double 0]))] [(c1, .object "NumberForge$Value"), (c4, .char), (c6, .char)] := ⟨hP1, hD1, hS1, hw.2.2.2⟩
  refine lv_iinc (k := 0) (v := (7 : Int32)) (lv' := [(1, .int (7 : Int32)), (0, .ref q0)]) hx hb d_F_init_119 hl rfl (by decide) (by decide) rfl (fun ls hl => ?_)
  refine lv_goto hx hb d_F_init_122 (tgt := 97) (by decide) ?_
  refine lv_iload_n hx hb d_F_init_97 rfl (lv_at hl 0 rfl) ?_
  refine lv_aload_n hx hb d_F_init_98 rfl (lv_at hl 1 rfl) ?_
  refine nf_getL (T := nt_F) K hw 0 6 0 nw_168 rfl rfl ni_F (by decide) rfl rfl d_F_init_99 ?_
  refine va_alen (v := (8 : Int32)) hx hb hw.2.2.2 hw.1 1 0 rfl rfl rfl d_F_init_102 ?_
  refine nf_ic_ge hx hb d_F_init_103 (tgt := 125) (by decide) (fun _ => ?_) (fun h => absurd (by decide) h)
  refine lv_aload_n hx hb d_F_init_106 rfl (lv_at hl 1 rfl) ?_
  refine nf_getL (T := nt_F) K hw 0 6 0 nw_168 rfl rfl ni_F (by decide) rfl rfl d_F_init_107 ?_
  refine lv_iload_n hx hb d_F_init_110 rfl (lv_at hl 0 rfl) ?_
  refine nf_newL (T := nt_V) (N := 4) hx hb K.2.2.2.1 K.2.2.2.2.1 hA hw 4 rfl ni_V ny_V nq_V nw_31 nw_33 nw_2 [.int 0, .long 0, .int 0, .double 0] (fun j hj => nf_dvV j hj) (Nat.le_of_ble_eq_true rfl) (Nat.le_of_ble_eq_true rfl) d_F_init_111 (fun q18 H hw => ?_)
  refine lv_dup hx hb d_F_init_114 rfl ?_
  refine nf_callL (As := [.ref q18]) (st0 := [.ref q18, .ref q18, .int (7 : Int32), .ref q1]) (rest := [.ref q18, .int (7 : Int32), .ref q1]) K.2.2.2.2.1 (nf_KL9 K) K.2.2.2.2.2.2.2.2.2 K.2.2.1 hA hw (nf_invIN hx hb K.2.2.2.1 rfl ((nf_KrL K nv_34).use rfl) (K.2.2.2.2.1 _ nw_35) (K.2.2.2.2.1 _ nw_36) ⟨by decide, by decide⟩ rfl nl_V_init rfl d_F_init_115) (c_V_init l [(q0, .inr (6, [.ref q1, .ref q2, .ref q3, .ref q5, .ref q7, .ref q8, .ref q9, .ref q10])), (q1, .inl (c1, 8, .inr (.inr (.inr (.inr (va_up (va_up (va_up (va_up (va_up (va_up (va_up (fun _ => none) 0 (some q11)) 1 (some q12)) 2 (some q13)) 3 (some q14)) 4 (some q15)) 5 (some q16)) 6 (some q17))))))), (q2, .inr (4, [.int (-1), .long 0, .int 0, .double 0])), (q3, .inr (3, [.ref q4, .int 0])), (q4, .inl (c4, 40, .inl (fun _ => 0))), (q5, .inr (3, [.ref q6, .int 0])), (q6, .inl (c6, 128, .inl (fun _ => 0))), (q7, .inr (1, [.int 0, .int 0, .int 0, .int 0, .long 0, .int 0, .int 0])), (q8, .inr (2, [.int 0, .int 0, .int 0, .int 0, .int 0, .int 0, .int 0, .int 0])), (q9, .inr (0, [.long 0, .int 0])), (q10, .inr (5, [.long 0, .long 0])), (q11, .inr (4, [.int (-1), .long 0, .int 0, .double 0])), (q12, .inr (4, [.int (-1), .long 0, .int 0, .double 0])), (q13, .inr (4, [.int (-1), .long 0, .int 0, .double 0])), (q14, .inr (4, [.int (-1), .long 0, .int 0, .double 0])), (q15, .inr (4, [.int (-1), .long 0, .int 0, .double 0])), (q16, .inr (4, [.int (-1), .long 0, .int 0, .double 0])), (q17, .inr (4, [.int (-1), .long 0, .int 0, .double 0]))] [(c1, .object "NumberForge$Value"), (c4, .char), (c6, .char)] q18 ) nw_36 nw_2 ⟨Nat.le_of_ble_eq_true rfl, Nat.le_of_ble_eq_true rfl⟩ (Nat.le_of_ble_eq_true rfl) hl.1 ⟨Nat.le_of_ble_eq_true rfl, Nat.le_of_ble_eq_true rfl⟩ (fun ws1 tys1 H locs hp hw => ?_)
  obtain ⟨rfl, rfl⟩ := hp
  have hw : nf_WL D A s H locs [(q0, .inr (6, [.ref q1, .ref q2, .ref q3, .ref q5, .ref q7, .ref q8, .ref q9, .ref q10])), (q1, .inl (c1, 8, .inr (.inr (.inr (.inr (va_up (va_up (va_up (va_up (va_up (va_up (va_up (fun _ => none) 0 (some q11)) 1 (some q12)) 2 (some q13)) 3 (some q14)) 4 (some q15)) 5 (some q16)) 6 (some q17))))))), (q2, .inr (4, [.int (-1), .long 0, .int 0, .double 0])), (q3, .inr (3, [.ref q4, .int 0])), (q4, .inl (c4, 40, .inl (fun _ => 0))), (q5, .inr (3, [.ref q6, .int 0])), (q6, .inl (c6, 128, .inl (fun _ => 0))), (q7, .inr (1, [.int 0, .int 0, .int 0, .int 0, .long 0, .int 0, .int 0])), (q8, .inr (2, [.int 0, .int 0, .int 0, .int 0, .int 0, .int 0, .int 0, .int 0])), (q9, .inr (0, [.long 0, .int 0])), (q10, .inr (5, [.long 0, .long 0])), (q11, .inr (4, [.int (-1), .long 0, .int 0, .double 0])), (q12, .inr (4, [.int (-1), .long 0, .int 0, .double 0])), (q13, .inr (4, [.int (-1), .long 0, .int 0, .double 0])), (q14, .inr (4, [.int (-1), .long 0, .int 0, .double 0])), (q15, .inr (4, [.int (-1), .long 0, .int 0, .double 0])), (q16, .inr (4, [.int (-1), .long 0, .int 0, .double 0])), (q17, .inr (4, [.int (-1), .long 0, .int 0, .double 0])), (q18, .inr (4, [.int (-1), .long 0, .int 0, .double 0]))] [(c1, .object "NumberForge$Value"), (c4, .char), (c6, .char)] := hw
  refine va_astq (r := (nr_V, nt_V, 4)) hx hb hw.2.2.2 hw.1 hw.2.1 hw.2.2.1 1 0 18 4 rfl rfl rfl rfl (show ¬ ((7 : Int32) < 0 ∨ 8 ≤ (7 : Int32).toNatClampNeg) by decide) d_F_init_118 (fun H locs hP1 hD1 hS1 => ?_)
  have hw : nf_WL D A s H locs [(q0, .inr (6, [.ref q1, .ref q2, .ref q3, .ref q5, .ref q7, .ref q8, .ref q9, .ref q10])), (q1, .inl (c1, 8, .inr (.inr (.inr (.inr (va_up (va_up (va_up (va_up (va_up (va_up (va_up (va_up (fun _ => none) 0 (some q11)) 1 (some q12)) 2 (some q13)) 3 (some q14)) 4 (some q15)) 5 (some q16)) 6 (some q17)) 7 (some q18))))))), (q2, .inr (4, [.int (-1), .long 0, .int 0, .double 0])), (q3, .inr (3, [.ref q4, .int 0])), (q4, .inl (c4, 40, .inl (fun _ => 0))), (q5, .inr (3, [.ref q6, .int 0])), (q6, .inl (c6, 128, .inl (fun _ => 0))), (q7, .inr (1, [.int 0, .int 0, .int 0, .int 0, .long 0, .int 0, .int 0])), (q8, .inr (2, [.int 0, .int 0, .int 0, .int 0, .int 0, .int 0, .int 0, .int 0])), (q9, .inr (0, [.long 0, .int 0])), (q10, .inr (5, [.long 0, .long 0])), (q11, .inr (4, [.int (-1), .long 0, .int 0, .double 0])), (q12, .inr (4, [.int (-1), .long 0, .int 0, .double 0])), (q13, .inr (4, [.int (-1), .long 0, .int 0, .double 0])), (q14, .inr (4, [.int (-1), .long 0, .int 0, .double 0])), (q15, .inr (4, [.int (-1), .long 0, .int 0, .double 0])), (q16, .inr (4, [.int (-1), .long 0, .int 0, .double 0])), (q17, .inr (4, [.int (-1), .long 0, .int 0, .double 0])), (q18, .inr (4, [.int (-1), .long 0, .int 0, .double 0]))] [(c1, .object "NumberForge$Value"), (c4, .char), (c6, .char)] := ⟨hP1, hD1, hS1, hw.2.2.2⟩
  refine lv_iinc (k := 0) (v := (8 : Int32)) (lv' := [(1, .int (8 : Int32)), (0, .ref q0)]) hx hb d_F_init_119 hl rfl (by decide) (by decide) rfl (fun ls hl => ?_)
  refine lv_goto hx hb d_F_init_122 (tgt := 97) (by decide) ?_
  refine lv_iload_n hx hb d_F_init_97 rfl (lv_at hl 0 rfl) ?_
  refine lv_aload_n hx hb d_F_init_98 rfl (lv_at hl 1 rfl) ?_
  refine nf_getL (T := nt_F) K hw 0 6 0 nw_168 rfl rfl ni_F (by decide) rfl rfl d_F_init_99 ?_
  refine va_alen (v := (8 : Int32)) hx hb hw.2.2.2 hw.1 1 0 rfl rfl rfl d_F_init_102 ?_
  refine nf_ic_ge hx hb d_F_init_103 (tgt := 125) (by decide) (fun h => absurd h (by decide)) (fun _ => ?_)
  exact nf_vretL K hw d_F_init_125 (Nat.le_of_ble_eq_true rfl) (Nat.le_of_ble_eq_true rfl) ⟨q1, q2, q3, q4, q5, q6, q7, q8, q9, q10, q11, q12, q13, q14, q15, q16, q17, q18, c1, c4, c6, rfl, rfl⟩
theorem d_M_init_0 : decode nb_M_init 0 = .ok (.aload_n 0, 1) := by decide +kernel
theorem d_M_init_1 : decode nb_M_init 1 = .ok (.invokespecial 1, 3) := by decide +kernel
theorem d_M_init_4 : decode nb_M_init 4 = .ok (.aload_n 0, 1) := by decide +kernel
theorem d_M_init_5 : decode nb_M_init 5 = .ok (.bipush 40, 2) := by decide +kernel
theorem d_M_init_7 : decode nb_M_init 7 = .ok (.newarray .int, 2) := by decide +kernel
theorem d_M_init_9 : decode nb_M_init 9 = .ok (.putfield 7, 3) := by decide +kernel
theorem d_M_init_12 : decode nb_M_init 12 = .ok (.aload_n 0, 1) := by decide +kernel
theorem d_M_init_13 : decode nb_M_init 13 = .ok (.sipush 400, 3) := by decide +kernel
theorem d_M_init_16 : decode nb_M_init 16 = .ok (.newarray .int, 2) := by decide +kernel
theorem d_M_init_18 : decode nb_M_init 18 = .ok (.putfield 13, 3) := by decide +kernel
theorem d_M_init_21 : decode nb_M_init 21 = .ok (.aload_n 0, 1) := by decide +kernel
theorem d_M_init_22 : decode nb_M_init 22 = .ok (.bipush 8, 2) := by decide +kernel
theorem d_M_init_24 : decode nb_M_init 24 = .ok (.newarray .int, 2) := by decide +kernel
theorem d_M_init_26 : decode nb_M_init 26 = .ok (.putfield 16, 3) := by decide +kernel
theorem d_M_init_29 : decode nb_M_init 29 = .ok (.aload_n 0, 1) := by decide +kernel
theorem d_M_init_30 : decode nb_M_init 30 = .ok (.bipush 8, 2) := by decide +kernel
theorem d_M_init_32 : decode nb_M_init 32 = .ok (.newarray .long, 2) := by decide +kernel
theorem d_M_init_34 : decode nb_M_init 34 = .ok (.putfield 19, 3) := by decide +kernel
theorem d_M_init_37 : decode nb_M_init 37 = .ok (.aload_n 0, 1) := by decide +kernel
theorem d_M_init_38 : decode nb_M_init 38 = .ok (.bipush 8, 2) := by decide +kernel
theorem d_M_init_40 : decode nb_M_init 40 = .ok (.newarray .int, 2) := by decide +kernel
theorem d_M_init_42 : decode nb_M_init 42 = .ok (.putfield 23, 3) := by decide +kernel
theorem d_M_init_45 : decode nb_M_init 45 = .ok (.aload_n 0, 1) := by decide +kernel
theorem d_M_init_46 : decode nb_M_init 46 = .ok (.bipush 8, 2) := by decide +kernel
theorem d_M_init_48 : decode nb_M_init 48 = .ok (.newarray .double, 2) := by decide +kernel
theorem d_M_init_50 : decode nb_M_init 50 = .ok (.putfield 26, 3) := by decide +kernel
theorem d_M_init_53 : decode nb_M_init 53 = .ok (.aload_n 0, 1) := by decide +kernel
theorem d_M_init_54 : decode nb_M_init 54 = .ok (.bipush 80, 2) := by decide +kernel
theorem d_M_init_56 : decode nb_M_init 56 = .ok (.newarray .int, 2) := by decide +kernel
theorem d_M_init_58 : decode nb_M_init 58 = .ok (.putfield 30, 3) := by decide +kernel
theorem d_M_init_61 : decode nb_M_init 61 = .ok (.iconst 0, 1) := by decide +kernel
theorem d_M_init_62 : decode nb_M_init 62 = .ok (.istore_n 1, 1) := by decide +kernel
theorem d_M_init_63 : decode nb_M_init 63 = .ok (.iload_n 1, 1) := by decide +kernel
theorem d_M_init_64 : decode nb_M_init 64 = .ok (.bipush 8, 2) := by decide +kernel
theorem d_M_init_66 : decode nb_M_init 66 = .ok (.if_icmp .ge 16, 3) := by decide +kernel
theorem d_M_init_69 : decode nb_M_init 69 = .ok (.aload_n 0, 1) := by decide +kernel
theorem d_M_init_70 : decode nb_M_init 70 = .ok (.getfield 16, 3) := by decide +kernel
theorem d_M_init_73 : decode nb_M_init 73 = .ok (.iload_n 1, 1) := by decide +kernel
theorem d_M_init_74 : decode nb_M_init 74 = .ok (.iconst (-1), 1) := by decide +kernel
theorem d_M_init_75 : decode nb_M_init 75 = .ok (.iastore, 1) := by decide +kernel
theorem d_M_init_76 : decode nb_M_init 76 = .ok (.iinc 1 1, 3) := by decide +kernel
theorem d_M_init_79 : decode nb_M_init 79 = .ok (.goto (-16), 3) := by decide +kernel
theorem d_M_init_82 : decode nb_M_init 82 = .ok (.return_, 1) := by decide +kernel
abbrev rm_M_init : Room := ({ frames := 1, cells := 7, slots := 552, locals := 20 })
theorem c_M_init (l : Launch) (X : va_W) (T : List (ClassId × FieldType)) (q0 : Nat) {D : va_G} : nf_CL l nm_M_init nb_M_init 2 rm_M_init [.ref q0] D (X ++ [(q0, .inr (7, [.int 0, .int 0, .null, .int 0, .null, .null, .null, .null, .null, .int 0, .long 0, .int 0, .double 0, .int 0, .null, .int 0, .int 0, .int 0, .int 0]))]) T (fun ws' tys' => ∃ (q1 q2 q3 q4 q5 q6 q7 : Nat) (c1 c2 c3 c4 c5 c6 c7 : ClassId), ws' = X ++ [(q0, .inr (7, [.int 0, .int 0, .ref q1, .int 0, .ref q2, .ref q3, .ref q4, .ref q5, .ref q6, .int 0, .long 0, .int 0, .double 0, .int 0, .ref q7, .int 0, .int 0, .int 0, .int 0])), (q1, .inl (c1, 40, .inl (fun _ => 0))), (q2, .inl (c2, 400, .inl (fun _ => 0))), (q3, .inl (c3, 8, .inl (upd (upd (upd (upd (upd (upd (upd (upd (fun _ => 0) 0 (-1)) 1 (-1)) 2 (-1)) 3 (-1)) 4 (-1)) 5 (-1)) 6 (-1)) 7 (-1)))), (q4, .inl (c4, 8, .inr (.inl (fun _ => 0)))), (q5, .inl (c5, 8, .inl (fun _ => 0))), (q6, .inl (c6, 8, .inr (.inr (.inr (.inl (fun _ => 0)))))), (q7, .inl (c7, 80, .inl (fun _ => 0)))] ∧ tys' = T ++ [(c1, .int), (c2, .int), (c3, .int), (c4, .long), (c5, .int), (c6, .double), (c7, .int)]) := by
  refine nf_startL (plainFor_of_name (by decide +kernel)) (Nat.le_of_ble_eq_true rfl) ?_
  intro A p e s m below meth c ls K hA hl hw
  have hx := K.1
  have hb := K.2.1
  have hl : lv_has ls 2 [(0, .ref q0)] := hl
  have hw : nf_WL D A s s.heap [] (X ++ [(q0, .inr (7, [.int 0, .int 0, .null, .int 0, .null, .null, .null, .null, .null, .int 0, .long 0, .int 0, .double 0, .int 0, .null, .int 0, .int 0, .int 0, .int 0]))]) (T ++ []) := by simpa using hw
  refine lv_aload_n hx hb d_M_init_0 rfl (lv_at hl 0 rfl) ?_
  refine nf_oinitL (idx := 1) K nw_930 nw_29 nw_30 hl.1 d_M_init_1 (Nat.le_of_ble_eq_true rfl) (Nat.le_of_ble_eq_true rfl) ?_
  refine lv_aload_n hx hb d_M_init_4 rfl (lv_at hl 0 rfl) ?_
  refine lv_bipush (v := (40 : Int32)) hx hb d_M_init_5 (by decide) ?_
  refine nf_newaL (N' := 40) (ty := .int) hx hb K.2.2.2.2.1 hA hw nw_989 rfl (40, .inl (fun _ => 0)) (fun _ => rfl) (by decide) rfl (by decide) (Nat.le_of_ble_eq_true rfl) (Nat.le_of_ble_eq_true rfl) d_M_init_7 (fun q1 c1 H hw => ?_)
  have hw : nf_WL D A s H [] (X ++ [(q0, .inr (7, [.int 0, .int 0, .null, .int 0, .null, .null, .null, .null, .null, .int 0, .long 0, .int 0, .double 0, .int 0, .null, .int 0, .int 0, .int 0, .int 0])), (q1, .inl (c1, 40, .inl (fun _ => 0)))]) (T ++ [(c1, .int)]) := by simpa only [List.append_assoc, List.cons_append, List.nil_append] using hw
  refine nf_putL (ws' := (X ++ [(q0, .inr (7, [.int 0, .int 0, .ref q1, .int 0, .null, .null, .null, .null, .null, .int 0, .long 0, .int 0, .double 0, .int 0, .null, .int 0, .int 0, .int 0, .int 0])), (q1, .inl (c1, 40, .inl (fun _ => 0)))])) (T := nt_M) (v := .ref q1) K hw (X.length + 0) 7 2 nw_933 (nf_xget X _ 0 rfl) (nf_xset X _ 0 rfl) rfl ni_M ny_M nq_M nn_M (by decide) rfl (Or.inl rfl) rfl rfl (Nat.le_of_ble_eq_true rfl) d_M_init_9 (fun H locs hw => ?_)
  refine lv_aload_n hx hb d_M_init_12 rfl (lv_at hl 0 rfl) ?_
  refine lv_sipush (v := (400 : Int32)) hx hb d_M_init_13 (by decide) ?_
  refine nf_newaL (N' := 400) (ty := .int) hx hb K.2.2.2.2.1 hA hw nw_989 rfl (400, .inl (fun _ => 0)) (fun _ => rfl) (by decide) rfl (by decide) (Nat.le_of_ble_eq_true rfl) (Nat.le_of_ble_eq_true rfl) d_M_init_16 (fun q2 c2 H hw => ?_)
  have hw : nf_WL D A s H locs (X ++ [(q0, .inr (7, [.int 0, .int 0, .ref q1, .int 0, .null, .null, .null, .null, .null, .int 0, .long 0, .int 0, .double 0, .int 0, .null, .int 0, .int 0, .int 0, .int 0])), (q1, .inl (c1, 40, .inl (fun _ => 0))), (q2, .inl (c2, 400, .inl (fun _ => 0)))]) (T ++ [(c1, .int), (c2, .int)]) := by simpa only [List.append_assoc, List.cons_append, List.nil_append] using hw
  refine nf_putL (ws' := (X ++ [(q0, .inr (7, [.int 0, .int 0, .ref q1, .int 0, .ref q2, .null, .null, .null, .null, .int 0, .long 0, .int 0, .double 0, .int 0, .null, .int 0, .int 0, .int 0, .int 0])), (q1, .inl (c1, 40, .inl (fun _ => 0))), (q2, .inl (c2, 400, .inl (fun _ => 0)))])) (T := nt_M) (v := .ref q2) K hw (X.length + 0) 7 4 nw_935 (nf_xget X _ 0 rfl) (nf_xset X _ 0 rfl) rfl ni_M ny_M nq_M nn_M (by decide) rfl (Or.inl rfl) rfl rfl (Nat.le_of_ble_eq_true rfl) d_M_init_18 (fun H locs hw => ?_)
  refine lv_aload_n hx hb d_M_init_21 rfl (lv_at hl 0 rfl) ?_
  refine lv_bipush (v := (8 : Int32)) hx hb d_M_init_22 (by decide) ?_
  refine nf_newaL (N' := 8) (ty := .int) hx hb K.2.2.2.2.1 hA hw nw_989 rfl (8, .inl (fun _ => 0)) (fun _ => rfl) (by decide) rfl (by decide) (Nat.le_of_ble_eq_true rfl) (Nat.le_of_ble_eq_true rfl) d_M_init_24 (fun q3 c3 H hw => ?_)
  have hw : nf_WL D A s H locs (X ++ [(q0, .inr (7, [.int 0, .int 0, .ref q1, .int 0, .ref q2, .null, .null, .null, .null, .int 0, .long 0, .int 0, .double 0, .int 0, .null, .int 0, .int 0, .int 0, .int 0])), (q1, .inl (c1, 40, .inl (fun _ => 0))), (q2, .inl (c2, 400, .inl (fun _ => 0))), (q3, .inl (c3, 8, .inl (fun _ => 0)))]) (T ++ [(c1, .int), (c2, .int), (c3, .int)]) := by simpa only [List.append_assoc, List.cons_append, List.nil_append] using hw
  refine nf_putL (ws' := (X ++ [(q0, .inr (7, [.int 0, .int 0, .ref q1, .int 0, .ref q2, .ref q3, .null, .null, .null, .int 0, .long 0, .int 0, .double 0, .int 0, .null, .int 0, .int 0, .int 0, .int 0])), (q1, .inl (c1, 40, .inl (fun _ => 0))), (q2, .inl (c2, 400, .inl (fun _ => 0))), (q3, .inl (c3, 8, .inl (fun _ => 0)))])) (T := nt_M) (v := .ref q3) K hw (X.length + 0) 7 5 nw_936 (nf_xget X _ 0 rfl) (nf_xset X _ 0 rfl) rfl ni_M ny_M nq_M nn_M (by decide) rfl (Or.inl rfl) rfl rfl (Nat.le_of_ble_eq_true rfl) d_M_init_26 (fun H locs hw => ?_)
  refine lv_aload_n hx hb d_M_init_29 rfl (lv_at hl 0 rfl) ?_
  refine lv_bipush (v := (8 : Int32)) hx hb d_M_init_30 (by decide) ?_
  refine nf_newaL (N' := 8) (ty := .long) hx hb K.2.2.2.2.1 hA hw nw_990 rfl (8, .inr (.inl (fun _ => 0))) (fun _ => rfl) (by decide) rfl (by decide) (Nat.le_of_ble_eq_true rfl) (Nat.le_of_ble_eq_true rfl) d_M_init_32 (fun q4 c4 H hw => ?_)
  have hw : nf_WL D A s H locs (X ++ [(q0, .inr (7, [.int 0, .int 0, .ref q1, .int 0, .ref q2, .ref q3, .null, .null, .null, .int 0, .long 0, .int 0, .double 0, .int 0, .null, .int 0, .int 0, .int 0, .int 0])), (q1, .inl (c1, 40, .inl (fun _ => 0))), (q2, .inl (c2, 400, .inl (fun _ => 0))), (q3, .inl (c3, 8, .inl (fun _ => 0))), (q4, .inl (c4, 8, .inr (.inl (fun _ => 0))))]) (T ++ [(c1, .int), (c2, .int), (c3, .int), (c4, .long)]) := by simpa only [List.append_assoc, List.cons_append, List.nil_append] using hw
  refine nf_putL (ws' := (X ++ [(q0, .inr (7, [.int 0, .int 0, .ref q1, .int 0, .ref q2, .ref q3, .ref q4, .null, .null, .int 0, .long 0, .int 0, .double 0, .int 0, .null, .int 0, .int 0, .int 0, .int 0])), (q1, .inl (c1, 40, .inl (fun _ => 0))), (q2, .inl (c2, 400, .inl (fun _ => 0))), (q3, .inl (c3, 8, .inl (fun _ => 0))), (q4, .inl (c4, 8, .inr (.inl (fun _ => 0))))])) (T := nt_M) (v := .ref q4) K hw (X.length + 0) 7 6 nw_937 (nf_xget X _ 0 rfl) (nf_xset X _ 0 rfl) rfl ni_M ny_M nq_M nn_M (by decide) rfl (Or.inl rfl) rfl rfl (Nat.le_of_ble_eq_true rfl) d_M_init_34 (fun H locs hw => ?_)
  refine lv_aload_n hx hb d_M_init_37 rfl (lv_at hl 0 rfl) ?_
  refine lv_bipush (v := (8 : Int32)) hx hb d_M_init_38 (by decide) ?_
  refine nf_newaL (N' := 8) (ty := .int) hx hb K.2.2.2.2.1 hA hw nw_989 rfl (8, .inl (fun _ => 0)) (fun _ => rfl) (by decide) rfl (by decide) (Nat.le_of_ble_eq_true rfl) (Nat.le_of_ble_eq_true rfl) d_M_init_40 (fun q5 c5 H hw => ?_)
  have hw : nf_WL D A s H locs (X ++ [(q0, .inr (7, [.int 0, .int 0, .ref q1, .int 0, .ref q2, .ref q3, .ref q4, .null, .null, .int 0, .long 0, .int 0, .double 0, .int 0, .null, .int 0, .int 0, .int 0, .int 0])), (q1, .inl (c1, 40, .inl (fun _ => 0))), (q2, .inl (c2, 400, .inl (fun _ => 0))), (q3, .inl (c3, 8, .inl (fun _ => 0))), (q4, .inl (c4, 8, .inr (.inl (fun _ => 0)))), (q5, .inl (c5, 8, .inl (fun _ => 0)))]) (T ++ [(c1, .int), (c2, .int), (c3, .int), (c4, .long), (c5, .int)]) := by simpa only [List.append_assoc, List.cons_append, List.nil_append] using hw
  refine nf_putL (ws' := (X ++ [(q0, .inr (7, [.int 0, .int 0, .ref q1, .int 0, .ref q2, .ref q3, .ref q4, .ref q5, .null, .int 0, .long 0, .int 0, .double 0, .int 0, .null, .int 0, .int 0, .int 0, .int 0])), (q1, .inl (c1, 40, .inl (fun _ => 0))), (q2, .inl (c2, 400, .inl (fun _ => 0))), (q3, .inl (c3, 8, .inl (fun _ => 0))), (q4, .inl (c4, 8, .inr (.inl (fun _ => 0)))), (q5, .inl (c5, 8, .inl (fun _ => 0)))])) (T := nt_M) (v := .ref q5) K hw (X.length + 0) 7 7 nw_938 (nf_xget X _ 0 rfl) (nf_xset X _ 0 rfl) rfl ni_M ny_M nq_M nn_M (by decide) rfl (Or.inl rfl) rfl rfl (Nat.le_of_ble_eq_true rfl) d_M_init_42 (fun H locs hw => ?_)
  refine lv_aload_n hx hb d_M_init_45 rfl (lv_at hl 0 rfl) ?_
  refine lv_bipush (v := (8 : Int32)) hx hb d_M_init_46 (by decide) ?_
  refine nf_newaL (N' := 8) (ty := .double) hx hb K.2.2.2.2.1 hA hw nw_991 rfl (8, .inr (.inr (.inr (.inl (fun _ => 0))))) (fun _ => rfl) (by decide) rfl (by decide) (Nat.le_of_ble_eq_true rfl) (Nat.le_of_ble_eq_true rfl) d_M_init_48 (fun q6 c6 H hw => ?_)
  have hw : nf_WL D A s H locs (X ++ [(q0, .inr (7, [.int 0, .int 0, .ref q1, .int 0, .ref q2, .ref q3, .ref q4, .ref q5, .null, .int 0, .long 0, .int 0, .double 0, .int 0, .null, .int 0, .int 0, .int 0, .int 0])), (q1, .inl (c1, 40, .inl (fun _ => 0))), (q2, .inl (c2, 400, .inl (fun _ => 0))), (q3, .inl (c3, 8, .inl (fun _ => 0))), (q4, .inl (c4, 8, .inr (.inl (fun _ => 0)))), (q5, .inl (c5, 8, .inl (fun _ => 0))), (q6, .inl (c6, 8, .inr (.inr (.inr (.inl (fun _ => 0))))))]) (T ++ [(c1, .int), (c2, .int), (c3, .int), (c4, .long), (c5, .int), (c6, .double)]) := by simpa only [List.append_assoc, List.cons_append, List.nil_append] using hw
  refine nf_putL (ws' := (X ++ [(q0, .inr (7, [.int 0, .int 0, .ref q1, .int 0, .ref q2, .ref q3, .ref q4, .ref q5, .ref q6, .int 0, .long 0, .int 0, .double 0, .int 0, .null, .int 0, .int 0, .int 0, .int 0])), (q1, .inl (c1, 40, .inl (fun _ => 0))), (q2, .inl (c2, 400, .inl (fun _ => 0))), (q3, .inl (c3, 8, .inl (fun _ => 0))), (q4, .inl (c4, 8, .inr (.inl (fun _ => 0)))), (q5, .inl (c5, 8, .inl (fun _ => 0))), (q6, .inl (c6, 8, .inr (.inr (.inr (.inl (fun _ => 0))))))])) (T := nt_M) (v := .ref q6) K hw (X.length + 0) 7 8 nw_939 (nf_xget X _ 0 rfl) (nf_xset X _ 0 rfl) rfl ni_M ny_M nq_M nn_M (by decide) rfl (Or.inl rfl) rfl rfl (Nat.le_of_ble_eq_true rfl) d_M_init_50 (fun H locs hw => ?_)
  refine lv_aload_n hx hb d_M_init_53 rfl (lv_at hl 0 rfl) ?_
  refine lv_bipush (v := (80 : Int32)) hx hb d_M_init_54 (by decide) ?_
  refine nf_newaL (N' := 80) (ty := .int) hx hb K.2.2.2.2.1 hA hw nw_989 rfl (80, .inl (fun _ => 0)) (fun _ => rfl) (by decide) rfl (by decide) (Nat.le_of_ble_eq_true rfl) (Nat.le_of_ble_eq_true rfl) d_M_init_56 (fun q7 c7 H hw => ?_)
  have hw : nf_WL D A s H locs (X ++ [(q0, .inr (7, [.int 0, .int 0, .ref q1, .int 0, .ref q2, .ref q3, .ref q4, .ref q5, .ref q6, .int 0, .long 0, .int 0, .double 0, .int 0, .null, .int 0, .int 0, .int 0, .int 0])), (q1, .inl (c1, 40, .inl (fun _ => 0))), (q2, .inl (c2, 400, .inl (fun _ => 0))), (q3, .inl (c3, 8, .inl (fun _ => 0))), (q4, .inl (c4, 8, .inr (.inl (fun _ => 0)))), (q5, .inl (c5, 8, .inl (fun _ => 0))), (q6, .inl (c6, 8, .inr (.inr (.inr (.inl (fun _ => 0)))))), (q7, .inl (c7, 80, .inl (fun _ => 0)))]) (T ++ [(c1, .int), (c2, .int), (c3, .int), (c4, .long), (c5, .int), (c6, .double), (c7, .int)]) := by simpa only [List.append_assoc, List.cons_append, List.nil_append] using hw
  refine nf_putL (ws' := (X ++ [(q0, .inr (7, [.int 0, .int 0, .ref q1, .int 0, .ref q2, .ref q3, .ref q4, .ref q5, .ref q6, .int 0, .long 0, .int 0, .double 0, .int 0, .ref q7, .int 0, .int 0, .int 0, .int 0])), (q1, .inl (c1, 40, .inl (fun _ => 0))), (q2, .inl (c2, 400, .inl (fun _ => 0))), (q3, .inl (c3, 8, .inl (fun _ => 0))), (q4, .inl (c4, 8, .inr (.inl (fun _ => 0)))), (q5, .inl (c5, 8, .inl (fun _ => 0))), (q6, .inl (c6, 8, .inr (.inr (.inr (.inl (fun _ => 0)))))), (q7, .inl (c7, 80, .inl (fun _ => 0)))])) (T := nt_M) (v := .ref q7) K hw (X.length + 0) 7 14 nw_945 (nf_xget X _ 0 rfl) (nf_xset X _ 0 rfl) rfl ni_M ny_M nq_M nn_M (by decide) rfl (Or.inl rfl) rfl rfl (Nat.le_of_ble_eq_true rfl) d_M_init_58 (fun H locs hw => ?_)
  refine lv_iconst (v := (0 : Int32)) hx hb d_M_init_61 (by decide) ?_
  refine lv_istore_n (lv' := [(1, .int (0 : Int32)), (0, .ref q0)]) hx hb d_M_init_62 rfl hl (by decide) rfl (fun ls hl => ?_)
  refine lv_iload_n hx hb d_M_init_63 rfl (lv_at hl 0 rfl) ?_
  refine lv_bipush (v := (8 : Int32)) hx hb d_M_init_64 (by decide) ?_
  refine nf_ic_ge hx hb d_M_init_66 (tgt := 82) (by decide) (fun _ => ?_) (fun h => absurd (by decide) h)
  refine lv_aload_n hx hb d_M_init_69 rfl (lv_at hl 1 rfl) ?_
  refine nf_getL (T := nt_M) K hw (X.length + 0) 7 5 nw_936 (nf_xget X _ 0 rfl) rfl ni_M (by decide) rfl rfl d_M_init_70 ?_
  refine lv_iload_n hx hb d_M_init_73 rfl (lv_at hl 0 rfl) ?_
  refine lv_iconst (v := (-1 : Int32)) hx hb d_M_init_74 (by decide) ?_
  refine va_iast hx hb hw.2.2.2 hw.1 hw.2.1 hw.2.2.1 (X.length + 3) (T.length + 2) (nf_xget X _ 3 rfl) (nf_xget T _ 2 rfl) (show ¬ ((0 : Int32) < 0 ∨ 8 ≤ (0 : Int32).toNatClampNeg) by decide) d_M_init_75 (fun H locs hP1 hD1 hS1 => ?_)
  rw [nf_xset X _ 3 rfl] at hP1 hD1
  have hw : nf_WL D A s H locs (X ++ [(q0, .inr (7, [.int 0, .int 0, .ref q1, .int 0, .ref q2, .ref q3, .ref q4, .ref q5, .ref q6, .int 0, .long 0, .int 0, .double 0, .int 0, .ref q7, .int 0, .int 0, .int 0, .int 0])), (q1, .inl (c1, 40, .inl (fun _ => 0))), (q2, .inl (c2, 400, .inl (fun _ => 0))), (q3, .inl (c3, 8, .inl (upd (fun _ => 0) 0 (-1)))), (q4, .inl (c4, 8, .inr (.inl (fun _ => 0)))), (q5, .inl (c5, 8, .inl (fun _ => 0))), (q6, .inl (c6, 8, .inr (.inr (.inr (.inl (fun _ => 0)))))), (q7, .inl (c7, 80, .inl (fun _ => 0)))]) (T ++ [(c1, .int), (c2, .int), (c3, .int), (c4, .long), (c5, .int), (c6, .double), (c7, .int)]) := ⟨hP1, hD1, hS1, hw.2.2.2⟩
  refine lv_iinc (k := 0) (v := (1 : Int32)) (lv' := [(1, .int (1 : Int32)), (0, .ref q0)]) hx hb d_M_init_76 hl rfl (by decide) (by decide) rfl (fun ls hl => ?_)
  refine lv_goto hx hb d_M_init_79 (tgt := 63) (by decide) ?_
  refine lv_iload_n hx hb d_M_init_63 rfl (lv_at hl 0 rfl) ?_
  refine lv_bipush (v := (8 : Int32)) hx hb d_M_init_64 (by decide) ?_
  refine nf_ic_ge hx hb d_M_init_66 (tgt := 82) (by decide) (fun _ => ?_) (fun h => absurd (by decide) h)
  refine lv_aload_n hx hb d_M_init_69 rfl (lv_at hl 1 rfl) ?_
  refine nf_getL (T := nt_M) K hw (X.length + 0) 7 5 nw_936 (nf_xget X _ 0 rfl) rfl ni_M (by decide) rfl rfl d_M_init_70 ?_
  refine lv_iload_n hx hb d_M_init_73 rfl (lv_at hl 0 rfl) ?_
  refine lv_iconst (v := (-1 : Int32)) hx hb d_M_init_74 (by decide) ?_
  refine va_iast hx hb hw.2.2.2 hw.1 hw.2.1 hw.2.2.1 (X.length + 3) (T.length + 2) (nf_xget X _ 3 rfl) (nf_xget T _ 2 rfl) (show ¬ ((1 : Int32) < 0 ∨ 8 ≤ (1 : Int32).toNatClampNeg) by decide) d_M_init_75 (fun H locs hP1 hD1 hS1 => ?_)
  rw [nf_xset X _ 3 rfl] at hP1 hD1
  have hw : nf_WL D A s H locs (X ++ [(q0, .inr (7, [.int 0, .int 0, .ref q1, .int 0, .ref q2, .ref q3, .ref q4, .ref q5, .ref q6, .int 0, .long 0, .int 0, .double 0, .int 0, .ref q7, .int 0, .int 0, .int 0, .int 0])), (q1, .inl (c1, 40, .inl (fun _ => 0))), (q2, .inl (c2, 400, .inl (fun _ => 0))), (q3, .inl (c3, 8, .inl (upd (upd (fun _ => 0) 0 (-1)) 1 (-1)))), (q4, .inl (c4, 8, .inr (.inl (fun _ => 0)))), (q5, .inl (c5, 8, .inl (fun _ => 0))), (q6, .inl (c6, 8, .inr (.inr (.inr (.inl (fun _ => 0)))))), (q7, .inl (c7, 80, .inl (fun _ => 0)))]) (T ++ [(c1, .int), (c2, .int), (c3, .int), (c4, .long), (c5, .int), (c6, .double), (c7, .int)]) := ⟨hP1, hD1, hS1, hw.2.2.2⟩
  refine lv_iinc (k := 0) (v := (2 : Int32)) (lv' := [(1, .int (2 : Int32)), (0, .ref q0)]) hx hb d_M_init_76 hl rfl (by decide) (by decide) rfl (fun ls hl => ?_)
  refine lv_goto hx hb d_M_init_79 (tgt := 63) (by decide) ?_
  refine lv_iload_n hx hb d_M_init_63 rfl (lv_at hl 0 rfl) ?_
  refine lv_bipush (v := (8 : Int32)) hx hb d_M_init_64 (by decide) ?_
  refine nf_ic_ge hx hb d_M_init_66 (tgt := 82) (by decide) (fun _ => ?_) (fun h => absurd (by decide) h)
  refine lv_aload_n hx hb d_M_init_69 rfl (lv_at hl 1 rfl) ?_
  refine nf_getL (T := nt_M) K hw (X.length + 0) 7 5 nw_936 (nf_xget X _ 0 rfl) rfl ni_M (by decide) rfl rfl d_M_init_70 ?_
  refine lv_iload_n hx hb d_M_init_73 rfl (lv_at hl 0 rfl) ?_
  refine lv_iconst (v := (-1 : Int32)) hx hb d_M_init_74 (by decide) ?_
  refine va_iast hx hb hw.2.2.2 hw.1 hw.2.1 hw.2.2.1 (X.length + 3) (T.length + 2) (nf_xget X _ 3 rfl) (nf_xget T _ 2 rfl) (show ¬ ((2 : Int32) < 0 ∨ 8 ≤ (2 : Int32).toNatClampNeg) by decide) d_M_init_75 (fun H locs hP1 hD1 hS1 => ?_)
  rw [nf_xset X _ 3 rfl] at hP1 hD1
  have hw : nf_WL D A s H locs (X ++ [(q0, .inr (7, [.int 0, .int 0, .ref q1, .int 0, .ref q2, .ref q3, .ref q4, .ref q5, .ref q6, .int 0, .long 0, .int 0, .double 0, .int 0, .ref q7, .int 0, .int 0, .int 0, .int 0])), (q1, .inl (c1, 40, .inl (fun _ => 0))), (q2, .inl (c2, 400, .inl (fun _ => 0))), (q3, .inl (c3, 8, .inl (upd (upd (upd (fun _ => 0) 0 (-1)) 1 (-1)) 2 (-1)))), (q4, .inl (c4, 8, .inr (.inl (fun _ => 0)))), (q5, .inl (c5, 8, .inl (fun _ => 0))), (q6, .inl (c6, 8, .inr (.inr (.inr (.inl (fun _ => 0)))))), (q7, .inl (c7, 80, .inl (fun _ => 0)))]) (T ++ [(c1, .int), (c2, .int), (c3, .int), (c4, .long), (c5, .int), (c6, .double), (c7, .int)]) := ⟨hP1, hD1, hS1, hw.2.2.2⟩
  refine lv_iinc (k := 0) (v := (3 : Int32)) (lv' := [(1, .int (3 : Int32)), (0, .ref q0)]) hx hb d_M_init_76 hl rfl (by decide) (by decide) rfl (fun ls hl => ?_)
  refine lv_goto hx hb d_M_init_79 (tgt := 63) (by decide) ?_
  refine lv_iload_n hx hb d_M_init_63 rfl (lv_at hl 0 rfl) ?_
  refine lv_bipush (v := (8 : Int32)) hx hb d_M_init_64 (by decide) ?_
  refine nf_ic_ge hx hb d_M_init_66 (tgt := 82) (by decide) (fun _ => ?_) (fun h => absurd (by decide) h)
  refine lv_aload_n hx hb d_M_init_69 rfl (lv_at hl 1 rfl) ?_
  refine nf_getL (T := nt_M) K hw (X.length + 0) 7 5 nw_936 (nf_xget X _ 0 rfl) rfl ni_M (by decide) rfl rfl d_M_init_70 ?_
  refine lv_iload_n hx hb d_M_init_73 rfl (lv_at hl 0 rfl) ?_
  refine lv_iconst (v := (-1 : Int32)) hx hb d_M_init_74 (by decide) ?_
  refine va_iast hx hb hw.2.2.2 hw.1 hw.2.1 hw.2.2.1 (X.length + 3) (T.length + 2) (nf_xget X _ 3 rfl) (nf_xget T _ 2 rfl) (show ¬ ((3 : Int32) < 0 ∨ 8 ≤ (3 : Int32).toNatClampNeg) by decide) d_M_init_75 (fun H locs hP1 hD1 hS1 => ?_)
  rw [nf_xset X _ 3 rfl] at hP1 hD1
  have hw : nf_WL D A s H locs (X ++ [(q0, .inr (7, [.int 0, .int 0, .ref q1, .int 0, .ref q2, .ref q3, .ref q4, .ref q5, .ref q6, .int 0, .long 0, .int 0, .double 0, .int 0, .ref q7, .int 0, .int 0, .int 0, .int 0])), (q1, .inl (c1, 40, .inl (fun _ => 0))), (q2, .inl (c2, 400, .inl (fun _ => 0))), (q3, .inl (c3, 8, .inl (upd (upd (upd (upd (fun _ => 0) 0 (-1)) 1 (-1)) 2 (-1)) 3 (-1)))), (q4, .inl (c4, 8, .inr (.inl (fun _ => 0)))), (q5, .inl (c5, 8, .inl (fun _ => 0))), (q6, .inl (c6, 8, .inr (.inr (.inr (.inl (fun _ => 0)))))), (q7, .inl (c7, 80, .inl (fun _ => 0)))]) (T ++ [(c1, .int), (c2, .int), (c3, .int), (c4, .long), (c5, .int), (c6, .double), (c7, .int)]) := ⟨hP1, hD1, hS1, hw.2.2.2⟩
  refine lv_iinc (k := 0) (v := (4 : Int32)) (lv' := [(1, .int (4 : Int32)), (0, .ref q0)]) hx hb d_M_init_76 hl rfl (by decide) (by decide) rfl (fun ls hl => ?_)
  refine lv_goto hx hb d_M_init_79 (tgt := 63) (by decide) ?_
  refine lv_iload_n hx hb d_M_init_63 rfl (lv_at hl 0 rfl) ?_
  refine lv_bipush (v := (8 : Int32)) hx hb d_M_init_64 (by decide) ?_
  refine nf_ic_ge hx hb d_M_init_66 (tgt := 82) (by decide) (fun _ => ?_) (fun h => absurd (by decide) h)
  refine lv_aload_n hx hb d_M_init_69 rfl (lv_at hl 1 rfl) ?_
  refine nf_getL (T := nt_M) K hw (X.length + 0) 7 5 nw_936 (nf_xget X _ 0 rfl) rfl ni_M (by decide) rfl rfl d_M_init_70 ?_
  refine lv_iload_n hx hb d_M_init_73 rfl (lv_at hl 0 rfl) ?_
  refine lv_iconst (v := (-1 : Int32)) hx hb d_M_init_74 (by decide) ?_
  refine va_iast hx hb hw.2.2.2 hw.1 hw.2.1 hw.2.2.1 (X.length + 3) (T.length + 2) (nf_xget X _ 3 rfl) (nf_xget T _ 2 rfl) (show ¬ ((4 : Int32) < 0 ∨ 8 ≤ (4 : Int32).toNatClampNeg) by decide) d_M_init_75 (fun H locs hP1 hD1 hS1 => ?_)
  rw [nf_xset X _ 3 rfl] at hP1 hD1
  have hw : nf_WL D A s H locs (X ++ [(q0, .inr (7, [.int 0, .int 0, .ref q1, .int 0, .ref q2, .ref q3, .ref q4, .ref q5, .ref q6, .int 0, .long 0, .int 0, .double 0, .int 0, .ref q7, .int 0, .int 0, .int 0, .int 0])), (q1, .inl (c1, 40, .inl (fun _ => 0))), (q2, .inl (c2, 400, .inl (fun _ => 0))), (q3, .inl (c3, 8, .inl (upd (upd (upd (upd (upd (fun _ => 0) 0 (-1)) 1 (-1)) 2 (-1)) 3 (-1)) 4 (-1)))), (q4, .inl (c4, 8, .inr (.inl (fun _ => 0)))), (q5, .inl (c5, 8, .inl (fun _ => 0))), (q6, .inl (c6, 8, .inr (.inr (.inr (.inl (fun _ => 0)))))), (q7, .inl (c7, 80, .inl (fun _ => 0)))]) (T ++ [(c1, .int), (c2, .int), (c3, .int), (c4, .long), (c5, .int), (c6, .double), (c7, .int)]) := ⟨hP1, hD1, hS1, hw.2.2.2⟩
  refine lv_iinc (k := 0) (v := (5 : Int32)) (lv' := [(1, .int (5 : Int32)), (0, .ref q0)]) hx hb d_M_init_76 hl rfl (by decide) (by decide) rfl (fun ls hl => ?_)
  refine lv_goto hx hb d_M_init_79 (tgt := 63) (by decide) ?_
  refine lv_iload_n hx hb d_M_init_63 rfl (lv_at hl 0 rfl) ?_
  refine lv_bipush (v := (8 : Int32)) hx hb d_M_init_64 (by decide) ?_
  refine nf_ic_ge hx hb d_M_init_66 (tgt := 82) (by decide) (fun _ => ?_) (fun h => absurd (by decide) h)
  refine lv_aload_n hx hb d_M_init_69 rfl (lv_at hl 1 rfl) ?_
  refine nf_getL (T := nt_M) K hw (X.length + 0) 7 5 nw_936 (nf_xget X _ 0 rfl) rfl ni_M (by decide) rfl rfl d_M_init_70 ?_
  refine lv_iload_n hx hb d_M_init_73 rfl (lv_at hl 0 rfl) ?_
  refine lv_iconst (v := (-1 : Int32)) hx hb d_M_init_74 (by decide) ?_
  refine va_iast hx hb hw.2.2.2 hw.1 hw.2.1 hw.2.2.1 (X.length + 3) (T.length + 2) (nf_xget X _ 3 rfl) (nf_xget T _ 2 rfl) (show ¬ ((5 : Int32) < 0 ∨ 8 ≤ (5 : Int32).toNatClampNeg) by decide) d_M_init_75 (fun H locs hP1 hD1 hS1 => ?_)
  rw [nf_xset X _ 3 rfl] at hP1 hD1
  have hw : nf_WL D A s H locs (X ++ [(q0, .inr (7, [.int 0, .int 0, .ref q1, .int 0, .ref q2, .ref q3, .ref q4, .ref q5, .ref q6, .int 0, .long 0, .int 0, .double 0, .int 0, .ref q7, .int 0, .int 0, .int 0, .int 0])), (q1, .inl (c1, 40, .inl (fun _ => 0))), (q2, .inl (c2, 400, .inl (fun _ => 0))), (q3, .inl (c3, 8, .inl (upd (upd (upd (upd (upd (upd (fun _ => 0) 0 (-1)) 1 (-1)) 2 (-1)) 3 (-1)) 4 (-1)) 5 (-1)))), (q4, .inl (c4, 8, .inr (.inl (fun _ => 0)))), (q5, .inl (c5, 8, .inl (fun _ => 0))), (q6, .inl (c6, 8, .inr (.inr (.inr (.inl (fun _ => 0)))))), (q7, .inl (c7, 80, .inl (fun _ => 0)))]) (T ++ [(c1, .int), (c2, .int), (c3, .int), (c4, .long), (c5, .int), (c6, .double), (c7, .int)]) := ⟨hP1, hD1, hS1, hw.2.2.2⟩
  refine lv_iinc (k := 0) (v := (6 : Int32)) (lv' := [(1, .int (6 : Int32)), (0, .ref q0)]) hx hb d_M_init_76 hl rfl (by decide) (by decide) rfl (fun ls hl => ?_)
  refine lv_goto hx hb d_M_init_79 (tgt := 63) (by decide) ?_
  refine lv_iload_n hx hb d_M_init_63 rfl (lv_at hl 0 rfl) ?_
  refine lv_bipush (v := (8 : Int32)) hx hb d_M_init_64 (by decide) ?_
  refine nf_ic_ge hx hb d_M_init_66 (tgt := 82) (by decide) (fun _ => ?_) (fun h => absurd (by decide) h)
  refine lv_aload_n hx hb d_M_init_69 rfl (lv_at hl 1 rfl) ?_
  refine nf_getL (T := nt_M) K hw (X.length + 0) 7 5 nw_936 (nf_xget X _ 0 rfl) rfl ni_M (by decide) rfl rfl d_M_init_70 ?_
  refine lv_iload_n hx hb d_M_init_73 rfl (lv_at hl 0 rfl) ?_
  refine lv_iconst (v := (-1 : Int32)) hx hb d_M_init_74 (by decide) ?_
  refine va_iast hx hb hw.2.2.2 hw.1 hw.2.1 hw.2.2.1 (X.length + 3) (T.length + 2) (nf_xget X _ 3 rfl) (nf_xget T _ 2 rfl) (show ¬ ((6 : Int32) < 0 ∨ 8 ≤ (6 : Int32).toNatClampNeg) by decide) d_M_init_75 (fun H locs hP1 hD1 hS1 => ?_)
  rw [nf_xset X _ 3 rfl] at hP1 hD1
  have hw : nf_WL D A s H locs (X ++ [(q0, .inr (7, [.int 0, .int 0, .ref q1, .int 0, .ref q2, .ref q3, .ref q4, .ref q5, .ref q6, .int 0, .long 0, .int 0, .double 0, .int 0, .ref q7, .int 0, .int 0, .int 0, .int 0])), (q1, .inl (c1, 40, .inl (fun _ => 0))), (q2, .inl (c2, 400, .inl (fun _ => 0))), (q3, .inl (c3, 8, .inl (upd (upd (upd (upd (upd (upd (upd (fun _ => 0) 0 (-1)) 1 (-1)) 2 (-1)) 3 (-1)) 4 (-1)) 5 (-1)) 6 (-1)))), (q4, .inl (c4, 8, .inr (.inl (fun _ => 0)))), (q5, .inl (c5, 8, .inl (fun _ => 0))), (q6, .inl (c6, 8, .inr (.inr (.inr (.inl (fun _ => 0)))))), (q7, .inl (c7, 80, .inl (fun _ => 0)))]) (T ++ [(c1, .int), (c2, .int), (c3, .int), (c4, .long), (c5, .int), (c6, .double), (c7, .int)]) := ⟨hP1, hD1, hS1, hw.2.2.2⟩
  refine lv_iinc (k := 0) (v := (7 : Int32)) (lv' := [(1, .int (7 : Int32)), (0, .ref q0)]) hx hb d_M_init_76 hl rfl (by decide) (by decide) rfl (fun ls hl => ?_)
  refine lv_goto hx hb d_M_init_79 (tgt := 63) (by decide) ?_
  refine lv_iload_n hx hb d_M_init_63 rfl (lv_at hl 0 rfl) ?_
  refine lv_bipush (v := (8 : Int32)) hx hb d_M_init_64 (by decide) ?_
  refine nf_ic_ge hx hb d_M_init_66 (tgt := 82) (by decide) (fun _ => ?_) (fun h => absurd (by decide) h)
  refine lv_aload_n hx hb d_M_init_69 rfl (lv_at hl 1 rfl) ?_
  refine nf_getL (T := nt_M) K hw (X.length + 0) 7 5 nw_936 (nf_xget X _ 0 rfl) rfl ni_M (by decide) rfl rfl d_M_init_70 ?_
  refine lv_iload_n hx hb d_M_init_73 rfl (lv_at hl 0 rfl) ?_
  refine lv_iconst (v := (-1 : Int32)) hx hb d_M_init_74 (by decide) ?_
  refine va_iast hx hb hw.2.2.2 hw.1 hw.2.1 hw.2.2.1 (X.length + 3) (T.length + 2) (nf_xget X _ 3 rfl) (nf_xget T _ 2 rfl) (show ¬ ((7 : Int32) < 0 ∨ 8 ≤ (7 : Int32).toNatClampNeg) by decide) d_M_init_75 (fun H locs hP1 hD1 hS1 => ?_)
  rw [nf_xset X _ 3 rfl] at hP1 hD1
  have hw : nf_WL D A s H locs (X ++ [(q0, .inr (7, [.int 0, .int 0, .ref q1, .int 0, .ref q2, .ref q3, .ref q4, .ref q5, .ref q6, .int 0, .long 0, .int 0, .double 0, .int 0, .ref q7, .int 0, .int 0, .int 0, .int 0])), (q1, .inl (c1, 40, .inl (fun _ => 0))), (q2, .inl (c2, 400, .inl (fun _ => 0))), (q3, .inl (c3, 8, .inl (upd (upd (upd (upd (upd (upd (upd (upd (fun _ => 0) 0 (-1)) 1 (-1)) 2 (-1)) 3 (-1)) 4 (-1)) 5 (-1)) 6 (-1)) 7 (-1)))), (q4, .inl (c4, 8, .inr (.inl (fun _ => 0)))), (q5, .inl (c5, 8, .inl (fun _ => 0))), (q6, .inl (c6, 8, .inr (.inr (.inr (.inl (fun _ => 0)))))), (q7, .inl (c7, 80, .inl (fun _ => 0)))]) (T ++ [(c1, .int), (c2, .int), (c3, .int), (c4, .long), (c5, .int), (c6, .double), (c7, .int)]) := ⟨hP1, hD1, hS1, hw.2.2.2⟩
  refine lv_iinc (k := 0) (v := (8 : Int32)) (lv' := [(1, .int (8 : Int32)), (0, .ref q0)]) hx hb d_M_init_76 hl rfl (by decide) (by decide) rfl (fun ls hl => ?_)
  refine lv_goto hx hb d_M_init_79 (tgt := 63) (by decide) ?_
  refine lv_iload_n hx hb d_M_init_63 rfl (lv_at hl 0 rfl) ?_
  refine lv_bipush (v := (8 : Int32)) hx hb d_M_init_64 (by decide) ?_
  refine nf_ic_ge hx hb d_M_init_66 (tgt := 82) (by decide) (fun h => absurd h (by decide)) (fun _ => ?_)
  exact nf_vretL K hw d_M_init_82 (Nat.le_of_ble_eq_true rfl) (Nat.le_of_ble_eq_true rfl) ⟨q1, q2, q3, q4, q5, q6, q7, c1, c2, c3, c4, c5, c6, c7, rfl, rfl⟩
