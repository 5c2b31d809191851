/-! write: the arm -/
theorem dab_neg {x : UInt64} (h : zv x < 0) : dab x = FP.dneg x ∨ okD x → okD x → dab x = FP.dneg x := fun _ hx => by
  unfold dab
  rw [if_pos (by omega)]
  exact dsub0 hx (fun q => by rw [q, zv0] at h; omega)
theorem s_M_writeReal {sg : Bool} {x3 : Int32} {x : UInt64} {M : nf_M} {post : Unit → nf_M → Prop} (hx : okD x) (hs : x3 = 0 ↔ sg = false) (ho : oM M []) (hr : zv x ≠ 0 → ¬ isInf x → zv (tM (-8)) ≤ zv (dab x) ∧ zv (dab x) < zv (tM 15)) (k : ∀ L, wri sg x 0 L → ∀ M', kQ M M' → oM M' L → post () M') : P_M_writeReal x x3 M post := by
  have hab := dab_ok hx
  have h40 : ∀ (v : UInt64) (S : List Nat) (M1 : nf_M), okD v → (zv x ≠ 0 → v = dab x) → (zv x = 0 → zv v = 0) → S.length ≤ 1 → (zv x ≠ 0 → S = sgL x) → (zv x = 0 → (x = 0 ∧ S = []) ∨ (¬ x = 0 ∧ S = [45])) → oM M1 S → kQ M M1 → B_M_writeReal_40 post x3 v M1 := by
    intro v S M1 hv e1 e0 hS s1 s0 o1 k1
    unfold B_M_writeReal_40
    rw [dc0, deq_z hv ok0, zv0]
    refine ⟨fun z => ?_, fun z => ?_⟩
    · have hz : zv x = 0 := by
        refine Classical.byContradiction fun q => ?_
        rw [e1 q, hab.2] at z
        omega
      rw [show (48 : Int32) = zI (48 : Nat) by decide]
      refine s_M_addL o1 (by omega) (fun M2 k2 o2 => ?_)
      rcases s0 hz with ⟨c1, c2⟩ | ⟨c1, c2⟩
      · rw [c2] at o2
        exact k [48] (Or.inl ⟨hz, rfl, Or.inl ⟨c1, rfl⟩⟩) M2 (k1.tr k2) o2
      · rw [c2] at o2
        exact k [45, 48] (Or.inl ⟨hz, rfl, Or.inr ⟨c1, rfl⟩⟩) M2 (k1.tr k2) o2
    · have hz : zv x ≠ 0 := fun q => z (e0 q)
      have ev := e1 hz
      have eS := s1 hz
      rw [ev]
      have hii : isInf (dab x) ↔ isInf x := by
        unfold isInf
        rw [hab.2]
        show zv big < ((zv x).natAbs : Int) ↔ _
        exact Iff.rfl
      refine s_M_isInfinite hab.1 (fun i => ⟨fun q => absurd q (by decide), fun _ => ?_⟩) (fun i => ⟨fun _ => ?_, fun q => absurd rfl q⟩)
      · rw [show (73 : Int32) = zI (73 : Nat) by decide, show (78 : Int32) = zI (78 : Nat) by decide, show (70 : Int32) = zI (70 : Nat) by decide]
        refine s_M_addL o1 (by omega) (fun M2 k2 o2 => s_M_addL o2 (by rw [List.length_append]; simp only [List.length_cons, List.length_nil]; omega) (fun M3 k3 o3 => s_M_addL o3 (by rw [List.length_append, List.length_append]; simp only [List.length_cons, List.length_nil]; omega) (fun M4 k4 o4 => ?_)))
        refine k _ (Or.inr (Or.inl ⟨hii.mp i, rfl, rfl⟩)) M4 (k1.tr (k2.tr (k3.tr k4))) ?_
        rw [List.append_assoc, List.append_assoc, eS] at o4
        exact o4
      · have hix : ¬ isInf x := fun q => i (hii.mpr q)
        have hdf : FP.Core.DFin (dab x) := (fin_big hab.1).mpr i
        obtain ⟨r1, r2⟩ := hr hz hix
        have h := s_M_wr89 (x3 := x3) (M := M1) (post := post) hab.1 r2 (fun e he => s_M_wr150 hdf he hs (by omega) o1 (fun j m m' q' hF hST M' hk p1 p2 => ?_)) 23 (-7) (-8) (by decide) (by decide) (by decide) (by decide) r1 (fun i a b => by omega)
        · exact ⟨24, h⟩
        · by_cases hp : pla (dab x)
          · refine k _ (Or.inr (Or.inr (Or.inr ⟨hz, hix, r1, r2, rfl, e, j, m, m', q', he, hF, hST, Or.inl ⟨hp, rfl⟩⟩))) M' (k1.tr hk) ?_
            rw [← eS]
            exact p1 hp
          · refine k _ (Or.inr (Or.inr (Or.inr ⟨hz, hix, r1, r2, rfl, e, j, m, m', q', he, hF, hST, Or.inr ⟨hp, rfl⟩⟩))) M' (k1.tr hk) ?_
            rw [← eS]
            exact p2 hp
  have h34 : ∀ v : UInt64, okD v → (zv x ≠ 0 → v = dab x) → (zv x = 0 → zv v = 0) → (zv x ≠ 0 → [45] = sgL x) → (zv x = 0 → ¬ x = 0) → B_M_writeReal_34 post x3 v M := by
    intro v hv e1 e0 s1 s0
    unfold B_M_writeReal_34
    rw [show (45 : Int32) = zI (45 : Nat) by decide]
    exact s_M_addL ho (by decide) (fun M1 k1 o1 => h40 v [45] M1 hv e1 e0 (by decide) s1 (fun z => Or.inr ⟨s0 z, rfl⟩) o1 k1)
  have h12 : ∀ v : UInt64, okD v → (zv x ≠ 0 → v = dab x) → (zv x = 0 → zv v = 0) → B_M_writeReal_12 post x x3 v M := by
    intro v hv e1 e0
    unfold B_M_writeReal_12
    rw [dc0, dlt_z hx ok0, deq_z hx ok0, zv0]
    refine ⟨fun z => h34 v hv e1 e0 (fun _ => by unfold sgL; rw [if_pos z]) (fun q => by omega), fun z => ⟨fun z2 => ?_, fun z2 => h40 v [] M hv e1 e0 (by decide) (fun _ => by unfold sgL; rw [if_neg z]) (fun q => absurd q z2) ho (kQ.rf M)⟩⟩
    rcases zero_2 hx z2 with ex | ex
    · have n1 : ¬ nf_dlt (FP.ddiv FP.dconst1 0) 0 := by unfold nf_dlt; decide +kernel
      have n2 : vf_n64 (FP.ddiv FP.dconst1 0) := (n64 _).mpr (by decide +kernel)
      have h := h40 v [] M hv e1 e0 (by decide) (fun q => absurd z2 q) (fun _ => Or.inl ⟨ex, rfl⟩) ho (kQ.rf M)
      rw [ex]
      exact ⟨n2, fun q => absurd q n1, fun _ => h⟩
    · have n1 : nf_dlt (FP.ddiv FP.dconst1 9223372036854775808) 0 := by unfold nf_dlt; decide +kernel
      have n2 : vf_n64 (FP.ddiv FP.dconst1 9223372036854775808) := (n64 _).mpr (by decide +kernel)
      have h := h34 v hv e1 e0 (fun q => absurd z2 q) (fun _ => by rw [ex]; decide)
      rw [ex]
      exact ⟨n2, fun _ => h, fun q => absurd n1 q⟩
  unfold P_M_writeReal
  rw [dc0, dlt_z hx ok0, zv0]
  refine ⟨fun z => h12 _ ((FP.dneg_nan x).trans hx) (fun _ => ?_) (fun q => by omega), fun z => h12 _ hx (fun q => ?_) (fun q => q)⟩
  · exact (dab_neg z (Or.inr hx) hx).symm
  · unfold dab
    rw [if_neg (by omega)]
theorem s_M_write {x1 : Int32} {M : nf_M} {rg : Nat → nf_V} {post : Int32 → nf_M → Prop} (hc : mv M rg) (hv : okR rg) (h0 : ¬ inR x1 → ∀ a M', kO M M' → mg_I M' 19 0 = 1 → post a M') (h2 : ∀ r : Nat, r < 8 → x1 = zI r → (rg r).1.toInt = -1 → ∀ a M', kO M M' → mg_I M' 19 0 = 2 → post a M') (h1 : ∀ r : Nat, r < 8 → x1 = zI r → 0 ≤ (rg r).1.toInt → ∀ k L, wr1 (rg r) k L → (k = 3 → ∀ a M', kO M M' → mg_I M' 19 0 = 3 → post a M') ∧ (k = 0 → ∀ M', kU2 M M' → oM M' L → mg_I M' 19 0 = 0 → post (zI L.length) M')) : P_M_write x1 M post := by
  have hthr : ∀ v : Int32, 0 < v → (∀ a M', kO M M' → mg_I M' 19 0 = v → post a M') → B_M_write_26 post x1 v M := fun v hv0 hp => by
    unfold B_M_write_26
    intro M1 e1
    have e6 : mg_I M1 19 0 = v := by rw [e1]; rfl
    rw [e6]
    exact ⟨fun _ => hp _ M1 (by rw [e1]; exact kO_19 M 0 v (by decide) (by decide)) e6, fun z => absurd hv0 z⟩
  unfold P_M_write
  refine s_M_isRegister (fun ra => ⟨fun z => absurd z (by decide), fun _ => ?_⟩) (fun z => ⟨fun _ => hthr 1 (by decide) (h0 z), fun q => absurd rfl q⟩)
  obtain ⟨r, hr, er, -, cr⟩ := rg_n ra
  have ta : mg_I M 22 r = (rg r).1 := congrArg (fun c : nf_V => c.1) (hc r hr)
  have va := hv r hr
  have qa := ty9 va
  rw [cr, ta, i32_lt, t0]
  refine ⟨vp_in_iff.mpr ra, fun z => hthr 2 (by decide) (h2 r hr er (by omega)), fun za => ?_⟩
  have fa : 0 ≤ (rg r).1.toInt := by omega
  have h := h1 r hr er fa
  subst er
  unfold B_M_write_26
  intro M1 e1
  have e6 : mg_I M1 19 0 = 0 := by rw [e1]; rfl
  have k1 : kO M M1 := by rw [e1]; exact kO_19 M 0 0 (by decide) (by decide)
  have u1 : kU2 M M1 := by rw [e1]; exact kU2_19 M 0 0 (by decide)
  have m1 := mv_O hc k1
  have hin := z_in hr (show 8 < 2147483648 by decide)
  have t1' : mg_I M1 22 r = (rg r).1 := congrArg (fun c : nf_V => c.1) (m1 r hr)
  rw [e6, z_cl (by omega), t1']
  refine ⟨fun z => absurd z (by decide), fun _ => ⟨hin, ?_⟩⟩
  have o0 : ∀ M2 : nf_M, oM (ms_I M2 19 3 0) [] := fun M2 => ⟨rfl, fun i hi => absurd hi (Nat.not_lt_zero _)⟩
  by_cases hE : (rg r).1.toInt < 8
  · obtain ⟨t, p, u, oa, eA⟩ := okV_X va fa hE
    have g := m1 r hr
    rw [eA] at g
    have g2 : mg_L M1 23 r = zL u := congrArg (fun c : nf_V => c.2.1) g
    have g3 : mg_I M1 24 r = zI p := congrArg (fun c : nf_V => c.2.2.1) g
    refine s_M_isExact (fun _ => ⟨fun z => absurd z (by decide), fun _ M7 e7 => ⟨hin, hin, ?_⟩⟩) (fun z => absurd (by omega) z)
    have g4 : mg_L M7 23 r = zL u := by rw [e7]; exact g2
    have g5 : mg_I M7 24 r = zI p := by rw [e7]; exact g3
    have o7 : oM M7 [] := by rw [e7]; exact o0 M1
    rw [g4, g5]
    refine s_M_addExact ⟨oa.2.1, oa.2.2.1⟩ oa.2.2.2.1 (by decide) o7 (fun M8 k8 o8 => ?_)
    rw [List.nil_append] at o8
    rw [o8.1]
    refine (h 0 _ (Or.inl ⟨t, p, u, oa, eA, rfl, rfl⟩)).2 rfl M8 (u1.tr ((by rw [e7]; exact kU2_19 M1 3 0 (by decide) : kU2 M1 M7).tr k8.U.w)) o8 ?_
    rw [k8.2.1 0 (by decide), e7]
    exact e6
  · obtain ⟨t, x, ht, hx, eA⟩ := okV_F va (by omega)
    have hab := dab_ok hx
    have g := m1 r hr
    rw [eA] at g
    have g1 : mg_I M1 22 r = zI t := congrArg (fun c : nf_V => c.1) g
    have g2 : mg_D M1 25 r = x := congrArg (fun c : nf_V => c.2.2.2) g
    refine s_M_isExact (fun z => absurd z (by omega)) (fun _ => ⟨fun _ => ⟨hin, fun t6 e6' => ?_⟩, fun z => absurd rfl z⟩)
    rw [g2] at e6'
    rw [e6']
    have h154 : ∀ c : Int32, (0 < c → c = 3 ∧ wri (decide (t = 8)) x 3 []) → (¬ 0 < c → c = 0 ∧ (zv x ≠ 0 → ¬ isInf x → zv (tM (-8)) ≤ zv (dab x) ∧ zv (dab x) < zv (tM 15))) → B_M_write_154 post (zI r) x c M1 := by
      intro c c1 c2
      unfold B_M_write_154
      intro M2 e2
      have f1 : mg_I M2 19 0 = c := by rw [e2]; rfl
      rw [f1, z_cl (by omega)]
      refine ⟨fun z => ?_, fun z M3 e3 => ⟨hin, ?_⟩⟩
      · obtain ⟨d1, d2⟩ := c1 z
        refine (h 3 [] (Or.inr ⟨t, x, ht, hx, eA, d2⟩)).1 rfl _ M2 ?_ (by rw [f1, d1])
        rw [e2]
        exact k1.tr (kO_19 M1 0 c (by decide) (by decide))
      · obtain ⟨d1, d2⟩ := c2 z
        have o3 : oM M3 [] := by rw [e3]; exact o0 M2
        have f2 : mg_I M3 22 r = zI t := by rw [e3, e2]; exact g1
        have n3 : mg_I M3 19 0 = 0 := by rw [e3]; exact f1.trans d1
        have u3 : kU2 M M3 := by rw [e3, e2]; exact u1.tr ((kU2_19 M1 0 c (by decide)).tr (kU2_19 _ 3 0 (by decide)))
        have hgo : ∀ y : Int32, (y = 0 ↔ decide (t = 8) = false) → B_M_write_189 post y x M3 := fun y hy => by
          unfold B_M_write_189
          refine s_M_writeReal hx hy o3 d2 (fun L hL M4 k4 o4 => ?_)
          rw [o4.1]
          exact (h 0 L (Or.inr ⟨t, x, ht, hx, eA, hL⟩)).2 rfl M4 (u3.tr k4.U.w) o4 ((k4.2.1 0 (by decide)).trans n3)
        rw [f2, zeqI 8 8 (by decide) (by omega) (by omega)]
        refine ⟨fun q => hgo 1 ?_, fun q => hgo 0 ?_⟩
        · rw [decide_eq_true q]
          exact ⟨fun q => absurd q (by decide), fun q => absurd q (by decide)⟩
        · rw [decide_eq_false q]
          exact ⟨fun _ => rfl, fun _ => rfl⟩
    have h95 : ∀ v : UInt64, okD v → (zv v = 0 ↔ zv x = 0) → (zv x ≠ 0 → v = dab x) → B_M_write_95 post (zI r) x v M1 := by
      intro v hv' e0 e1'
      have h112 : zv x = 0 ∨ isInf x → B_M_write_112 post (zI r) x v M1 := fun hc => by
        unfold B_M_write_112 B_M_write_117 B_M_write_153
        refine ⟨fun q => absurd q (by decide), fun _ => h154 0 (fun q => absurd q (by decide)) (fun _ => ⟨rfl, fun a b => ?_⟩)⟩
        rcases hc with q | q
        · exact absurd q a
        · exact absurd q b
      unfold B_M_write_95
      rw [dc0, deq_z hv' ok0, zv0, e0]
      refine ⟨fun z => h112 (Or.inl z), fun z => ?_⟩
      have ev := e1' z
      have hii : isInf v ↔ isInf x := by
        rw [ev]
        unfold isInf
        rw [hab.2]
        show zv big < ((zv x).natAbs : Int) ↔ _
        exact Iff.rfl
      refine s_M_isInfinite hv' (fun i => ⟨fun q => absurd q (by decide), fun _ => h112 (Or.inr (hii.mp i))⟩) (fun i => ⟨fun _ => ?_, fun q => absurd rfl q⟩)
      have hix : ¬ isInf x := fun q => i (hii.mpr q)
      unfold B_M_write_117 B_M_write_149 B_M_write_153
      have o8 : okD (tM (-8)) := tM_ok2 (by decide) (by decide)
      have o15 : okD (tM 15) := tM_ok2 (by decide) (by decide)
      have e8 : FP.ddiv FP.dconst1 (tn 8) = tM (-8) := rfl
      have e15 : tn 15 = tM 15 := rfl
      rw [show (8 : Int32) = zI (8 : Nat) by decide, show (15 : Int32) = zI (15 : Nat) by decide]
      refine ⟨fun _ => s_M_ten (by decide) ?_, fun q => absurd rfl q⟩
      rw [e8, dlt_z hv' o8]
      have hbad : zv v < zv (tM (-8)) ∨ zv (tM 15) ≤ zv v → B_M_write_154 post (zI r) x 3 M1 := fun q => h154 3 (fun _ => ⟨rfl, Or.inr (Or.inr (Or.inl ⟨z, hix, by rw [← ev]; exact q, rfl⟩))⟩) (fun q => absurd (by decide) q)
      refine ⟨(n64 _).mpr o8, fun q => hbad (Or.inl q), fun q => s_M_ten (by decide) ?_⟩
      rw [e15, dge_z hv' o15]
      exact ⟨fun q2 => hbad (Or.inr q2), fun q2 => h154 0 (fun q => absurd q (by decide)) (fun _ => ⟨rfl, fun _ _ => by rw [← ev]; omega⟩)⟩
    rw [dc0, dlt_z hx ok0, zv0]
    refine ⟨fun z => h95 _ ((FP.dneg_nan x).trans hx) (by rw [zv_neg]; omega) (fun _ => (dab_neg z (Or.inr hx) hx).symm), fun z => h95 _ hx Iff.rfl (fun q => ?_)⟩
    unfold dab
    rw [if_neg (by omega)]
theorem wr1_k {A : nf_V} {k : Nat} {L : List Nat} (h : wr1 A k L) : k = 0 ∨ k = 3 := by
  rcases h with ⟨t, p, a, oa, eA, e0, eL⟩ | ⟨t, x, ht, hx, eA, ⟨a, b, c⟩ | ⟨a, b, c⟩ | ⟨a, b, c, f⟩ | ⟨a, b, c, f, g, h⟩⟩
  · exact Or.inl e0
  · exact Or.inl b
  · exact Or.inl b
  · exact Or.inr f
  · exact Or.inl g
theorem nf_arm11 (x1 : Int32) (M : nf_M) (h : iv_I M) : P_arm11 x1 M iv_I := by
  obtain ⟨n, tx, m, ou, rg, hI⟩ := h
  have hv0 : vp_in (0 : Int32) 1 := by rw [vp_in_iff]; decide
  show P_L_write x1 M (fun r1 M2 => P_M_write x1 M2 (fun r3 M4 => endL r1 r3 M4))
  have hv := iv_ok hI
  unfold P_L_write
  refine s_F_write (iv_cv hI) hv (fun z => c_0 0 rfl ?_) (fun r hr er z => c_0 1 rfl ?_) (fun r hr er fa k L hw => ⟨fun hk3 M1 k1 => c_0 2 rfl ?_, fun hk0 M1 k1 w1 t3 e3 => ⟨hv0, fun M5 e5 => ?_⟩⟩)
  · rw [nI_z]
    refine s_M_write (iv_mv hI) hv (fun _ a M' hk e => end_thr ⟨n, tx, m, ou, rg, iv_no hI (kD.rf M) hk⟩ (e.trans (by decide)) (by decide)) (fun r hr er _ => ?_) (fun r hr er _ => ?_)
    · exact absurd (by rw [er]; exact in_z hr) z
    · exact absurd (by rw [er]; exact in_z hr) z
  · rw [nI_z]
    refine s_M_write (iv_mv hI) hv (fun z2 => absurd (by rw [er]; exact in_z hr) z2) (fun r' hr' er' _ a M' hk e => end_thr ⟨n, tx, m, ou, rg, iv_no hI (kD.rf M) hk⟩ (e.trans (by decide)) (by decide)) (fun r' hr' er' fa => ?_)
    have q1 := z_inj hr hr' er er'
    subst q1
    omega
  · rw [nI_z]
    refine s_M_write (kE_mv hI k1.1) hv (fun z2 => absurd (by rw [er]; exact in_z hr) z2) (fun r' hr' er' z2 => ?_) (fun r' hr' er' fa' k' L' hw' => ⟨fun hk3' a M' hk e => end_thr ⟨n, tx, m, ou, rg, iv_no hI k1 hk⟩ (e.trans (by decide)) (by decide), fun hk0' => ?_⟩)
    · have q1 := z_inj hr hr' er er'
      subst q1
      omega
    · have q1 := z_inj hr hr' er er'
      subst q1
      have := (wr1_1 hw hw').1
      omega
  · rw [show (0 : Int32).toNatClampNeg = 0 by decide] at e5
    have m5 : mv M5 rg := fun i hi => by
      rw [e5]
      show rgM M1 i = _
      exact kE_mv hI k1.1 i hi
    refine s_M_write m5 hv (fun z2 => absurd (by rw [er]; exact in_z hr) z2) (fun r' hr' er' z2 => ?_) (fun r' hr' er' fa' k' L' hw' => ⟨fun hk3' => ?_, fun hk0' M' hk ho e0 => ?_⟩)
    · have q1 := z_inj hr hr' er er'
      subst q1
      omega
    · have q1 := z_inj hr hr' er er'
      subst q1
      have := (wr1_1 hw hw').1
      omega
    · have q1 := z_inj hr hr' er er'
      subst q1
      have q4 := (wr1_1 hw hw').2 hk0
      subst q4
      subst hk0
      have hok := wr1_ok hw
      rw [e5] at hk
      refine end_ok ⟨n, tx, _, _, rg, iv_outp hI k1 w1 hk ho hok.1 hok.2⟩ e0 ?_
      have e27 : mg_L M' 27 = mg_L (ms_L M1 27 0 t3) 27 := hk.2.2.2.1
      rw [e27, e3]
      rfl
