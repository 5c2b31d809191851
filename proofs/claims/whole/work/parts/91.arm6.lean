/-! cast: the arm -/
theorem s_F_cast {x1 x2 x3 : Int32} {M : nf_M} {rg : Nat → nf_V} {post : Unit → nf_M → Prop} {ex : Nat → nf_M → Prop} (hc : cv M rg) (hv : okR rg) (h0 : ¬ inR x1 ∨ ¬ inR x3 ∨ ¬ (0 ≤ x2.toInt ∧ x2.toInt < 10) → ex 0 M) (h2 : ∀ t a r : Nat, t < 10 → a < 8 → r < 8 → x2 = zI t → x1 = zI a → x3 = zI r → (rg a).1.toInt = -1 → ex 2 M) (h1 : ∀ t a r : Nat, t < 10 → a < 8 → r < 8 → x2 = zI t → x1 = zI a → x3 = zI r → 0 ≤ (rg a).1.toInt → ∀ k c, cast1 t (rg a) k c → (k ≠ 0 → ∀ M', kD M M' → ex (if k = 5 then 1 else k) M') ∧ (k = 0 → ∀ M', kC r c M M' → post () M')) : P_F_cast x1 x2 x3 M post ex := by
  unfold P_F_cast
  rw [show (10 : Int32) = zI (10 : Nat) by decide]
  refine s_F_register (fun r hr er => s_F_register (fun a ha ea => s_F_checkIndex (by decide) (fun t ht et => s_F_checkFull (hc a ha) (hv a ha) (fun fa => ?_) (fun z => h2 t a r ht ha hr et ea er z)) (fun z => h0 (Or.inr (Or.inr z)))) (fun z => h0 (Or.inl z))) (fun z => h0 (Or.inr (Or.inl z)))
  have h := h1 t a r ht ha hr et ea er fa
  subst et
  refine s_F_castInto ha ht hc hv fa (fun k c hk => ⟨(h k c hk).1, fun hk0 M' hz => fin_C hr hz ((h k c hk).2 hk0)⟩)
theorem s_M_cast {x1 x2 x3 : Int32} {M : nf_M} {rg : Nat → nf_V} {post : Unit → nf_M → Prop} (hc : mv M rg) (hv : okR rg) (h0 : ¬ inR x1 ∨ ¬ inR x3 ∨ ¬ (0 ≤ x2.toInt ∧ x2.toInt < 10) → ∀ M', kO M M' → mg_I M' 19 0 = 1 → post () M') (h2 : ∀ t a r : Nat, t < 10 → a < 8 → r < 8 → x2 = zI t → x1 = zI a → x3 = zI r → (rg a).1.toInt = -1 → ∀ M', kO M M' → mg_I M' 19 0 = 2 → post () M') (h1 : ∀ t a r : Nat, t < 10 → a < 8 → r < 8 → x2 = zI t → x1 = zI a → x3 = zI r → 0 ≤ (rg a).1.toInt → ∀ k c, cast1 t (rg a) k c → (k ≠ 0 → ∀ M', kO M M' → mg_I M' 19 0 = zI k → post () M') ∧ (k = 0 → ∀ M', kN r c M M' → mg_I M' 19 0 = 0 → post () M')) : P_M_cast x1 x2 x3 M post := by
  have hthr : ∀ v : Int32, 0 < v → (∀ M', kO M M' → mg_I M' 19 0 = v → post () M') → B_M_cast_43 post x1 x2 x3 v M := fun v hv0 hp => by
    unfold B_M_cast_43
    intro M1 e1
    have e6 : mg_I M1 19 0 = v := by rw [e1]; rfl
    rw [e6]
    exact ⟨fun _ => hp M1 (by rw [e1]; exact kO_19 M 0 v (by decide) (by decide)) e6, fun z => absurd hv0 z⟩
  have h25 : (¬ inR x1 ∨ ¬ inR x3 ∨ ¬ (0 ≤ x2.toInt ∧ x2.toInt < 10)) → B_M_cast_25 post x1 x2 x3 M := fun z => by
    unfold B_M_cast_25
    exact hthr 1 (by decide) (h0 z)
  unfold P_M_cast
  refine s_M_isRegister (fun ra => ⟨fun z => absurd z (by decide), fun _ => s_M_isRegister (fun rr => ⟨fun z => absurd z (by decide), fun _ => ?_⟩) (fun z => ⟨fun _ => h25 (Or.inr (Or.inl z)), fun q => absurd rfl q⟩)⟩) (fun z => ⟨fun _ => h25 (Or.inl z), fun q => absurd rfl q⟩)
  obtain ⟨a, ha, ea, -, ca⟩ := rg_n ra
  obtain ⟨r, hr, er, -, -⟩ := rg_n rr
  have t9 : (9 : Int32).toInt = 9 := by decide
  have ta : mg_I M 22 a = (rg a).1 := congrArg (fun c : nf_V => c.1) (hc a ha)
  have va := hv a ha
  have qa := ty9 va
  rw [i32_lt, i32_lt, t0, t9, ca, ta, i32_lt, t0]
  refine ⟨fun z => h25 (Or.inr (Or.inr (by omega))), fun z1 => ⟨fun z => h25 (Or.inr (Or.inr (by omega))), fun z2 => ?_⟩⟩
  obtain ⟨t, ht, et⟩ : ∃ t : Nat, t < 10 ∧ x2 = zI t := ⟨x2.toInt.toNat, by omega, by rw [Int.toNat_of_nonneg (by omega), zI_to]⟩
  refine ⟨vp_in_iff.mpr ra, fun z => hthr 2 (by decide) (h2 t a r ht ha hr et ea er (by omega)), fun za => ?_⟩
  have fa : 0 ≤ (rg a).1.toInt := by omega
  have h := h1 t a r ht ha hr et ea er fa
  subst et ea er
  unfold B_M_cast_43
  intro M1 e1
  have e6 : mg_I M1 19 0 = 0 := by rw [e1]; rfl
  have k1 : kO M M1 := by rw [e1]; exact kO_19 M 0 0 (by decide) (by decide)
  rw [e6]
  refine ⟨fun z => absurd z (by decide), fun _ => s_M_castTo ha ht (mv_O hc k1) hv fa (fun k c hcst M3 hM => ?_)⟩
  obtain ⟨g1, g2⟩ := h k c hcst
  obtain ⟨hk, hM⟩ := hM
  have hbad : ∀ v : Int32, v = zI k → ¬ v = 0 → k ≠ 0 → B_M_cast_98 post (zI t) (zI r) v M3 := fun v ev nv hk0 => by
    unfold B_M_cast_98 B_M_cast_114
    intro M4 e4
    have e5 : mg_I M4 19 0 = v := by rw [e4]; rfl
    rw [e5]
    exact ⟨fun q => absurd q nv, fun _ => g1 hk0 M4 (by rw [e4]; exact k1.tr (hk.1.tr (kO_19 M3 0 v (by decide) (by decide)))) (e5.trans ev)⟩
  rcases hM with ⟨k0, e9, es⟩ | ⟨k3, e9⟩ | ⟨k4, e9⟩ | ⟨k5, e9⟩
  · rw [e9]
    refine ⟨fun q => absurd q (by decide), fun _ => ⟨fun q => absurd q (by decide), fun _ => ⟨fun q => absurd q (by decide), fun _ => ?_⟩⟩⟩
    unfold B_M_cast_98 B_M_cast_114
    intro M4 e4
    have e5 : mg_I M4 19 0 = 0 := by rw [e4]; rfl
    rw [e5]
    have k4 : kO M3 M4 := by rw [e4]; exact kO_19 M3 0 0 (by decide) (by decide)
    refine ⟨fun _ => s_M_store hr (fun M' hkN h19 => g2 k0 M' ((k1.tr (hk.1.tr k4)).N ?_) (h19.trans e5)), fun q => absurd rfl q⟩
    rw [e4] at hkN ⊢
    rw [← es 0]
    exact hkN
  · rw [e9]
    exact ⟨fun _ => hbad 3 (by rw [k3]; decide) (by decide) (by omega), fun q => absurd rfl q⟩
  · rw [e9]
    exact ⟨fun q => absurd q (by decide), fun _ => ⟨fun _ => hbad 4 (by rw [k4]; decide) (by decide) (by omega), fun q => absurd rfl q⟩⟩
  · rw [e9]
    exact ⟨fun q => absurd q (by decide), fun _ => ⟨fun q => absurd q (by decide), fun _ => ⟨fun _ => hbad 5 (by rw [k5]; decide) (by decide) (by omega), fun q => absurd rfl q⟩⟩⟩
theorem cast1_k {t k : Nat} {A c : nf_V} (h : cast1 t A k c) : k = 0 ∨ k = 3 ∨ k = 4 ∨ k = 5 := by
  rcases h with ⟨h1, h2, h3⟩ | ⟨h1, h2, h3⟩ | ⟨h1, ta, p, a, oa, eA, h⟩ | ⟨h1, ta, x, ht, hx, eA, h⟩
  · omega
  · omega
  · unfold fitOut at h
    omega
  · rcases h with ⟨a1, a2⟩ | ⟨a1, a2, a3⟩ | ⟨a1, a2, a3, u, a4, a5, a6⟩ | ⟨a1, a2, a3, a4, n, a5, a6⟩
    · omega
    · omega
    · unfold fitOut at a6
      omega
    · omega
theorem nf_arm6 (x1 x2 x3 : Int32) (M : nf_M) (h : iv_I M) : P_arm6 x1 x2 x3 M iv_I := by
  obtain ⟨n, tx, m, ou, rg, hI⟩ := h
  show P_L_cast x1 x2 x3 M (fun r1 M2 => P_M_cast x1 x2 x3 M2 (fun _ M4 => endV r1 M4))
  have hv := iv_ok hI
  unfold P_L_cast
  refine s_F_cast (iv_cv hI) hv (fun z => c_0 0 rfl ?_) (fun t a r ht ha hr et ea er z => c_0 1 rfl ?_) (fun t a r ht ha hr et ea er fa k c hcst => ?_)
  · rw [nI_z]
    refine s_M_cast (iv_mv hI) hv (fun _ M' hk e => endV_ok ⟨n, tx, m, ou, rg, iv_no hI (kD.rf M) hk⟩ (e.trans (by decide))) (fun t a r ht ha hr et ea er _ => ?_) (fun t a r ht ha hr et ea er _ => ?_)
    · exfalso
      rcases z with z | z | z
      · exact z (by rw [ea]; exact in_z ha)
      · exact z (by rw [er]; exact in_z hr)
      · exact z (zin ht (by decide) et)
    · exfalso
      rcases z with z | z | z
      · exact z (by rw [ea]; exact in_z ha)
      · exact z (by rw [er]; exact in_z hr)
      · exact z (zin ht (by decide) et)
  · rw [nI_z]
    refine s_M_cast (iv_mv hI) hv (fun z2 => ?_) (fun t' a' r' ht' ha' hr' et' ea' er' _ M' hk e => endV_ok ⟨n, tx, m, ou, rg, iv_no hI (kD.rf M) hk⟩ (e.trans (by decide))) (fun t' a' r' ht' ha' hr' et' ea' er' fa => ?_)
    · exfalso
      rcases z2 with z | z | z
      · exact z (by rw [ea]; exact in_z ha)
      · exact z (by rw [er]; exact in_z hr)
      · exact z (zin ht (by decide) et)
    · have q1 := z_inj ha ha' ea ea'
      subst q1
      omega
  · have key : ∀ (M1 : nf_M) (r1 : Int32), (k ≠ 0 → kD M M1) → (k = 0 → kC r c M M1) → r1 = zI k → P_M_cast x1 x2 x3 M1 (fun _ M4 => endV r1 M4) := by
      intro M1 r1 kk1 kk2 er1
      have kf : kF M M1 := by
        by_cases hk0 : k = 0
        · exact (kk2 hk0).1
        · exact (kk1 hk0).1
      refine s_M_cast (fun i hi => (kF_rg kf i).trans (iv_mv hI i hi)) hv (fun z2 => ?_) (fun t' a' r' ht' ha' hr' et' ea' er' z2 => ?_) (fun t' a' r' ht' ha' hr' et' ea' er' fa k' c' hcst' => ?_)
      · exfalso
        rcases z2 with z | z | z
        · exact z (by rw [ea]; exact in_z ha)
        · exact z (by rw [er]; exact in_z hr)
        · exact z (zin ht (by decide) et)
      · have q1 := z_inj ha ha' ea ea'
        subst q1
        omega
      · have q1 := z_inj ha ha' ea ea'
        have q3 := zinj (by omega) (by omega) et et'
        have q5 := z_inj hr hr' er er'
        subst q1 q3 q5
        obtain ⟨q6, q7⟩ := cast1_1 hcst hcst'
        subst q6
        refine ⟨fun hk0 M' hk e => endV_ok ⟨n, tx, m, ou, rg, iv_no hI (kk1 hk0) hk⟩ (e.trans er1.symm), fun hk0 M' hk e => ?_⟩
        rw [← q7 hk0] at hk
        rw [hk0] at hcst er1
        exact endV_ok ⟨n, tx, m, ou, _, iv_set hI (cast1_ok (hv _ ha') fa hcst) (kk2 hk0) hk⟩ (e.trans (by rw [er1]; rfl))
    refine ⟨fun hk0 M1 k1 => ?_, fun hk0 M1 k1 => key M1 0 (fun q => absurd hk0 q) (fun _ => k1) (by rw [hk0]; rfl)⟩
    rcases cast1_k hcst with e | e | e | e
    · omega
    · subst e
      refine c_0 2 rfl ?_
      rw [nI_z]
      exact key M1 _ (fun _ => k1) (fun q => by omega) rfl
    · subst e
      refine c_0 3 rfl ?_
      rw [nI_z]
      exact key M1 _ (fun _ => k1) (fun q => by omega) rfl
    · subst e
      refine c_0 4 rfl ?_
      rw [nI_z]
      exact key M1 _ (fun _ => k1) (fun q => by omega) rfl
