/-! cast -/
theorem kZ_D {c : nf_V} {M M' : nf_M} (h : kZ 0 c M M') : kD M M' := by
  obtain ⟨M1, a, b⟩ := h
  exact a.tr b.D
theorem kZ_U {c : nf_V} {M M' : nf_M} (h : kZ 0 c M M') : mg_U M' 0 = c.2.1 := by
  obtain ⟨M1, a, b⟩ := h
  exact congrArg (fun c : nf_V => c.2.1) b.2.2.2.2.1
theorem s_F_castFloating {t : Nat} {x : UInt64} {M : nf_M} {post : Unit → nf_M → Prop} {ex : Nat → nf_M → Prop} (ht : t < 8) (hx : okD x) (k3 : isInf x → ex 3 M) (k4 : ¬ isInf x → ¬ lo15 x → ex 4 M) (k1 : ¬ isInf x → lo15 x → ¬ (t = 0 ∧ ((zv x).natAbs : Int) < zv m9) → ∀ M', kZ 0 (zI t, FP.d2l x, 0, 0) M M' → post () M') (k0 : ¬ isInf x → lo15 x → t = 0 → ((zv x).natAbs : Int) < zv m9 → ∃ n : Nat, ev (mll (dab x)) n ∧ ((dz 6 n).1 < 1000000000000000 → ∀ M', kZ 0 (0, zL (sgd (decide (zv x < 0)) (dz 6 n).1), zI (dz 6 n).2, 0) M M' → post () M') ∧ (¬ (dz 6 n).1 < 1000000000000000 → ∀ M', kD M M' → ex 4 M')) : P_F_castFloating x (zI t) M post ex := by
  have hab := dab_ok hx
  have e9 : (4741671816366391296 : UInt64) = m9 := rfl
  unfold P_F_castFloating B_F_castFloating_77 B_F_castFloating_85 B_F_castFloating_96
  refine s_F_isInfinite hx (fun i => ⟨fun z => absurd z (by decide), fun _ => k3 i⟩) (fun i => ⟨fun _ => s_F_wholeBelowLimit hx (fun l => ?_) (fun l => k4 i l), fun z => absurd rfl z⟩)
  rw [z0' (by omega)]
  refine ⟨fun z => s_F_amount hx ?_, fun z => s_V_becomeUnits (fun M' hk => k1 i l (fun q => z q.1) M' ⟨M, kD.rf M, hk⟩)⟩
  rw [e9, dlt_z hab.1 m9_z.1, hab.2]
  refine ⟨fun z2 => s_F_amount hx ?_, fun z2 => s_V_becomeUnits (fun M' hk => k1 i l (fun q => z2 q.2) M' ⟨M, kD.rf M, hk⟩)⟩
  obtain ⟨b1, b2, b3, b4, b5, b6⟩ := mll_b hx z2
  obtain ⟨n, hn, g1, g2⟩ := k0 i l z z2
  have hw : wq (mll (dab x)) ≤ 1000000000000000 := by
    have : wq (mll (dab x)) = wq (mll x) := by unfold wq; rw [b3]; rfl
    omega
  have hp0 : 0 ≤ zv (mll (dab x)) := by omega
  have hw2 : wq (mll (dab x)) < 2 ^ 52 := by omega
  refine ⟨(n64 _).mpr b2, s_F_nearestEven b2 hp0 hw2 (fun n' hn' => ?_)⟩
  have en : n' = n := by have := ev_1 hn hn'; omega
  subst en
  have hnb : n' ≤ 1000000000000001 := by
    have hfl : flo (mll (dab x)) ≤ 1000000000000000 := by
      unfold flo
      rw [if_neg (by omega)]
      omega
    unfold ev at hn
    omega
  refine s_W_become (by omega) (fun M1 k1' w1 => ?_)
  rw [dc0, dlt_z hx ok0, zv0, e6i]
  have hset : ∀ y : Int32, y = (if decide (zv x < 0) then 1 else 0) → P_W_settle 0 (zI t) y (zI (6 : Nat)) M1 (fun _ M2 => post () M2) ex := fun y ey => by
    refine s_W_settleF (neg := decide (zv x < 0)) (s := 6) ey (by omega) k1' w1 (by omega) ?_
    have es : spS n' 6 = dz 6 n' := by unfold spS; rw [if_neg (by decide)]
    rw [es, z]
    exact ⟨fun q M' hk => g1 q M' hk, fun q M' hk => g2 q M' hk⟩
  exact ⟨fun q => hset 1 (by rw [decide_eq_true q]; rfl), fun q => hset 0 (by rw [decide_eq_false q]; rfl)⟩
theorem s_F_castInto {a t : Nat} {M : nf_M} {rg : Nat → nf_V} {post : Unit → nf_M → Prop} {ex : Nat → nf_M → Prop} (ha : a < 8) (ht : t < 10) (hc : cv M rg) (hv : okR rg) (fa : 0 ≤ (rg a).1.toInt) (h : ∀ k c, cast1 t (rg a) k c → (k ≠ 0 → ∀ M', kD M M' → ex (if k = 5 then 1 else k) M') ∧ (k = 0 → ∀ M', kZ 0 c M M' → post () M')) : P_F_castIntoAnswer (rgn a) (zI t) M post ex := by
  have va := hv a ha
  have hnf : ∀ M', t = 8 ∨ t = 9 → post () M' → B_F_castIntoAnswer_108 post ex (zI t) M' := fun M' h89 hp => by
    unfold B_F_castIntoAnswer_108 B_F_castIntoAnswer_130
    rw [show (8 : Int32) = zI (8 : Nat) by decide, zlt (by omega) (by omega)]
    exact ⟨fun _ => ⟨fun q => by omega, fun _ => hp⟩, fun _ => hp⟩
  have hfit : ∀ (u : Int) (s : Nat) (M' : nf_M), t < 8 → lim u → (∀ k c, fitOut t u s k c → cast1 t (rg a) k c) → kZ 0 (zI t, zL u, zI s, 0) M M' → B_F_castIntoAnswer_108 post ex (zI t) M' := by
    intro u s M' h8 lu hc1 hk
    have eu : mg_U M' 0 = zL u := kZ_U hk
    unfold B_F_castIntoAnswer_108 B_F_castIntoAnswer_130
    rw [eu, show (8 : Int32) = zI (8 : Nat) by decide, show (1 : Int32) = zI (1 : Nat) by decide, zlt (by omega) (by omega), zlt (by omega) (by omega)]
    have hp : t < 2 ∨ fitT t u → post () M' := fun q => (h 0 _ (hc1 0 _ (Or.inr ⟨q, rfl, rfl⟩))).2 rfl M' hk
    refine ⟨fun q => ⟨fun _ => s_F_checkFits ht lu (fun q2 => hp ?_) (fun q2 _ q3 => ?_), fun q2 => absurd h8 q2⟩, fun q => hp (Or.inl (by omega))⟩
    · rcases q2 with q2 | q2 | q2
      · exact Or.inl q2
      · omega
      · exact Or.inr q2
    · exact (h 5 (rg a) (hc1 5 _ (Or.inl ⟨q2, q3, rfl⟩))).1 (by decide) M' (kZ_D hk)
  unfold P_F_castIntoAnswer
  rw [zeqI 9 9 (by decide) (by omega) (by omega), zeqI 8 8 (by decide) (by omega) (by omega), z0' (by omega)]
  refine ⟨fun z => s_V_asDouble (hc a ha) va fa ?_, fun n9 => ⟨fun z => s_V_asFloat (hc a ha) va fa ⟨sng_n (dbl_ok va fa), ?_⟩, fun n8 => ?_⟩⟩
  · subst z
    refine s_V_becomeFloating (Or.inr rfl) (dbl_ok va fa) (fun M' hk => hnf M' (Or.inr rfl) ?_)
    exact (h 0 _ (Or.inl ⟨rfl, rfl, rfl⟩)).2 rfl M' ⟨M, kD.rf M, hk⟩
  · subst z
    have oks : okD (sng (dbl (rg a))) := okS_D (dS (dbl_ok va fa))
    refine s_V_becomeFloating (Or.inl rfl) oks (fun M' hk => hnf M' (Or.inl rfl) ?_)
    have e : flt 8 (sng (dbl (rg a))) = (8, 0, 0, sng (dbl (rg a))) := by
      have := flt_F (t := 8) (D := sng (dbl (rg a))) (Or.inr ⟨rfl, _, d2f_n (dbl_ok va fa), rfl⟩)
      rw [this]
      rfl
    refine (h 0 _ (Or.inr (Or.inl ⟨rfl, rfl, rfl⟩))).2 rfl M' ⟨M, kD.rf M, ?_⟩
    rw [← e]
    exact hk
  · have h8 : t < 8 := by omega
    refine s_V_isFloating (hc a ha) (fun z => ⟨fun q => absurd q (by decide), fun _ => ?_⟩) (fun z => ⟨fun _ => ?_, fun q => absurd rfl q⟩)
    · obtain ⟨ta, x, hta, hx, eA⟩ := okV_F va z
      have er : mg_R M (rgn a) = x := by
        have := congrArg (fun c : nf_V => c.2.2.2) (hc a ha)
        rw [eA] at this
        exact this
      have mk : ∀ k c, ((isInf x ∧ k = 3) ∨ (¬ isInf x ∧ ¬ lo15 x ∧ k = 4) ∨ (¬ isInf x ∧ lo15 x ∧ ¬ (t = 0 ∧ ((zv x).natAbs : Int) < zv m9) ∧ ∃ u : Int, FP.d2l x = zL u ∧ lim u ∧ fitOut t u 0 k c) ∨ (¬ isInf x ∧ lo15 x ∧ t = 0 ∧ ((zv x).natAbs : Int) < zv m9 ∧ ∃ n : Nat, ev (mll (dab x)) n ∧ ((¬ (dz 6 n).1 < 1000000000000000 ∧ k = 4) ∨ ((dz 6 n).1 < 1000000000000000 ∧ k = 0 ∧ c = (0, zL (sgd (decide (zv x < 0)) (dz 6 n).1), zI (dz 6 n).2, 0))))) → cast1 t (rg a) k c := fun k c q => Or.inr (Or.inr (Or.inr ⟨h8, ta, x, hta, hx, eA, q⟩))
      rw [er]
      refine s_F_castFloating h8 hx (fun i => ?_) (fun i l => ?_) (fun i l q M' hk => ?_) (fun i l z0 hl => ?_)
      · exact (h 3 (rg a) (mk 3 _ (Or.inl ⟨i, rfl⟩))).1 (by decide) M (kD.rf M)
      · exact (h 4 (rg a) (mk 4 _ (Or.inr (Or.inl ⟨i, l, rfl⟩)))).1 (by decide) M (kD.rf M)
      · obtain ⟨u, u1, u2, eu⟩ := d2l_lim hx l
        rw [eu] at hk
        exact hfit u 0 M' h8 ⟨u1, u2⟩ (fun k c hf => mk k c (Or.inr (Or.inr (Or.inl ⟨i, l, q, u, eu, ⟨u1, u2⟩, hf⟩)))) hk
      · obtain ⟨b1, b2, b3, b4, b5, b6⟩ := mll_b hx hl
        have hw : wq (mll (dab x)) ≤ 1000000000000000 := by
          have : wq (mll (dab x)) = wq (mll x) := by unfold wq; rw [b3]; rfl
          omega
        have hfl : flo (mll (dab x)) = (wq (mll (dab x)) : Int) := by unfold flo; rw [if_neg (by omega)]
        obtain ⟨n, hn⟩ : ∃ n : Nat, ev (mll (dab x)) n := by
          by_cases u : upc 5 (rsE (mll (dab x))) (flo (mll (dab x)))
          · exact ⟨wq (mll (dab x)) + 1, Or.inl ⟨u, by rw [hfl]; rfl⟩⟩
          · exact ⟨wq (mll (dab x)), Or.inr ⟨u, by rw [hfl]⟩⟩
        have hnb : n ≤ 1000000000000001 := by
          unfold ev at hn
          omega
        refine ⟨n, hn, fun q M' hk => ?_, fun q M' hk => ?_⟩
        · have hdz := dz_le 6 n
          have hcst := mk 0 _ (Or.inr (Or.inr (Or.inr ⟨i, l, z0, hl, n, hn, Or.inr ⟨q, rfl, rfl⟩⟩)))
          subst z0
          unfold B_F_castIntoAnswer_108 B_F_castIntoAnswer_130
          exact ⟨fun q2 => absurd q2 (by decide), fun _ => (h 0 _ hcst).2 rfl M' hk⟩
        · exact (h 4 (rg a) (mk 4 _ (Or.inr (Or.inr (Or.inr ⟨i, l, z0, hl, n, hn, Or.inl ⟨q, rfl⟩⟩))))).1 (by decide) M' hk
    · obtain ⟨ta, p, u, oa, eA⟩ := okV_X va fa z
      obtain ⟨a1, a2⟩ := cv_at hc ha eA M (kD.rf M)
      have mk : ∀ k c, fitOut t (if t = 0 then u else u.tdiv (10 ^ p : Nat)) (if t = 0 then p else 0) k c → cast1 t (rg a) k c := fun k c q => Or.inr (Or.inr (Or.inl ⟨h8, ta, p, u, oa, eA, q⟩))
      have lu : lim u := ⟨oa.2.1, oa.2.2.1⟩
      have lu1 := lu.1
      have lu2 := lu.2
      rw [a1, a2]
      refine ⟨fun z0 => s_V_becomeUnits (fun M' hk => ?_), fun z0 => s_F_power (by have := oa.2.2.2.1; omega) (s_F_over (pw_ne (by have := oa.2.2.2.1; omega)) (s_V_becomeUnits (fun M' hk => ?_)))⟩
      · rw [if_pos z0, if_pos z0] at mk
        exact hfit u p M' h8 lu mk ⟨M, kD.rf M, hk⟩
      · rw [if_neg z0, if_neg z0] at mk
        obtain ⟨P1, P2⟩ := pow6 oa.2.2.2.1
        rw [pw_z, zL_div (by omega) (by omega) (by omega) (by omega)] at hk
        exact hfit _ 0 M' h8 (tdiv_b lu oa.2.2.2.1) mk ⟨M, kD.rf M, hk⟩
/-- what castTo leaves -/
def castM (t k : Nat) (c : nf_V) (M M' : nf_M) : Prop := kH M M' ∧ ((k = 0 ∧ mg_I M' 19 9 = 0 ∧ ∀ v, sto (ms_I M' 19 0 v) (zI t) = c) ∨ (k = 3 ∧ mg_I M' 19 9 = 4) ∨ (k = 4 ∧ mg_I M' 19 9 = 5) ∨ (k = 5 ∧ mg_I M' 19 9 = 3))
theorem kH.rf (M : nf_M) : kH M M := ⟨kO.rf M, rfl⟩
theorem kH_19 (M : nf_M) (k : Nat) (v : Int32) (h1 : k ≠ 1) (h3 : k ≠ 3 ∧ k ≠ 17 ∧ k ≠ 18) (h0 : k ≠ 0) : kH M (ms_I M 19 k v) := by
  refine ⟨kO_19 M k v h1 h3, ?_⟩
  show (if 0 = k then v else mg_I M 19 0) = _
  rw [if_neg (Ne.symm h0)]
theorem kH_L (M : nf_M) (k : Nat) (v : Int64) : kH M (ms_L M 19 k v) := ⟨kO_L M k v, rfl⟩
theorem kH_D (M : nf_M) (k : Nat) (v : UInt64) : kH M (ms_D M 19 k v) := ⟨kO_D M k v, rfl⟩
theorem mv_O {M M' : nf_M} {rg : Nat → nf_V} (h : mv M rg) (k : kO M M') : mv M' rg := fun i hi => (k.2 i hi).trans (h i hi)
theorem s_M_castTo {a t : Nat} {M : nf_M} {rg : Nat → nf_V} {post : Unit → nf_M → Prop} (ha : a < 8) (ht : t < 10) (hc : mv M rg) (hv : okR rg) (fa : 0 ≤ (rg a).1.toInt) (h : ∀ k c, cast1 t (rg a) k c → ∀ M', castM t k c M M' → post () M') : P_M_castTo (zI a) (zI t) M post := by
  have va := hv a ha
  have hin := z_in ha (show 8 < 2147483648 by decide)
  have et : (zI (t : Int)).toInt = t := z_of (by omega)
  unfold P_M_castTo B_M_castTo_34
  intro M1 e1
  have k1 : kH M M1 := by rw [e1]; exact kH_19 M 9 0 (by decide) (by decide) (by decide)
  have w1 : mg_I M1 19 9 = 0 := by rw [e1]; rfl
  have m1 := mv_O hc k1.1
  have ca : (zI (a : Int)).toNatClampNeg = a := z_cl (by omega)
  rw [ca]
  -- the end of exact ones
  have h170 : ∀ (u : Int) (s : Nat) (M' : nf_M), t < 8 → lim u → (∀ k c, fitOut t u s k c → cast1 t (rg a) k c) → kH M M' → mg_I M' 19 9 = 0 → mg_L M' 19 10 = zL u → mg_I M' 19 11 = zI s → B_M_castTo_170 post (zI t) M' := by
    intro u s M' h8 lu hc1 hk w eu es
    unfold B_M_castTo_170 B_M_castTo_193 B_M_castTo_197
    rw [w, eu]
    refine ⟨fun _ => s_M_fits h8 lu (fun q => ⟨fun z => absurd z (by decide), fun _ M2 e2 => ?_⟩) (fun q q2 => ⟨fun _ M2 e2 => ?_, fun z => absurd rfl z⟩), fun z => absurd rfl z⟩
    · refine h 0 _ (hc1 0 _ (Or.inr ⟨q, rfl, rfl⟩)) M2 ⟨?_, Or.inl ⟨rfl, by rw [e2]; exact w, fun v => ?_⟩⟩
      · rw [e2]; exact hk.tr (kH_19 M' 9 0 (by decide) (by decide) (by decide))
      · unfold sto
        rw [if_pos (by omega), e2]
        show (_, mg_L M' 19 10, mg_I M' 19 11, _) = _
        rw [eu, es]
    · refine h 5 (rg a) (hc1 5 _ (Or.inl ⟨q, q2, rfl⟩)) M2 ⟨?_, Or.inr (Or.inr (Or.inr ⟨rfl, by rw [e2]; rfl⟩))⟩
      rw [e2]; exact hk.tr (kH_19 M' 9 3 (by decide) (by decide) (by decide))
  -- faults
  have hbad : ∀ (w : Int32) (k : Nat) (M' : nf_M), kH M M' → mg_I M' 19 9 = w → ((w = 4 ∧ k = 3) ∨ (w = 5 ∧ k = 4)) → cast1 t (rg a) k (rg a) → B_M_castTo_170 post (zI t) M' := by
    intro w k M' hk ew hw hcst
    unfold B_M_castTo_170 B_M_castTo_193 B_M_castTo_197
    rw [ew]
    refine ⟨fun z => by rcases hw with ⟨q, -⟩ | ⟨q, -⟩ <;> rw [q] at z <;> exact absurd z (by decide), fun _ M2 e2 => h k _ hcst M2 ⟨?_, ?_⟩⟩
    · rw [e2]; exact hk.tr (kH_19 M' 9 w (by decide) (by decide) (by decide))
    · have e3 : mg_I M2 19 9 = w := by rw [e2]; rfl
      rcases hw with ⟨q, q2⟩ | ⟨q, q2⟩
      · exact Or.inr (Or.inl ⟨q2, by rw [e3, q]⟩)
      · exact Or.inr (Or.inr (Or.inl ⟨q2, by rw [e3, q]⟩))
  refine s_M_isExact (fun h8 => ⟨fun z => absurd z (by decide), fun _ => ⟨hin, ?_⟩⟩) (fun h8 => ⟨fun _ => ?_, fun z => absurd rfl z⟩)
  · have h8 : t < 8 := by omega
    by_cases hE : (rg a).1.toInt < 8
    · obtain ⟨ta, p, u, oa, eA⟩ := okV_X va fa hE
      have g := m1 a ha
      rw [eA] at g
      have g1 : mg_I M1 22 a = zI ta := congrArg (fun c : nf_V => c.1) g
      have g2 : mg_L M1 23 a = zL u := congrArg (fun c : nf_V => c.2.1) g
      have g3 : mg_I M1 24 a = zI p := congrArg (fun c : nf_V => c.2.2.1) g
      have ta8 := oa.1
      have eta : (zI (ta : Int)).toInt = ta := z_of (by omega)
      have lu : lim u := ⟨oa.2.1, oa.2.2.1⟩
      have lu1 := lu.1
      have lu2 := lu.2
      have mk : ∀ k c, fitOut t (if t = 0 then u else u.tdiv (10 ^ p : Nat)) (if t = 0 then p else 0) k c → cast1 t (rg a) k c := fun k c q => Or.inr (Or.inr (Or.inl ⟨h8, ta, p, u, oa, eA, q⟩))
      have hp := oa.2.2.2.1
      obtain ⟨P1, P2⟩ := pow6 hp
      rw [g1]
      refine s_M_isExact (fun _ => ⟨fun z => absurd z (by decide), fun _ => ?_⟩) (fun z => absurd (by omega) z)
      rw [z0' (by omega), g2, g3]
      unfold B_M_castTo_80 B_M_castTo_98
      rw [ca, z0' (by omega)]
      refine ⟨fun z => ⟨hin, fun M2 e2 => ⟨fun _ => ⟨hin, fun M3 e3 => ?_⟩, fun q => absurd z q⟩⟩, fun z => ⟨hin, hin, s_M_power (by omega) ⟨pw_ne (by omega), fun M2 e2 => ⟨fun q => absurd q z, fun _ M3 e3 => ?_⟩⟩⟩⟩
      · rw [if_pos z, if_pos z] at mk
        have e4 : mg_I M2 24 a = zI p := by rw [e2]; exact g3
        rw [e4] at e3
        refine h170 u p M3 h8 lu mk ?_ (by rw [e3, e2]; exact w1) (by rw [e3, e2]; rfl) (by rw [e3]; rfl)
        rw [e3, e2]
        exact k1.tr ((kH_L M1 10 _).tr (kH_19 _ 11 _ (by decide) (by decide) (by decide)))
      · rw [if_neg z, if_neg z] at mk
        rw [lN_z, zL_div (by omega) (by omega) (by omega) (by omega)] at e2
        refine h170 _ 0 M3 h8 (tdiv_b lu hp) mk ?_ (by rw [e3, e2]; exact w1) (by rw [e3, e2]; rfl) (by rw [e3]; rfl)
        rw [e3, e2]
        exact k1.tr ((kH_L M1 10 _).tr (kH_19 _ 11 _ (by decide) (by decide) (by decide)))
    · obtain ⟨ta, x, hta, hx, eA⟩ := okV_F va (by omega)
      have g := m1 a ha
      rw [eA] at g
      have g1 : mg_I M1 22 a = zI ta := congrArg (fun c : nf_V => c.1) g
      have g2 : mg_D M1 25 a = x := congrArg (fun c : nf_V => c.2.2.2) g
      have eta : (zI (ta : Int)).toInt = ta := z_of (by omega)
      have mk : ∀ k c, ((isInf x ∧ k = 3) ∨ (¬ isInf x ∧ ¬ lo15 x ∧ k = 4) ∨ (¬ isInf x ∧ lo15 x ∧ ¬ (t = 0 ∧ ((zv x).natAbs : Int) < zv m9) ∧ ∃ u : Int, FP.d2l x = zL u ∧ lim u ∧ fitOut t u 0 k c) ∨ (¬ isInf x ∧ lo15 x ∧ t = 0 ∧ ((zv x).natAbs : Int) < zv m9 ∧ ∃ n : Nat, ev (mll (dab x)) n ∧ ((¬ (dz 6 n).1 < 1000000000000000 ∧ k = 4) ∨ ((dz 6 n).1 < 1000000000000000 ∧ k = 0 ∧ c = (0, zL (sgd (decide (zv x < 0)) (dz 6 n).1), zI (dz 6 n).2, 0))))) → cast1 t (rg a) k c := fun k c q => Or.inr (Or.inr (Or.inr ⟨h8, ta, x, hta, hx, eA, q⟩))
      rw [g1]
      refine s_M_isExact (fun z => absurd z (by omega)) (fun _ => ⟨fun _ => ⟨hin, ?_⟩, fun z => absurd rfl z⟩)
      rw [g2]
      refine s_M_wholePart hx (fun i => ⟨fun z => absurd z (show ¬ (4 : Int32) = 0 by decide), fun _ => ?_⟩) (fun i l => ⟨fun z => absurd z (show ¬ (5 : Int32) = 0 by decide), fun _ => ?_⟩) (fun i l => ⟨fun _ => ?_, fun z => absurd w1 z⟩)
      · exact hbad 4 3 _ (k1.tr (kH_19 M1 9 4 (by decide) (by decide) (by decide))) rfl (Or.inl ⟨rfl, rfl⟩) (mk 3 _ (Or.inl ⟨i, rfl⟩))
      · exact hbad 5 4 _ (k1.tr (kH_19 M1 9 5 (by decide) (by decide) (by decide))) rfl (Or.inr ⟨rfl, rfl⟩) (mk 4 _ (Or.inr (Or.inl ⟨i, l, rfl⟩)))
      · obtain ⟨u, u1, u2, eu⟩ := d2l_lim hx l
        rw [eu]
        have k2 : kH M (ms_I (ms_L M1 19 10 (zL u)) 19 11 0) := k1.tr ((kH_L M1 10 _).tr (kH_19 _ 11 _ (by decide) (by decide) (by decide)))
        have hsmall : ¬ (t = 0 ∧ ((zv x).natAbs : Int) < zv m9) → B_M_castTo_170 post (zI t) (ms_I (ms_L M1 19 10 (zL u)) 19 11 0) := fun q =>
          h170 u 0 _ h8 ⟨u1, u2⟩ (fun k c hf => mk k c (Or.inr (Or.inr (Or.inl ⟨i, l, q, u, eu, ⟨u1, u2⟩, hf⟩)))) k2 w1 rfl rfl
        have g3 : mg_D (ms_I (ms_L M1 19 10 (zL u)) 19 11 0) 25 a = x := g2
        rw [g3, z0' (by omega)]
        have e9 : (4741671816366391296 : UInt64) = m9 := rfl
        have e9n : okD 13965043853221167104 ∧ zv 13965043853221167104 = -zv m9 := ⟨by decide +kernel, by decide +kernel⟩
        have e6' : (4696837146684686336 : UInt64) = m6 := rfl
        rw [e9, dlt_z hx m9_z.1, dgt_z hx e9n.1, e9n.2, e6']
        refine ⟨fun z => ⟨hin, fun q1 => ⟨hin, fun q2 => ⟨hin, ?_⟩, fun q2 => hsmall (by omega)⟩, fun q1 => hsmall (by omega)⟩, fun z => hsmall (fun q => z q.1)⟩
        have hl : ((zv x).natAbs : Int) < zv m9 := by omega
        obtain ⟨b1, b2, b3, b4, b5, b6⟩ := mll_b hx hl
        have hw3 : wq (mll x) < 2 ^ 52 := by omega
        refine ⟨(n64 _).mpr b1, s_M_even b1 hw3 (fun n hn => ?_)⟩
        have hw : wq (mll (dab x)) ≤ 1000000000000000 := by
          have : wq (mll (dab x)) = wq (mll x) := by unfold wq; rw [b3]; rfl
          omega
        have hfl : flo (mll (dab x)) = (wq (mll (dab x)) : Int) := by unfold flo; rw [if_neg (by omega)]
        obtain ⟨n', hn'⟩ : ∃ n : Nat, ev (mll (dab x)) n := by
          by_cases u : upc 5 (rsE (mll (dab x))) (flo (mll (dab x)))
          · exact ⟨wq (mll (dab x)) + 1, Or.inl ⟨u, by rw [hfl]; rfl⟩⟩
          · exact ⟨wq (mll (dab x)), Or.inr ⟨u, by rw [hfl]⟩⟩
        have hnb : n' ≤ 1000000000000001 := by
          unfold ev at hn'
          omega
        have e0 := ev_neg b3 hn hn'
        have enat : n.natAbs = n' := by split at e0 <;> omega
        refine s_M_keep (by split at e0 <;> omega) (by decide) w1 (fun M' hr => ?_)
        rw [enat] at hr
        have hdz := dz_le 6 n'
        obtain ⟨hk, ⟨hl2, e9, eu', es'⟩ | ⟨hl2, e9⟩⟩ := hr
        · have hcst := mk 0 _ (Or.inr (Or.inr (Or.inr ⟨i, l, z, hl, n', hn', Or.inr ⟨hl2, rfl, rfl⟩⟩)))
          have esg : zL (sgd (decide (n < 0)) (dz 6 n').1) = zL (sgd (decide (zv x < 0)) (dz 6 n').1) := by
            by_cases hz : (dz 6 n').1 = 0
            · rw [hz]
              unfold sgd
              split <;> split <;> rfl
            · have hn0 : n' ≠ 0 := fun q => by
                rw [q] at hz
                exact hz (by decide)
              have hmz : zv (mll x) = 0 → n' = 0 := fun q => by
                have b3' : zv (mll (dab x)) = 0 := by rw [b3, q]; rfl
                have w0 : wq (mll (dab x)) = 0 := by unfold wq; rw [b3', Int.natAbs_zero, Nat.zero_div]
                have f0 : fq (mll (dab x)) = 0 := by unfold fq; rw [b3', Int.natAbs_zero, Nat.zero_mod]
                have r0 : rsE (mll (dab x)) = 0 := by unfold rsE; rw [if_neg (by omega), f0]; rfl
                unfold ev at hn'
                rw [r0, hfl, w0] at hn'
                rcases hn' with ⟨a1, a2⟩ | ⟨a1, a2⟩
                · exact absurd a1 upc_0
                · omega
              have : (n < 0) = (zv x < 0) := by
                refine propext ⟨fun q => b6 ?_, fun q => ?_⟩
                · refine Int.lt_of_not_ge fun q2 => ?_
                  rw [if_neg (by omega)] at e0
                  omega
                · have hneg : zv (mll x) < 0 := by
                    refine Int.lt_of_not_ge fun q2 => ?_
                    by_cases q3 : zv (mll x) = 0
                    · exact hn0 (hmz q3)
                    · have := b5 (by omega)
                      omega
                  rw [if_pos hneg] at e0
                  omega
              simp only [this]
          unfold B_M_castTo_170 B_M_castTo_193 B_M_castTo_197
          subst z
          rw [e9, eu', esg]
          refine ⟨fun _ => s_M_fits (by decide) ?_ (fun _ => ⟨fun z => absurd z (by decide), fun _ M2 e2 => ?_⟩) (fun q => absurd q (by decide)), fun z => absurd rfl z⟩
          · have hw6 := hl2
            generalize (dz 6 n').1 = w6 at hw6 ⊢
            unfold sgd
            show -1000000000000000 < _ ∧ _ < 1000000000000000
            split <;> omega
          · refine h 0 _ hcst M2 ⟨?_, Or.inl ⟨rfl, by rw [e2]; exact e9, fun v => ?_⟩⟩
            · rw [e2]; exact k2.tr (hk.tr (kH_19 M' 9 0 (by decide) (by decide) (by decide)))
            · unfold sto
              rw [if_pos (by decide), e2]
              show (_, mg_L M' 19 10, mg_I M' 19 11, _) = _
              rw [eu', es', esg]
              rfl
        · have hcst := mk 4 (rg a) (Or.inr (Or.inr (Or.inr ⟨i, l, z, hl, n', hn', Or.inl ⟨hl2, rfl⟩⟩)))
          exact hbad 5 4 _ (k2.tr hk) e9 (Or.inr ⟨rfl, rfl⟩) hcst
  · have h89 : t = 8 ∨ t = 9 := by omega
    rw [zeqI 8 8 (by decide) (by omega) (by omega)]
    refine ⟨fun z => s_M_asDouble ha (m1 a ha) va fa ⟨d2f_n (dbl_ok va fa), sng_n (dbl_ok va fa), fun M2 e2 => ?_⟩, fun z => s_M_asDouble ha (m1 a ha) va fa (fun M2 e2 => ?_)⟩
    · refine h 0 _ (Or.inr (Or.inl ⟨z, rfl, rfl⟩)) M2 ⟨by rw [e2]; exact k1.tr (kH_D M1 12 _), Or.inl ⟨rfl, by rw [e2]; exact w1, fun v => ?_⟩⟩
      unfold sto
      rw [if_neg (by omega), e2, z]
      rfl
    · have : t = 9 := by omega
      refine h 0 _ (Or.inl ⟨this, rfl, rfl⟩) M2 ⟨by rw [e2]; exact k1.tr (kH_D M1 12 _), Or.inl ⟨rfl, by rw [e2]; exact w1, fun v => ?_⟩⟩
      unfold sto
      rw [if_neg (by omega), e2, this]
      rfl
