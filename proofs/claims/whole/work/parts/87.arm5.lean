/-! one -/
theorem isF_neg {x : UInt64} (h : isF x) : isF (FP.dneg x) := by
  obtain ⟨X, hX, e⟩ := h
  have hS : okS X := (n32 _).mp hX
  have hn := okS_val.mp hS
  have hS2 : okS (FP.Core.fneg X) := by
    rw [okS_val, FP.Core.val32_fneg]
    exact FP.Core.negate_ne_nan hn
  refine ⟨FP.Core.fneg X, (n32 _).mpr hS2, ?_⟩
  have ok1 : okD (FP.dneg x) := (FP.dneg_nan x).trans (by rw [e]; exact okS_D hS)
  refine FP.Core.val64_inj (okD_val.mp ok1) ?_
  rw [FP.val64_dneg, e, f2d_v hS, f2d_v hS2, FP.Core.val32_fneg, FP.Core.negate_round]
theorem isF_0 : isF 0 ∧ isF 9223372036854775808 := ⟨⟨0, (n32 _).mpr (by decide +kernel), by decide +kernel⟩, ⟨2147483648, (n32 _).mpr (by decide +kernel), by decide +kernel⟩⟩
theorem isF_int {n : Int} (h : n.natAbs ≤ 2 ^ 24) : isF (FP.l2d (zL n)) := by
  have e := zL_ti (z := n) (by omega) (by omega)
  have hS : okS (FP.Core.l2f (zL n)) := FP.Core.l2f_notNaN _
  refine ⟨FP.Core.l2f (zL n), (n32 _).mpr hS, ?_⟩
  rw [FP.f2d_core (a := FP.Core.l2f (zL n)) hS]
  exact (FP.Core.f2d_l2f (by rw [e]; exact h)).symm
theorem one1_ok {op : Nat} {x D : UInt64} (hx : okD x) (h : one1 op x D) : okD D ∧ (isF x → isF D) := by
  rcases h with ⟨-, e⟩ | ⟨-, e⟩ | ⟨-, -, e⟩ | ⟨-, hz, hw, g⟩
  · rw [e]
    exact ⟨(FP.dneg_nan x).trans hx, isF_neg⟩
  · rw [e]
    refine ⟨(dab_ok hx).1, fun hF => ?_⟩
    unfold dab
    split
    · by_cases h0 : x = 0
      · subst h0
        have : FP.Core.dsub (0 : UInt64) 0 = 0 := by decide +kernel
        rw [this]
        exact isF_0.1
      · rw [dsub0 hx h0]
        exact isF_neg hF
    · exact hF
  · rw [e]
    exact ⟨hx, fun q => q⟩
  · refine ⟨g.1, fun hF => ?_⟩
    by_cases h23 : 2 ^ 23 ≤ wq x
    · rw [good_1 g (good_self hx (isF_whole hF h23 hw) hz)]
      exact hF
    · obtain ⟨hD, n, hn, en, e0⟩ := g
      by_cases h0 : n = 0
      · rw [e0 h0]
        split
        · exact isF_0.2
        · exact isF_0.1
      · have hfl : (flo x).natAbs ≤ 2 ^ 23 := by
          unfold flo
          split
          · split <;> omega
          · omega
        have hb : n.natAbs ≤ 2 ^ 24 := by omega
        obtain ⟨l1, l2⟩ := l2d_z (n := n) (by omega)
        have : D = FP.l2d (zL n) := d_ext hD l1.notNaN (en.trans l2.symm) (fun q => by
          rw [l2] at q
          rcases Int.mul_eq_zero.mp q with q | q
          · exact absurd q h0
          · have := O1_pos
            omega)
        rw [this]
        exact isF_int hb
theorem e1g_ok {op p t : Nat} {a n : Int} (hop : op < 6) (oa : okE t a p) (h : e1g op a p n) : okE (if t = 0 then 0 else 1) n (if op < 2 then p else 0) := by
  obtain ⟨c1, c2, c3, c4, c5, c6⟩ := oa
  have ht : (if t = 0 then 0 else 1) < 8 := by split <;> omega
  rcases h with ⟨e, en⟩ | ⟨e, en⟩ | ⟨e, h⟩
  · rw [if_pos (show op < 2 by omega)]
    exact ⟨ht, by omega, by omega, c4, by omega, fun q => c6 (by split at q <;> omega)⟩
  · rw [if_pos (show op < 2 by omega)]
    exact ⟨ht, by omega, by omega, c4, by omega, fun q => c6 (by split at q <;> omega)⟩
  · rw [if_neg (show ¬ op < 2 by omega)]
    obtain ⟨P1, P2⟩ := pow6 c4
    obtain ⟨f1, f2, f3⟩ := fr_ab (a := a) (P := ((10 ^ p : Nat) : Int)) (by omega)
    have f4 := fr_le (a := a) (P := ((10 ^ p : Nat) : Int)) (by omega)
    refine ⟨ht, ?_, ?_, by omega, Or.inl rfl, fun _ => rfl⟩
    · omega
    · rcases h with ⟨u, en⟩ | ⟨u, en⟩
      · have hr : 0 < a % ((10 ^ p : Nat) : Int) := by
          unfold upe at u
          split at u
          · exact u
          · exact u.1
          · exact u.1
          · exact u.elim
        generalize a / ((10 ^ p : Nat) : Int) = f at *
        generalize a % ((10 ^ p : Nat) : Int) = r at *
        by_cases hf : 0 ≤ f
        · have := Int.mul_le_mul_of_nonneg_left (show (1 : Int) ≤ ((10 ^ p : Nat) : Int) by omega) hf
          rw [Int.mul_one] at this
          omega
        · omega
      · omega
def one2 (op : Nat) (A c : nf_V) : Prop :=
  (∃ (t p : Nat) (a n : Int), okE t a p ∧ A = (zI t, zL a, zI p, 0) ∧ e1g op a p n ∧ c = (zI (if t = 0 then 0 else 1 : Nat), zL n, zI (if op < 2 then p else 0 : Nat), 0)) ∨
  (∃ (t : Nat) (x D : UInt64), (t = 9 ∨ (t = 8 ∧ isF x)) ∧ okD x ∧ A = (zI t, 0, 0, x) ∧ one1 op x D ∧ c = (zI t, 0, 0, D))
theorem one2_1 {op : Nat} {A c c' : nf_V} (h : one2 op A c) (h' : one2 op A c') : c = c' := by
  rcases h with ⟨t, p, a, n, oa, eA, hn, ec⟩ | ⟨t, x, D, ht, hx, eA, hD, ec⟩ <;> rcases h' with ⟨t', p', a', n', oa', eA', hn', ec'⟩ | ⟨t', x', D', ht', hx', eA', hD', ec'⟩
  · obtain ⟨c1, c2, c3, c4, c5, c6⟩ := oa
    obtain ⟨d1, d2, d3, d4, d5, d6⟩ := oa'
    have e1 := eA.symm.trans eA'
    injection e1 with x1 x2
    injection x2 with x2 x3
    injection x3 with x3 x4
    rw [zeq (by omega) (by omega)] at x1 x3
    rw [zL_eq (by omega) (by omega) (by omega) (by omega)] at x2
    subst x1 x2 x3
    rw [ec, ec', e1g_1 hn hn']
  · exfalso
    have e1 := eA.symm.trans eA'
    injection e1 with x1 x2
    have := oa.1
    rw [zeq (by omega) (by omega)] at x1
    omega
  · exfalso
    have e1 := eA.symm.trans eA'
    injection e1 with x1 x2
    have := oa'.1
    rw [zeq (by omega) (by omega)] at x1
    omega
  · have e1 := eA.symm.trans eA'
    injection e1 with x1 x2
    injection x2 with x2 x3
    injection x3 with x3 x4
    rw [zeq (by omega) (by omega)] at x1
    subst x1 x4
    rw [ec, ec', one1_1 hD hD']
theorem one2_ok {op : Nat} {A c : nf_V} (hop : op < 6) (h : one2 op A c) : okV c := by
  rcases h with ⟨t, p, a, n, oa, eA, hn, ec⟩ | ⟨t, x, D, ht, hx, eA, hD, ec⟩
  · exact Or.inr (Or.inl ⟨_, _, _, e1g_ok hop oa hn, ec⟩)
  · obtain ⟨o1, o2⟩ := one1_ok hx hD
    refine Or.inr (Or.inr ⟨D, (n64 _).mpr o1, ?_⟩)
    rcases ht with rfl | ⟨rfl, hF⟩
    · exact Or.inl ec
    · exact Or.inr ⟨ec, o2 hF⟩
theorem flt_F {t : Nat} {D : UInt64} (ht : t = 9 ∨ (t = 8 ∧ isF D)) : flt t D = (zI t, 0, 0, D) := by
  unfold flt
  rcases ht with rfl | ⟨rfl, X, hX, e⟩
  · rw [if_neg (by decide)]
  · rw [if_pos rfl, e, df ((n32 _).mp hX)]
    rfl
/-- a floating content -/
theorem okV_F {c : nf_V} (hv : okV c) (h : 8 ≤ c.1.toInt) : ∃ (t : Nat) (x : UInt64), (t = 9 ∨ (t = 8 ∧ isF x)) ∧ okD x ∧ c = (zI t, 0, 0, x) := by
  rcases hv with e | ⟨t, u, s, o, e⟩ | ⟨x, hx, e | ⟨e, hF⟩⟩
  · rw [e] at h
    exact absurd h (by decide)
  · have := o.1
    rw [e] at h
    have h2 : (zI (t : Int)).toInt = t := z_of (by omega)
    change 8 ≤ (zI (t : Int)).toInt at h
    omega
  · exact ⟨9, x, Or.inl rfl, (n64 _).mp hx, e⟩
  · exact ⟨8, x, Or.inr ⟨rfl, hF⟩, (n64 _).mp hx, e⟩
theorem okV_X {c : nf_V} (hv : okV c) (h0 : 0 ≤ c.1.toInt) (h : c.1.toInt < 8) : ∃ (t p : Nat) (a : Int), okE t a p ∧ c = (zI t, zL a, zI p, 0) := by
  rcases hv with e | ⟨t, u, s, o, e⟩ | ⟨x, hx, e | ⟨e, hF⟩⟩
  · rw [e] at h0
    exact absurd h0 (by decide)
  · exact ⟨t, s, u, o, e⟩
  · rw [e] at h
    exact absurd (show (9 : Int32).toInt < 8 from h) (by decide)
  · rw [e] at h
    exact absurd (show (8 : Int32).toInt < 8 from h) (by decide)
theorem s_F_one {x1 x2 x3 : Int32} {M : nf_M} {rg : Nat → nf_V} {post : Unit → nf_M → Prop} {ex : Nat → nf_M → Prop} (hc : cv M rg) (hv : okR rg) (h0 : ¬ inR x2 ∨ ¬ inR x3 ∨ ¬ (0 ≤ x1.toInt ∧ x1.toInt < 6) → ex 0 M) (h2 : ∀ op a r : Nat, op < 6 → a < 8 → r < 8 → x1 = zI op → x2 = zI a → x3 = zI r → (rg a).1.toInt = -1 → ex 2 M) (h1 : ∀ op a r : Nat, op < 6 → a < 8 → r < 8 → x1 = zI op → x2 = zI a → x3 = zI r → 0 ≤ (rg a).1.toInt → ∀ c, one2 op (rg a) c → ∀ M', kC r c M M' → post () M') : P_F_one x1 x2 x3 M post ex := by
  unfold P_F_one B_F_one_64
  rw [show (6 : Int32) = zI (6 : Nat) by decide]
  refine s_F_register (fun r hr er => s_F_register (fun a ha ea => s_F_checkIndex (by decide) (fun op hop eo => s_F_checkFull (hc a ha) (hv a ha) (fun fa => ?_) (fun z => h2 op a r hop ha hr eo ea er z)) (fun z => h0 (Or.inr (Or.inr z)))) (fun z => h0 (Or.inl z))) (fun z => h0 (Or.inr (Or.inl z)))
  have h := h1 op a r hop ha hr eo ea er fa
  have va := hv a ha
  subst eo
  refine s_V_isFloating (hc a ha) (fun z => ⟨fun q => absurd q (by decide), fun _ => ?_⟩) (fun z => ⟨fun _ => ?_, fun q => absurd rfl q⟩)
  · obtain ⟨t, x, ht, hx, eA⟩ := okV_F va z
    have er : mg_R M (rgn a) = x := by
      have := congrArg (fun c : nf_V => c.2.2.2) (hc a ha)
      rw [eA] at this
      exact this
    have et : mg_T M (rgn a) = zI t := by
      have := congrArg (fun c : nf_V => c.1) (hc a ha)
      rw [eA] at this
      exact this
    rw [er]
    refine s_F_floatingOne hop hx (fun D hD => ?_)
    obtain ⟨o1, o2⟩ := one1_ok hx hD
    rw [et]
    have ht2 : t = 9 ∨ (t = 8 ∧ isF D) := by
      rcases ht with q | ⟨q, q2⟩
      · exact Or.inl q
      · exact Or.inr ⟨q, o2 q2⟩
    refine s_V_becomeFloating (by omega) o1 (fun M' hk => ?_)
    rw [flt_F ht2] at hk
    exact fin_C hr ⟨M, kD.rf M, hk⟩ (h _ (Or.inr ⟨t, x, D, ht, hx, eA, hD, rfl⟩))
  · obtain ⟨t, p, u, oa, eA⟩ := okV_X va fa z
    have et : mg_T M (rgn a) = zI t := by
      have := congrArg (fun c : nf_V => c.1) (hc a ha)
      rw [eA] at this
      exact this
    refine s_F_exactOne hop oa.2.2.2.1 ⟨oa.2.1, oa.2.2.1⟩ oa.1 (cv_at hc ha eA) et (fun n hn M' hk => ?_)
    exact fin_C hr hk (h _ (Or.inl ⟨t, p, u, n, oa, eA, hn, rfl⟩))
theorem s_M_one {x1 x2 x3 : Int32} {M : nf_M} {rg : Nat → nf_V} {post : Unit → nf_M → Prop} (hc : mv M rg) (hv : okR rg) (h0 : ¬ inR x2 ∨ ¬ inR x3 ∨ ¬ (0 ≤ x1.toInt ∧ x1.toInt < 6) → ∀ M', kO M M' → mg_I M' 19 0 = 1 → post () M') (h2 : ∀ op a r : Nat, op < 6 → a < 8 → r < 8 → x1 = zI op → x2 = zI a → x3 = zI r → (rg a).1.toInt = -1 → ∀ M', kO M M' → mg_I M' 19 0 = 2 → post () M') (h1 : ∀ op a r : Nat, op < 6 → a < 8 → r < 8 → x1 = zI op → x2 = zI a → x3 = zI r → 0 ≤ (rg a).1.toInt → ∀ c, one2 op (rg a) c → ∀ M', kN r c M M' → mg_I M' 19 0 = 0 → post () M') : P_M_one x1 x2 x3 M post := by
  have hthr : ∀ v : Int32, 0 < v → (∀ M', kO M M' → mg_I M' 19 0 = v → post () M') → B_M_one_42 post x1 x2 x3 v M := fun v hv0 hp => by
    unfold B_M_one_42
    intro M1 e1
    have e6 : mg_I M1 19 0 = v := by rw [e1]; rfl
    rw [e6]
    exact ⟨fun _ => hp M1 (by rw [e1]; exact kO_19 M 0 v (by decide) (by decide)) e6, fun z => absurd hv0 z⟩
  have h24 : (¬ inR x2 ∨ ¬ inR x3 ∨ ¬ (0 ≤ x1.toInt ∧ x1.toInt < 6)) → B_M_one_24 post x1 x2 x3 M := fun z => by
    unfold B_M_one_24
    exact hthr 1 (by decide) (h0 z)
  unfold P_M_one
  refine s_M_isRegister (fun ra => ⟨fun z => absurd z (by decide), fun _ => s_M_isRegister (fun rr => ⟨fun z => absurd z (by decide), fun _ => ?_⟩) (fun z => ⟨fun _ => h24 (Or.inr (Or.inl z)), fun q => absurd rfl q⟩)⟩) (fun z => ⟨fun _ => h24 (Or.inl z), fun q => absurd rfl q⟩)
  obtain ⟨a, ha, ea, -, ca⟩ := rg_n ra
  obtain ⟨r, hr, er, -, -⟩ := rg_n rr
  have t5 : (5 : Int32).toInt = 5 := by decide
  have ta : mg_I M 22 a = (rg a).1 := congrArg (fun c : nf_V => c.1) (hc a ha)
  have va := hv a ha
  have qa := ty9 va
  rw [i32_lt, i32_lt, t0, t5, ca, ta, i32_lt, t0]
  refine ⟨fun z => h24 (Or.inr (Or.inr (by omega))), fun z1 => ⟨fun z => h24 (Or.inr (Or.inr (by omega))), fun z2 => ?_⟩⟩
  obtain ⟨op, hop, eo⟩ : ∃ op : Nat, op < 6 ∧ x1 = zI op := ⟨x1.toInt.toNat, by omega, by rw [Int.toNat_of_nonneg (by omega), zI_to]⟩
  refine ⟨vp_in_iff.mpr ra, fun z => hthr 2 (by decide) (h2 op a r hop ha hr eo ea er (by omega)), fun za => ?_⟩
  have fa : 0 ≤ (rg a).1.toInt := by omega
  have h := h1 op a r hop ha hr eo ea er fa
  subst eo ea er
  unfold B_M_one_42
  intro M1 e1
  have e6 : mg_I M1 19 0 = 0 := by rw [e1]; rfl
  have k1 : kO M M1 := by rw [e1]; exact kO_19 M 0 0 (by decide) (by decide)
  have m1 : mv M1 rg := fun i hi => (k1.2 i hi).trans (hc i hi)
  have hin := z_in ha (show 8 < 2147483648 by decide)
  rw [e6, z_cl (by omega)]
  refine ⟨fun z => absurd z (by decide), fun _ => ⟨hin, fun t3 e3 => ?_⟩⟩
  rw [show mg_I M1 22 a = (rg a).1 from congrArg (fun c : nf_V => c.1) (m1 a ha)] at e3
  have hst : ∀ (t : Nat) (M2 : nf_M), kO M M2 → mg_I M2 19 0 = 0 → one2 op (rg a) (sto M2 (zI t)) → P_M_store (zI r) (zI t) M2 (fun _ M3 => post () M3) := fun t M2 k2 n2 hone =>
    s_M_store hr (fun M' hk h19 => h _ hone M' (k2.N hk) (h19.trans n2))
  by_cases hE : (rg a).1.toInt < 8
  · obtain ⟨t, p, u, oa, eA⟩ := okV_X va fa hE
    have ht : t < 8 := oa.1
    have e3' : t3 = zI t := by rw [e3, eA]
    have et : (zI (t : Int)).toInt = t := z_of (by omega)
    have eu : mg_L M1 23 a = zL u := by
      have := congrArg (fun c : nf_V => c.2.1) (m1 a ha)
      rw [eA] at this
      exact this
    have es : mg_I M1 24 a = zI p := by
      have := congrArg (fun c : nf_V => c.2.2.1) (m1 a ha)
      rw [eA] at this
      exact this
    rw [e3']
    refine s_M_isExact (fun _ => ⟨fun z => absurd z (by decide), fun _ => ⟨hin, hin, ?_⟩⟩) (fun z => absurd (by omega) z)
    rw [eu, es]
    refine s_M_oneExact hop oa.2.2.2.1 ⟨oa.2.1, oa.2.2.1⟩ (fun n hn => ?_)
    unfold B_M_one_116 B_M_one_136 B_M_one_138
    have k2 : kO M (ms_I (ms_L M1 19 10 (zL n)) 19 11 (zI (if op < 2 then p else 0 : Nat))) := k1.tr ((kO_L M1 10 _).tr (kO_19 _ 11 _ (by decide) (by decide)))
    have hone : ∀ t' : Nat, t' = (if t = 0 then 0 else 1) → one2 op (rg a) (sto (ms_I (ms_L M1 19 10 (zL n)) 19 11 (zI (if op < 2 then p else 0 : Nat))) (zI t')) := fun t' et' => by
      have h8 : t' < 8 := by rw [et']; split <;> omega
      refine Or.inl ⟨t, p, u, n, oa, eA, hn, ?_⟩
      unfold sto
      rw [z_of (by omega), if_pos (by omega), ← et']
      rfl
    refine s_M_isExact (fun _ => ⟨fun z => absurd z (by decide), fun _ => ⟨fun z => ?_, fun z => ?_⟩⟩) (fun z => absurd (by omega) z)
    · rw [show (1 : Int32) = zI (1 : Nat) by decide, zlt (by omega) (by omega)] at z
      rw [show (1 : Int32) = zI (1 : Nat) by decide]
      exact hst 1 _ k2 e6 (hone 1 (by rw [if_neg (by omega)]))
    · rw [show (1 : Int32) = zI (1 : Nat) by decide, zlt (by omega) (by omega)] at z
      exact hst t _ k2 e6 (hone t (by split <;> omega))
  · obtain ⟨t, x, ht, hx, eA⟩ := okV_F va (by omega)
    have e3' : t3 = zI t := by rw [e3, eA]
    have et : (zI (t : Int)).toInt = t := z_of (by omega)
    have ed : mg_D M1 25 a = x := by
      have := congrArg (fun c : nf_V => c.2.2.2) (m1 a ha)
      rw [eA] at this
      exact this
    rw [e3']
    refine s_M_isExact (fun z => absurd z (by omega)) (fun _ => ⟨fun _ => ⟨hin, ?_⟩, fun z => absurd rfl z⟩)
    rw [ed, zeqI 8 8 (by decide) (by omega) (by omega)]
    have h116 : ∀ D, one1 op x D → B_M_one_116 post (zI r) (zI t) (ms_D M1 19 12 D) := fun D hD => by
      unfold B_M_one_116 B_M_one_136 B_M_one_138
      refine s_M_isExact (fun z => absurd z (by omega)) (fun _ => ⟨fun _ => hst t _ (k1.tr (kO_D M1 12 D)) e6 (Or.inr ⟨t, x, D, ht, hx, eA, hD, ?_⟩), fun z => absurd rfl z⟩)
      unfold sto
      rw [if_neg (by omega)]
      rfl
    unfold B_M_one_113
    refine ⟨fun z => s_M_oneReal hop hx (Or.inr ⟨rfl, ?_⟩) h116, fun z => s_M_oneReal hop hx (Or.inl rfl) h116⟩
    rcases ht with q | ⟨q, q2⟩
    · omega
    · exact q2
theorem nf_arm5 (x1 x2 x3 : Int32) (M : nf_M) (h : iv_I M) : P_arm5 x1 x2 x3 M iv_I := by
  obtain ⟨n, tx, m, ou, rg, hI⟩ := h
  show P_L_one x1 x2 x3 M (fun r1 M2 => P_M_one x1 x2 x3 M2 (fun _ M4 => endV r1 M4))
  have hv := iv_ok hI
  unfold P_L_one
  refine s_F_one (iv_cv hI) hv (fun z => c_0 0 rfl ?_) (fun op a r hop ha hr eo ea er z => c_0 1 rfl ?_) (fun op a r hop ha hr eo ea er fa c hone M1 k1 => ?_)
  · rw [nI_z]
    refine s_M_one (iv_mv hI) hv (fun _ M' hk e => endV_ok ⟨n, tx, m, ou, rg, iv_no hI (kD.rf M) hk⟩ (e.trans (by decide))) (fun op a r hop ha hr eo ea er _ => ?_) (fun op a r hop ha hr eo ea er _ => ?_)
    · exfalso
      rcases z with z | z | z
      · exact z (by rw [ea]; exact in_z ha)
      · exact z (by rw [er]; exact in_z hr)
      · exact z (zin hop (by decide) eo)
    · exfalso
      rcases z with z | z | z
      · exact z (by rw [ea]; exact in_z ha)
      · exact z (by rw [er]; exact in_z hr)
      · exact z (zin hop (by decide) eo)
  · rw [nI_z]
    refine s_M_one (iv_mv hI) hv (fun z2 => ?_) (fun op' a' r' hop' ha' hr' eo' ea' er' _ M' hk e => endV_ok ⟨n, tx, m, ou, rg, iv_no hI (kD.rf M) hk⟩ (e.trans (by decide))) (fun op' a' r' hop' ha' hr' eo' ea' er' fa => ?_)
    · exfalso
      rcases z2 with z | z | z
      · exact z (by rw [ea]; exact in_z ha)
      · exact z (by rw [er]; exact in_z hr)
      · exact z (zin hop (by decide) eo)
    · have q1 := z_inj ha ha' ea ea'
      subst q1
      omega
  · have hok := one2_ok hop hone
    refine s_M_one (fun i hi => (kF_rg k1.1 i).trans (iv_mv hI i hi)) hv (fun z2 => ?_) (fun op' a' r' hop' ha' hr' eo' ea' er' z2 => ?_) (fun op' a' r' hop' ha' hr' eo' ea' er' fa c' hone' M' hk e => ?_)
    · exfalso
      rcases z2 with z | z | z
      · exact z (by rw [ea]; exact in_z ha)
      · exact z (by rw [er]; exact in_z hr)
      · exact z (zin hop (by decide) eo)
    · have q1 := z_inj ha ha' ea ea'
      subst q1
      omega
    · have q1 := z_inj ha ha' ea ea'
      have q3 := zinj (by omega) (by omega) eo eo'
      have q5 := z_inj hr hr' er er'
      subst q1 q3 q5
      rw [← one2_1 hone hone'] at hk
      exact endV_ok ⟨n, tx, m, ou, _, iv_set hI hok k1 hk⟩ e
