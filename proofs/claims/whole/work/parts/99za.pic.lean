/-! picture: the reference's call -/
theorem kH_U2 {M M' : nf_M} (h : kH M M') : kU2 M M' := ⟨h.1.1.1, h.1.1.2.1, h.1.1.2.2.2.1, h.1.1.2.2.2.2.2, h.1.2⟩
theorem kH_17 {M M' : nf_M} (h : kH M M') : mg_I M' 19 17 = mg_I M 19 17 := congrArg (fun c : Int32 × Int32 × Int32 => c.2.1) h.1.1.2.2.1
theorem kH_18 {M M' : nf_M} (h : kH M M') : mg_I M' 19 18 = mg_I M 19 18 := congrArg (fun c : Int32 × Int32 × Int32 => c.2.2) h.1.1.2.2.1
theorem kV_mv {M M' : nf_M} (k : kV M M') {rg : Nat → nf_V} (h : mv M rg) : mv M' rg := fun r hr => by
  refine Eq.trans ?_ (h r hr)
  unfold rgM mg_L mg_D
  rw [k.2.2 22 (by decide), k.2.2 24 (by decide), k.1]
theorem kV_U2 {M M' : nf_M} (k : kV M M') : kU2 M M' := by
  refine ⟨by rw [k.1], k.2.1 1 (by decide) (by decide), k.2.2 20 (by decide), ?_, fun r hr => ?_⟩
  · unfold mg_L; rw [k.1]
  · unfold rgM mg_L mg_D
    rw [k.2.2 22 (by decide), k.2.2 24 (by decide), k.1]
theorem s_M_roundTo {p s : Nat} {u : Int} {M : nf_M} {post : Unit → nf_M → Prop} (hp : p < 100) (o : okU u s) (g10 : mg_L M 19 10 = zL u) (g11 : mg_I M 19 11 = zI s) (k : ∀ M', kH M M' → mg_L M' 19 10 = zL (sgd (decide (u < 0)) (rndA u.natAbs s p)) → mg_I M' 19 11 = zI (rndS s p) → post () M') : P_M_roundTo (zI p) M post := by
  obtain ⟨⟨l1, l2⟩, o2, o3⟩ := o
  unfold P_M_roundTo
  rw [g11, zlt (by omega) (by omega)]
  refine ⟨fun q => ?_, fun q => ?_⟩
  · rw [zI_sub, show (s : Int) - (p : Int) = ((s - p : Nat) : Int) by omega]
    obtain ⟨q1, q2⟩ := pow6 (show s - p ≤ 6 by omega)
    have hw := rnd_lt (A := u.natAbs) (s := s) (p := p) (by omega)
    have hA : rndA u.natAbs s p = rnd u.natAbs (s - p) := if_pos q
    have hS : rndS s p = p := if_pos q
    rw [hA] at hw
    rw [hA, hS] at k
    have hd := Nat.div_le_self u.natAbs (10 ^ (s - p))
    have hm := Nat.mod_lt u.natAbs (show 0 < 10 ^ (s - p) by omega)
    refine s_M_power (by omega) ?_
    rw [g10]
    refine s_M_amount (by omega) ⟨pw_ne (by omega), fun t6 e6 => ⟨pw_ne (by omega), fun t8 e8 => ?_⟩⟩
    rw [lN_z, zmod (by omega) (by omega)] at e6
    rw [lN_z, zdiv (by omega) (by omega)] at e8
    have h82 : ∀ w : Nat, w = rnd u.natAbs (s - p) → B_M_roundTo_82 post (zI p) (zL w) M := by
      intro w ew
      rw [← ew] at k hw
      have h102 : ∀ v : Int64, v = zL (sgd (decide (u < 0)) w) → B_M_roundTo_102 post (zI p) v M := by
        intro v ev
        unfold B_M_roundTo_102
        intro M1 e1 M2 e2
        refine k M2 ?_ ?_ ?_
        · rw [e2, e1]
          exact (kH_L M 10 v).tr (kH_19 _ 11 (zI p) (by decide) (by decide) (by decide))
        · rw [e2, e1, ← ev]; rfl
        · rw [e2, ms_199]
      unfold B_M_roundTo_82
      rw [g10, show (0 : Int64) = zL 0 by decide, zL_lt (by omega) (by omega) (by omega) (by omega)]
      refine ⟨fun c => h102 _ ?_, fun c => h102 _ ?_⟩
      · rw [zL_neg, decide_eq_true c]; rfl
      · rw [decide_eq_false c]; rfl
    unfold B_M_roundTo_73 B_M_roundTo_80
    have hup : rup (u.natAbs / 10 ^ (s - p)) (u.natAbs % 10 ^ (s - p)) (10 ^ (s - p)) → B_M_roundTo_82 post (zI p) (t8 + (1 : Int64)) M := fun z => by
      rw [e8, show (1 : Int64) = zL (1 : Nat) by decide, zLadd]
      exact h82 _ (if_pos z).symm
    have hdn : ¬ rup (u.natAbs / 10 ^ (s - p)) (u.natAbs % 10 ^ (s - p)) (10 ^ (s - p)) → B_M_roundTo_82 post (zI p) t8 M := fun z => by
      rw [e8]
      exact h82 _ (if_neg z).symm
    unfold rup at hup hdn
    rw [lN_z, e6, show (2 : Int64) * zL (u.natAbs % 10 ^ (s - p) : Nat) = zL (2 * (u.natAbs % 10 ^ (s - p)) : Nat) by rw [show (2 : Int64) = zL (2 : Nat) by decide, zLmul], zLlt (by omega) (by omega), zLeq (by omega) (by omega)]
    have e2' : (t8 - t8 / (2 : Int64) * (2 : Int64)) = zL (u.natAbs / 10 ^ (s - p) % 2 : Nat) := by
      rw [e8, show (2 : Int64) = zL (2 : Nat) by decide, zmod (by omega) (by decide)]
    rw [e2', show (0 : Int64) = zL (0 : Nat) by decide, zLeq (by omega) (by omega)]
    have hy := Nat.mod_lt (u.natAbs / 10 ^ (s - p)) (show 0 < 2 by decide)
    generalize u.natAbs / 10 ^ (s - p) % 2 = y at *
    exact ⟨fun z => hup (Or.inl z), fun z => ⟨fun z2 => ⟨fun z3 => hdn (by omega), fun z3 => hup (Or.inr ⟨z2, by omega⟩)⟩, fun z2 => hdn (by omega)⟩⟩
  · have hA : rndA u.natAbs s p = u.natAbs := if_neg q
    have hS : rndS s p = s := if_neg q
    rw [hA, hS] at k
    refine k M (kH.rf M) ?_ g11
    rw [g10]
    congr 1
    unfold sgd
    by_cases c : u < 0
    · rw [decide_eq_true c, if_pos rfl]; omega
    · rw [decide_eq_false c, if_neg (by decide)]; omega
theorem s_M_pic242 {n : Nat} {tx : Nat → Nat} {h W a b : Nat} {M : nf_M} {post : Int32 → nf_M → Prop} (hT : okT n tx) (hx : txM M n tx) (p : PIc n tx h W a b) (g17 : mg_I M 19 17 = zI (pcz tx h W)) (g18 : mg_I M 19 18 = zI (pg tx h W)) (k : (∃ u s, okU u s ∧ mg_I M 19 9 = 0 ∧ mg_L M 19 10 = zL u ∧ mg_I M 19 11 = zI (s : Nat) ∧ ∀ M', kU2 M M' → mg_I M' 19 0 = 0 → oM M' (picF n tx h W a b u s) → post (zI (picF n tx h W a b u s).length) M') ∨ (∃ v : Int32, (v = 4 ∨ v = 5) ∧ mg_I M 19 9 = v ∧ ∀ M', M' = ms_I M 19 0 v → post 0 M')) : B_M_picture_242 post (zI h) (zI (h + W : Nat)) (zI a) (zI b) M := by
  obtain ⟨p1, p2, p3⟩ := PIc_le p
  have hn := hT.1
  unfold B_M_picture_242 B_M_picture_268
  rcases k with ⟨u, s, o, g9, g10, g11, k⟩ | ⟨v, hv, g9, k⟩
  · rw [g9]
    refine ⟨fun w => absurd w (by decide), fun _ => ⟨fun w => absurd w (by decide), fun _ M1 e1 => ?_⟩⟩
    have k1 : kU2 M M1 := by rw [e1]; exact kU2_19 M 0 0 (by decide)
    have f0 : mg_I M1 19 0 = 0 := by rw [e1, ms_199]
    have hx1 : txM M1 n tx := by rw [e1]; exact ⟨(ms_19 M 0 1 0 (by decide)).trans hx.1, hx.2⟩
    have h297 : B_M_picture_297 post (zI h) (zI (h + W : Nat)) (zI a) (zI b) (zI (b - (h + W) - 1 : Nat)) M1 := by
      unfold B_M_picture_297
      refine s_M_roundTo (by omega) o (by rw [e1]; exact g10) (by rw [e1, ms_19 _ _ _ _ (by decide)]; exact g11) (fun M2 k2 f10 f11 => ?_)
      obtain ⟨d1, d2, d3⟩ := dzr_ok (p := b - (h + W) - 1) o
      obtain ⟨⟨l1, l2⟩, o2, o3⟩ := o
      have hw := rnd_lt (A := u.natAbs) (s := s) (p := b - (h + W) - 1) (by omega)
      refine s_M_draw hT (k2.1.1.txm hx1) p rfl hw d3 f10 f11 ?_ ?_ (fun M' kq oq => ?_)
      · rw [kH_17 k2, e1, ms_19 _ _ _ _ (by decide)]; exact g17
      · rw [kH_18 k2, e1, ms_19 _ _ _ _ (by decide)]; exact g18
      · rw [oq.1]
        exact k M' (k1.tr ((kH_U2 k2).tr kq.U.w)) (by rw [kq.2.1 0 (by decide), k2.2, f0]) oq
    rw [f0]
    refine ⟨fun w => absurd w (by decide), fun _ => ?_⟩
    rw [zlt (by omega) (by omega), zI_sub, e1i, zI_sub]
    refine ⟨fun q => ?_, fun q => ?_⟩
    · rw [show (b : Int) - ((h + W : Nat) : Int) - (1 : Nat) = ((b - (h + W) - 1 : Nat) : Int) by omega]
      exact h297
    · rw [show (0 : Int32) = zI ((b - (h + W) - 1 : Nat) : Int) by rw [show b - (h + W) - 1 = 0 by omega]; decide]
      exact h297
  · rw [g9]
    rcases hv with e | e
    · subst e
      refine ⟨fun _ M1 e1 => ?_, fun w => absurd rfl w⟩
      have f0 : mg_I M1 19 0 = 4 := by rw [e1, ms_199]
      rw [f0]
      exact ⟨fun _ => k M1 e1, fun w => absurd (by decide) w⟩
    · subst e
      refine ⟨fun w => absurd w (by decide), fun _ => ⟨fun _ M1 e1 => ?_, fun w => absurd rfl w⟩⟩
      have f0 : mg_I M1 19 0 = 5 := by rw [e1, ms_199]
      rw [f0]
      exact ⟨fun _ => k M1 e1, fun w => absurd (by decide) w⟩
theorem s_M_picture {n : Nat} {tx : Nat → Nat} {x1 : Int32} {rg : Nat → nf_V} {M : nf_M} {post : Int32 → nf_M → Prop} (hT : okT n tx) (hx : txM M n tx) (hc : mv M rg) (hv : okR rg) (h0 : ¬ inR x1 → ∀ M', M' = ms_I M 19 0 (1 : Int32) → post 0 M') (h2 : ∀ r, r < 8 → x1 = zI (r : Nat) → (rg r).1.toInt < 0 → ∀ M', M' = ms_I M 19 0 (2 : Int32) → post 0 M') (h1 : ∀ r, r < 8 → x1 = zI (r : Nat) → 0 ≤ (rg r).1.toInt → (∀ h W a b, PIc n tx h W a b → ¬ OKP n tx h W b) → ∀ M', kV (ms_I M 19 0 (0 : Int32)) M' → ∀ M7, M7 = ms_I M' 19 0 (3 : Int32) → post 0 M7) (k : ∀ r, r < 8 → x1 = zI (r : Nat) → 0 ≤ (rg r).1.toInt → ∀ h W a b, PIc n tx h W a b → OKP n tx h W b → ∀ k u s, pic1 (rg r) (NPt n tx b) k u s → (k ≠ 0 → ∀ M5 M6, kV (ms_I M 19 0 (0 : Int32)) M5 → kO M5 M6 → ∀ M', M' = ms_I M6 19 0 (zI (k + 1 : Nat)) → post 0 M') ∧ (k = 0 → okU u s → ∀ M', kU2 M M' → mg_I M' 19 0 = 0 → oM M' (picF n tx h W a b u s) → post (zI (picF n tx h W a b u s).length) M')) : P_M_picture x1 M post := by
  have hthr : ∀ v : Int32, 0 < v → (∀ M', M' = ms_I M 19 0 v → post 0 M') → B_M_picture_26 post x1 v M := fun v hv0 hp => by
    unfold B_M_picture_26
    intro M1 e1
    have e6 : mg_I M1 19 0 = v := by rw [e1, ms_199]
    rw [e6]
    exact ⟨fun _ => hp M1 e1, fun z => absurd hv0 z⟩
  unfold P_M_picture
  refine s_M_isRegister (fun ra => ⟨fun z => absurd z (by decide), fun _ => ?_⟩) (fun z => ⟨fun _ => hthr 1 (by decide) (h0 z), fun q => absurd rfl q⟩)
  obtain ⟨r, hr, er, -, cr⟩ := rg_n ra
  have ta : mg_I M 22 r = (rg r).1 := congrArg (fun c : nf_V => c.1) (hc r hr)
  rw [cr, ta, i32_lt, t0]
  refine ⟨vp_in_iff.mpr ra, fun z => hthr 2 (by decide) (h2 r hr er z), fun z => ?_⟩
  have fa : 0 ≤ (rg r).1.toInt := by omega
  refine s_M_pic26 hT hx (fun hno M' hk M7 e7 => h1 r hr er fa hno M' hk M7 e7) (fun h W a b p ok x8 M5 k5 g17 g18 h8 => ?_)
  have kk := k r hr er fa h W a b p ok
  have hx5 : txM M5 n tx := k5.txm ⟨(ms_19 M 0 1 0 (by decide)).trans hx.1, hx.2⟩
  have kM5 : kU2 M M5 := (kU2_19 M 0 0 (by decide)).tr (kV_U2 k5)
  rw [er, show (0 : Int32) = zI ((0 : Nat) : Int) by decide]
  refine s_M_castTo hr (by decide) (kV_mv k5 (show mv (ms_I M 19 0 0) rg from hc)) hv fa (fun k0 c hcst M9 hM => ?_)
  obtain ⟨k9, hM⟩ := hM
  have hx9 := k9.1.1.txm hx5
  have f17 := (kH_17 k9).trans g17
  have f18 := (kH_18 k9).trans g18
  unfold picK
  rcases hM with ⟨e0, g9, hst⟩ | ⟨e0, g9⟩ | ⟨e0, g9⟩ | ⟨e0, g9⟩
  · subst e0
    obtain ⟨u0, s0, o, ec⟩ := cast0_c (hv r hr) fa hcst
    have mk : ∀ kk u s, pct1 (NPt n tx b) u0 s0 kk u s → pic1 (rg r) (NPt n tx b) kk u s := fun kk u s q => ⟨0, c, hcst, Or.inr ⟨rfl, u0, s0, o, ec, q⟩⟩
    have hst0 := hst 0
    unfold sto at hst0
    rw [if_pos (by decide), ec] at hst0
    injection hst0 with y1 y2
    injection y2 with y2 y3
    injection y3 with y3 y4
    have f10 : mg_L M9 19 10 = zL u0 := y2
    have f11 : mg_I M9 19 11 = zI s0 := (ms_19 M9 0 11 0 (by decide)).symm.trans y3
    obtain ⟨o1, o2, o3, o4, o5, -⟩ := id o
    rw [g9]
    refine ⟨fun _ => ⟨fun q => ?_, fun q => ?_⟩, fun w => absurd rfl w⟩
    · have hp : pct1 (NPt n tx b) u0 s0 0 u0 s0 := Or.inl ⟨h8.mp q, rfl, rfl, rfl⟩
      refine s_M_pic242 hT hx9 p f17 f18 (Or.inl ⟨u0, s0, pct1_ok o hp, g9, f10, f11, fun M' k' e0' o' => (kk 0 u0 s0 (mk _ _ _ hp)).2 rfl (pct1_ok o hp) M' (kM5.tr ((kH_U2 k9).tr k')) e0' o'⟩)
    · have nq : ¬ NPt n tx b := fun w => q (h8.mpr w)
      rw [f10, f11, show (100 : Int64) = zL 100 by decide, show (0 : Int32) = zI ((0 : Nat) : Int) by decide]
      refine s_M_product ⟨o2, o3⟩ ⟨by decide, by decide⟩ o4 (by decide) g9 (fun M11 hr11 => ?_)
      obtain ⟨k11, hr11⟩ := hr11
      have e100 : (100 : Int).natAbs = 100 := rfl
      have eo : oth u0 100 = decide (u0 < 0) := by
        by_cases c : u0 < 0
        · rw [decide_eq_true c, oth_t (Or.inl ⟨c, by decide⟩)]
        · rw [decide_eq_false c, oth_f (Or.inr ⟨c, by decide⟩)]
      rw [e100, Nat.add_zero, eo] at hr11
      have hx11 := k11.1.1.txm hx9
      rcases hr11 with ⟨hlt, z9, z10, z11⟩ | ⟨hlt, z9⟩
      · have hp : pct1 (NPt n tx b) u0 s0 0 (sgd (decide (u0 < 0)) (spS (u0.natAbs * 100) s0).1) (spS (u0.natAbs * 100) s0).2 := Or.inr (Or.inl ⟨nq, hlt, rfl, rfl, rfl⟩)
        exact s_M_pic242 hT hx11 p ((kH_17 k11).trans f17) ((kH_18 k11).trans f18) (Or.inl ⟨_, _, pct1_ok o hp, z9, z10, z11, fun M' k' e0' o' => (kk 0 _ _ (mk _ _ _ hp)).2 rfl (pct1_ok o hp) M' (kM5.tr ((kH_U2 k9).tr ((kH_U2 k11).tr k'))) e0' o'⟩)
      · have hp : pct1 (NPt n tx b) u0 s0 4 0 0 := Or.inr (Or.inr ⟨nq, hlt, rfl⟩)
        exact s_M_pic242 hT hx11 p ((kH_17 k11).trans f17) ((kH_18 k11).trans f18) (Or.inr ⟨5, Or.inr rfl, z9, fun M' e' => (kk 4 0 0 (mk _ _ _ hp)).1 (by decide) M5 M11 k5 (k9.1.tr k11.1) M' e'⟩)
  · rw [g9]
    refine ⟨fun w => absurd w (by decide), fun _ => s_M_pic242 hT hx9 p f17 f18 (Or.inr ⟨4, Or.inl rfl, g9, fun M' e' => ?_⟩)⟩
    subst e0
    exact (kk 3 0 0 ⟨3, c, hcst, Or.inl ⟨by decide, rfl⟩⟩).1 (by decide) M5 M9 k5 k9.1 M' e'
  · rw [g9]
    refine ⟨fun w => absurd w (by decide), fun _ => s_M_pic242 hT hx9 p f17 f18 (Or.inr ⟨5, Or.inr rfl, g9, fun M' e' => ?_⟩)⟩
    subst e0
    exact (kk 4 0 0 ⟨4, c, hcst, Or.inl ⟨by decide, rfl⟩⟩).1 (by decide) M5 M9 k5 k9.1 M' e'
  · exfalso
    subst e0
    rcases hcst with ⟨h1, h2, h3⟩ | ⟨h1, h2, h3⟩ | ⟨h1, ta, p, a, oa, eA, h⟩ | ⟨h1, ta, x, ht, hx, eA, h⟩
    · omega
    · omega
    · unfold fitOut at h; omega
    · rcases h with ⟨a1, a2⟩ | ⟨a1, a2, a3⟩ | ⟨a1, a2, a3, u, a4, a5, a6⟩ | ⟨a1, a2, a3, a4, n, a5, a6⟩
      · omega
      · omega
      · unfold fitOut at a6; omega
      · omega
