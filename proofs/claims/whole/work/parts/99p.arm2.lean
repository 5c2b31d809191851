/-! read: floating numbers, the reference; the arm -/
theorem s_M_isWord {n p b : Nat} {tx : Nat → Nat} {M : nf_M} {post : Int32 → nf_M → Prop} (hT : okT n tx) (hx : txM M n tx) (hb : b ≤ n) (hp : p ≤ b) (g1 : mg_I M 19 16 = zI b) (k1 : INF tx p b → post 1 M) (k0 : ¬ INF tx p b → post 0 M) : P_M_isWord (zI p) (73 : Int32) (78 : Int32) (70 : Int32) M post := by
  have hn := hT.1
  unfold P_M_isWord B_M_isWord_49 B_M_isWord_50
  unfold INF at k1 k0
  rw [g1, zI_sub, show (3 : Int32) = zI 3 by decide, zI_eq (by omega) (by omega) (by omega) (by omega), z_s, show (2 : Int32) = zI (2 : Nat) by decide, zI_add, show (p : Int) + ((2 : Nat) : Int) = ((p + 2 : Nat) : Int) by omega]
  refine ⟨fun q => ?_, fun q => ⟨rfl, k0 (fun h => q (by omega))⟩⟩
  have h0 := hT.2 p (by omega)
  have h1 := hT.2 (p + 1) (by omega)
  have h2 := hT.2 (p + 2) (by omega)
  rw [z_cl (by omega), z_cl (by omega), z_cl (by omega), hx.2 p (by omega), hx.2 (p + 1) (by omega), hx.2 (p + 2) (by omega), show (73 : Int32) = zI (73 : Nat) by decide, show (78 : Int32) = zI (78 : Nat) by decide, show (70 : Int32) = zI (70 : Nat) by decide, zeq (by omega) (by omega), zeq (by omega) (by omega), zeq (by omega) (by omega)]
  exact ⟨z_in (by omega) (by decide), fun z => ⟨z_in (by omega) (by decide), fun z2 => ⟨z_in (by omega) (by decide), fun z3 => ⟨rfl, k1 ⟨by omega, z, z2, z3⟩⟩, fun z3 => ⟨rfl, k0 (fun h => z3 h.2.2.2)⟩⟩, fun z2 => ⟨rfl, k0 (fun h => z2 h.2.2.1)⟩⟩, fun z => ⟨rfl, k0 (fun h => z h.2.1)⟩⟩
theorem flt_st {t : Nat} {y : UInt64} (ht : t = 8 ∨ t = 9) : flt t y = (zI t, 0, 0, if t = 8 then FP.f2d (FP.d2f y) else y) := by
  unfold flt
  rcases ht with rfl | rfl
  · rw [if_pos rfl, if_pos rfl]; rfl
  · rw [if_neg (by decide), if_neg (by decide)]
theorem inf_c : FP.dneg infD = 18442240474082181120 ∧ FP.f2d (FP.d2f infD) = infD ∧ FP.f2d (FP.d2f 18442240474082181120) = 18442240474082181120 := by decide +kernel
theorem s_M_readReal {n t a b : Nat} {tx : Nat → Nat} {M : nf_M} {post : Unit → nf_M → Prop} (hT : okT n tx) (hx : txM M n tx) (hB : BL n tx a b) (h8 : 8 ≤ t) (ht : t < 10) (hA : atM M a b) (h9 : mg_I M 19 9 = 0) (k : ∀ k c M', rd1 n tx t k c → rdM t k c M M' → post () M') : P_M_readReal (zI t) M post := by
  have hn := hT.1
  have hab := hB.2.2.2.1
  have hbn := hB.2.2.2.2.1
  have et : (zI (t : Int)).toInt = t := z_of (by omega)
  have hspb : sp tx a b ≤ b := by unfold sp; split <;> omega
  obtain ⟨esn, esp⟩ := chr_sg (a := a) hT hbn
  have hcl := chr_lt hT hbn a
  have hst : ∀ (d : UInt64) (M' : nf_M) (v : Int32), mg_D M' 19 12 = d → sto (ms_I M' 19 0 v) (zI t) = (zI t, 0, 0, d) := fun d M' v hd => by
    unfold sto
    rw [if_neg (by omega)]
    show (_, _, _, mg_D M' 19 12) = _
    rw [hd]
  -- the number that the digits and the exponent make
  have h198 : ∀ (x3 : Int32) (j : Nat) (pt E : Int) (M1 : nf_M), x3 = (if sn tx a b then 1 else 0) → ¬ (8 ≤ t ∧ INF tx (sp tx a b) b) → SE tx (sp tx a b) b (mayP t) j pt → GD tx (sp tx a b) b t j pt E → -1000 < E ∧ E < 1000 → kH M M1 → isD M1 (dvv tx (sp tx a b) pt) (lst (dvv tx (sp tx a b) pt) (dcn j pt)) → mg_I M1 19 9 = 0 → B_M_readReal_198 post (zI t) x3 (zI (pwL tx (sp tx a b) j pt E)) M1 := by
    intro x3 j pt E M1 hx3 hni hS hG hE hk hD w
    obtain ⟨z1, z2, z3, z4⟩ := B0_le hS.1
    have hpj := hS.1.1
    obtain ⟨l1, l2, l3⟩ := lst_ok (dvv tx (sp tx a b) pt) (dcn j pt)
    have hvl := vd_lst (dv := dvv tx (sp tx a b) pt) (D := dcn j pt)
    have eP : pwL tx (sp tx a b) j pt E = (B0 j pt : Int) - (lst (dvv tx (sp tx a b) pt) (dcn j pt) : Nat) + E := by
      unfold pwL
      rw [z3]
    have hpw : -1100 < pwL tx (sp tx a b) j pt E ∧ pwL tx (sp tx a b) j pt E < 1100 := by omega
    have mk : ∀ k c, RV t (sn tx a b) (dvL tx (sp tx a b) j pt) (pwL tx (sp tx a b) j pt E) k c → rd1 n tx t k c := fun k c q => ⟨a, b, hB, Or.inr ⟨hni, j, pt, hS, Or.inr ⟨E, hG, q⟩⟩⟩
    have eV : vd (dvv tx (sp tx a b) pt) (lst (dvv tx (sp tx a b) pt) (dcn j pt)) = dvL tx (sp tx a b) j pt := rfl
    rw [eV] at hvl
    generalize pwL tx (sp tx a b) j pt E = pw at *
    -- the end
    have h283 : ∀ (y : UInt64) (M2 : nf_M), okD y → kH M M2 → mg_I M2 19 9 = 0 → RV t (sn tx a b) (dvL tx (sp tx a b) j pt) pw 0 (flt t (dsg (sn tx a b) y)) → B_M_readReal_283 post (zI t) x3 y M2 := by
      intro y M2 hy hk2 w2 hv
      have h298 : ∀ z : UInt64, z = dsg (sn tx a b) y → B_M_readReal_298 post (zI t) z M2 := by
        intro z ez
        have hz : okD z := by rw [ez]; exact dsg_ok hy
        rw [← ez] at hv
        unfold B_M_readReal_298 B_M_readReal_321
        intro M3 e3
        have d3 : mg_D M3 19 12 = z := by rw [e3]; rfl
        rw [d3, zeqI 8 8 (by decide) (by omega) (by omega)]
        have e := flt_st (t := t) (y := z) (by omega)
        refine ⟨fun q => ⟨d2f_n hz, sng_n hz, fun M4 e4 => ?_⟩, fun q M4 e4 => ?_⟩
        · refine k 0 _ M4 (mk 0 _ hv) ⟨hk2.tr (by rw [e4, e3]; exact (kH_D M2 12 _).tr (kH_D _ 12 _)), Or.inl ⟨rfl, by rw [e4, e3]; exact w2, fun v => ?_⟩⟩
          rw [e, if_pos q]
          exact hst _ M4 v (by rw [e4]; rfl)
        · refine k 0 _ M4 (mk 0 _ hv) ⟨hk2.tr (by rw [e4, e3]; exact (kH_D M2 12 _).tr (kH_D _ 12 _)), Or.inl ⟨rfl, by rw [e4, e3]; exact w2, fun v => ?_⟩⟩
          rw [e, if_neg q]
          exact hst _ M4 v (by rw [e4]; rfl)
      unfold B_M_readReal_283
      rw [hx3]
      by_cases hs : sn tx a b = true
      · rw [if_pos hs]
        exact ⟨fun q => absurd q (by decide), fun _ => h298 _ (by unfold dsg; rw [if_pos hs])⟩
      · rw [if_neg hs]
        exact ⟨fun _ => h298 _ (by unfold dsg; rw [if_neg hs]), fun q => absurd rfl q⟩
    have hbad : ∀ M2 : nf_M, kH M M2 → mg_I M2 19 9 = 5 → RV t (sn tx a b) (dvL tx (sp tx a b) j pt) pw 4 (-1, 0, 0, 0) → post () M2 := fun M2 hk2 w2 hv => k 4 _ M2 (mk 4 _ hv) ⟨hk2, Or.inr (Or.inr ⟨rfl, w2⟩)⟩
    have h234 : ∀ (x8 : Int64) (M2 : nf_M) (c : Int32), kH M M2 → mg_I M2 19 13 = zI (lst (dvv tx (sp tx a b) pt) (dcn j pt)) → (c = 5 ∧ RV t (sn tx a b) (dvL tx (sp tx a b) j pt) pw 4 (-1, 0, 0, 0)) ∨ (c = 0 ∧ (lst (dvv tx (sp tx a b) pt) (dcn j pt) ≠ 0 → -22 ≤ pw ∧ pw ≤ 22 ∧ x8 = zL (dvL tx (sp tx a b) j pt : Nat) ∧ dvL tx (sp tx a b) j pt < 1000000000000000)) → B_M_readReal_234 post (zI t) x3 (zI pw) x8 c M2 := by
      intro x8 M2 c hk2 g13 hc
      unfold B_M_readReal_234
      intro M3 e3
      have w3 : mg_I M3 19 9 = c := by rw [e3]; rfl
      have k3 : kH M M3 := hk2.tr (by rw [e3]; exact kH_19 M2 9 c (by decide) (by decide) (by decide))
      have g3 : mg_I M3 19 13 = zI (lst (dvv tx (sp tx a b) pt) (dcn j pt)) := by rw [e3]; exact g13
      rw [w3, g3, z0' (by omega)]
      rcases hc with ⟨c1, c2⟩ | ⟨c1, c2⟩
      · rw [c1] at w3 ⊢
        exact ⟨fun _ => hbad M3 k3 w3 c2, fun q => absurd (by decide) q⟩
      · rw [c1] at w3 ⊢
        refine ⟨fun q => absurd q (by decide), fun _ => ⟨fun q => ?_, fun q => ?_⟩⟩
        · have hV : dvL tx (sp tx a b) j pt = 0 := hvl.mpr q
          exact h283 _ M3 ok0 k3 w3 (Or.inr (Or.inr (Or.inr (Or.inl ⟨h8, hV, rfl, rfl⟩))))
        · obtain ⟨p1, p2, p3, p4⟩ := c2 q
          have hV : dvL tx (sp tx a b) j pt ≠ 0 := fun w => q (hvl.mp w)
          have hokd : okD (rdF (dvL tx (sp tx a b) j pt) pw) := tms_ok (okF (FP.Core.l2d_fin _)) (by omega) (by omega)
          have hfin := h283 (rdF (dvL tx (sp tx a b) j pt) pw) M3 hokd k3 w3 (Or.inr (Or.inr (Or.inr (Or.inr (Or.inr ⟨h8, hV, p4, p1, p2, rfl, rfl⟩)))))
          rw [p3, show (0 : Int32) = zI 0 by decide, zI_lt (by omega) (by omega) (by omega) (by omega)]
          refine ⟨fun q2 => ?_, fun q2 => ?_⟩
          · rw [zI_neg, show -pw = (((-pw).toNat : Nat) : Int) by omega]
            refine s_M_ten (by omega) ?_
            have e : FP.ddiv (FP.l2d (zL (dvL tx (sp tx a b) j pt : Nat))) (tn (-pw).toNat) = rdF (dvL tx (sp tx a b) j pt) pw := by unfold rdF tms; rw [if_pos q2]
            rw [e]
            exact ⟨(n64 _).mpr hokd, hfin⟩
          · have e : FP.dmul (FP.l2d (zL (dvL tx (sp tx a b) j pt : Nat))) (tn pw.toNat) = rdF (dvL tx (sp tx a b) j pt) pw := by unfold rdF tms; rw [if_neg q2]
            have ep : zI pw = zI ((pw.toNat : Nat) : Int) := by congr 1; omega
            rw [ep]
            refine s_M_ten (by omega) ?_
            rw [e]
            exact ⟨(n64 _).mpr hokd, hfin⟩
    have hlim : -22 > pw ∨ pw > 22 → lst (dvv tx (sp tx a b) pt) (dcn j pt) ≠ 0 → RV t (sn tx a b) (dvL tx (sp tx a b) j pt) pw 4 (-1, 0, 0, 0) := fun q q2 => Or.inr (Or.inr (Or.inr (Or.inr (Or.inl ⟨h8, fun w => q2 (hvl.mp w), by omega, rfl⟩))))
    unfold B_M_readReal_198 B_M_readReal_226 B_M_readReal_230
    have hgo : ∀ (x8 : Int64) (M2 : nf_M) (c : Int32), kH M M2 → mg_I M2 19 9 = c → mg_I M2 19 13 = zI (lst (dvv tx (sp tx a b) pt) (dcn j pt)) → ((c = 5 ∧ 1000000000000000 ≤ dvL tx (sp tx a b) j pt) ∨ (c = 0 ∧ x8 = zL (dvL tx (sp tx a b) j pt : Nat) ∧ dvL tx (sp tx a b) j pt < 1000000000000000)) → (0 < (mg_I M2 19 13) → ((zI pw) < (-22 : Int32) → B_M_readReal_234 post (zI t) x3 (zI pw) x8 (5 : Int32) M2) ∧ (¬ (zI pw) < (-22 : Int32) → ((22 : Int32) < (zI pw) → B_M_readReal_234 post (zI t) x3 (zI pw) x8 (5 : Int32) M2) ∧ (¬ (22 : Int32) < (zI pw) → B_M_readReal_234 post (zI t) x3 (zI pw) x8 (mg_I M2 19 9) M2))) ∧ (¬ 0 < (mg_I M2 19 13) → B_M_readReal_234 post (zI t) x3 (zI pw) x8 (mg_I M2 19 9) M2) := by
      intro x8 M2 c hk2 w2 g13 hc
      rw [w2, g13, show (-22 : Int32) = zI (-22) by decide, show (22 : Int32) = zI 22 by decide, zI_lt (by omega) (by omega) (by omega) (by omega), zI_lt (by omega) (by omega) (by omega) (by omega), show (0 : Int32) = zI (0 : Nat) by decide, zlt (by omega) (by omega)]
      have hV5 : c = 5 ∧ 1000000000000000 ≤ dvL tx (sp tx a b) j pt → RV t (sn tx a b) (dvL tx (sp tx a b) j pt) pw 4 (-1, 0, 0, 0) := fun q => Or.inr (Or.inr (Or.inr (Or.inr (Or.inl ⟨h8, by omega, Or.inl q.2, rfl⟩))))
      refine ⟨fun q => ⟨fun q2 => h234 x8 M2 5 hk2 g13 (Or.inl ⟨rfl, hlim (by omega) (by omega)⟩), fun q2 => ⟨fun q3 => h234 x8 M2 5 hk2 g13 (Or.inl ⟨rfl, hlim (by omega) (by omega)⟩), fun q3 => h234 x8 M2 c hk2 g13 ?_⟩⟩, fun q => h234 x8 M2 c hk2 g13 ?_⟩
      · rcases hc with hc | ⟨c1, c2, c3⟩
        · exact Or.inl ⟨hc.1, hV5 hc⟩
        · exact Or.inr ⟨c1, fun _ => ⟨by omega, by omega, c2, c3⟩⟩
      · rcases hc with hc | ⟨c1, c2, c3⟩
        · exact Or.inl ⟨hc.1, hV5 hc⟩
        · exact Or.inr ⟨c1, fun w => absurd (by omega) w⟩
    refine s_M_gather2 (by omega) hD w (fun hlt M2 hk2 w2 g13 => hgo _ M2 0 (hk.tr hk2) w2 g13 (Or.inr ⟨rfl, rfl, hlt⟩)) (fun hlt M2 hk2 w2 g13 => hgo _ M2 5 (hk.tr hk2) w2 g13 (Or.inl ⟨rfl, by rw [eV] at hlt; omega⟩))
  -- the zeros at the end go
  have h150 : ∀ (x3 : Int32) (j : Nat) (pt E : Int) (M0 : nf_M), x3 = (if sn tx a b then 1 else 0) → ¬ (8 ≤ t ∧ INF tx (sp tx a b) b) → SE tx (sp tx a b) b (mayP t) j pt → GD tx (sp tx a b) b t j pt E → -1000 < E ∧ E < 1000 → isD M0 (dvv tx (sp tx a b) pt) (dcn j pt) → ∀ (D1 : Nat) (M1 : nf_M), D1 ≤ dcn j pt → (∀ i, D1 ≤ i → i < dcn j pt → dvv tx (sp tx a b) pt i = 0) → kH M M1 → mg_I M1 19 13 = zI D1 → mg_I M1 26 = mg_I M0 26 → mg_I M1 19 9 = 0 → B_M_readReal_150 post (D1 + 1) (zI t) x3 (zI ((B0 j pt : Int) - D1 + E)) M1 := by
    intro x3 j pt E M0 hx3 hni hS hG hE hD0
    obtain ⟨z1, z2, z3, z4⟩ := B0_le hS.1
    have hpj := hS.1.1
    obtain ⟨l1, l2, l3⟩ := lst_ok (dvv tx (sp tx a b) pt) (dcn j pt)
    have eP : ∀ D1 : Nat, D1 = lst (dvv tx (sp tx a b) pt) (dcn j pt) → (B0 j pt : Int) - D1 + E = pwL tx (sp tx a b) j pt E := fun D1 e => by
      unfold pwL
      rw [z3, e]
    intro D1
    induction D1 with
    | zero =>
      intro M1 hD1 hz hk g13 g26 w
      have hl0 : 0 = lst (dvv tx (sp tx a b) pt) (dcn j pt) := by
        rcases l3 with l3 | l3
        · exact l3.symm
        · refine Classical.byContradiction fun q => ?_
          exact l3 (hz _ (by omega) (by omega))
      unfold B_M_readReal_150
      rw [g13]
      refine ⟨fun q => absurd q (by decide), fun _ => ?_⟩
      rw [eP 0 hl0]
      exact h198 x3 j pt E M1 hx3 hni hS hG hE hk (isD_cut hD0 (by omega) (by rw [g13, ← hl0]) g26) w
    | succ D1 ih =>
      intro M1 hD1 hz hk g13 g26 w
      unfold B_M_readReal_150 B_M_readReal_178
      obtain ⟨d1, d2⟩ := hD0.2 D1 (by omega)
      have hsub : mg_I M1 19 13 - (1 : Int32) = zI D1 := by
        rw [g13, e1i, zI_sub]
        congr 1
        omega
      rw [hsub, g13]
      have h0lt : (0 : Int32) < zI ((D1 + 1 : Nat) : Int) := by rw [show (0 : Int32) = zI (0 : Nat) by decide, zlt (by omega) (by omega)]; omega
      refine ⟨fun _ => ⟨fun _ => ⟨z_in (by omega) (by decide), ?_⟩, fun q => absurd h0lt q⟩, fun q => absurd h0lt q⟩
      rw [z_cl (by omega), g26, d1, z0' (by omega)]
      refine ⟨fun q t2 e2 M3 e3 => ?_, fun q => ?_⟩
      · have ek : zI ((B0 j pt : Int) - ((D1 + 1 : Nat) : Int) + E) + (1 : Int32) = zI ((B0 j pt : Int) - (D1 : Int) + E) := by
          rw [e1i, zI_add]
          congr 1
          omega
        rw [ek]
        refine ih M3 (by omega) (fun i h1 h2 => ?_) (hk.tr (by rw [e3]; exact kH_19 M1 13 t2 (by decide) (by decide) (by decide))) (by rw [e3, e2]; rfl) (by rw [e3]; exact g26) (by rw [e3]; exact w)
        by_cases c : i = D1
        · rw [c]; exact q
        · exact hz i (by omega) h2
      · have hl0 : D1 + 1 = lst (dvv tx (sp tx a b) pt) (dcn j pt) := by
          rcases Nat.lt_trichotomy (lst (dvv tx (sp tx a b) pt) (dcn j pt)) (D1 + 1) with c | c | c
          · exact absurd (l2 D1 (by omega) (by omega)) q
          · exact c.symm
          · rcases l3 with l3 | l3
            · omega
            · exact absurd (hz _ (by omega) (by omega)) l3
        rw [eP (D1 + 1) hl0]
        exact h198 x3 j pt E M1 hx3 hni hS hG hE hk (isD_cut hD0 (by omega) (by rw [g13, ← hl0]) g26) w
  have h102 : ∀ x3 z : Int32, x3 = (if sn tx a b then 1 else 0) → z = zI (sp tx a b) → ¬ (8 ≤ t ∧ INF tx (sp tx a b) b) → B_M_readReal_102 post (zI t) x3 z M := by
    intro x3 z hx3 hz hni
    unfold B_M_readReal_102
    intro M1 e1
    have k1 : kH M M1 := by rw [e1]; exact kH_19 M 15 z (by decide) (by decide) (by decide)
    have a1 : atM M1 (sp tx a b) b := ⟨by rw [e1, hz]; rfl, by rw [e1]; exact hA.2⟩
    have w1 : mg_I M1 19 9 = 0 := by rw [e1]; exact h9
    refine s_M_digits hT (k1.1.1.txm hx) hbn hspb a1 (fun j pt M2 hS k2 a2 hD w2 => ?_)
    have hS : SE tx (sp tx a b) b (mayP t) j pt := by
      have : (¬ (1 : Int32) = 0) = mayP t := propext ⟨fun _ => Or.inr h8, fun _ => by decide⟩
      rw [← this]
      exact hS
    obtain ⟨z1, z2, z3, z4⟩ := B0_le hS.1
    have hpj := hS.1.1
    unfold B_M_readReal_127
    have hbad : (∀ E, ¬ GD tx (sp tx a b) b t j pt E) → ∀ M3 : nf_M, kH M M3 → ∀ M4 : nf_M, M4 = ms_I M3 19 9 (3 : Int32) → post () M4 := fun hG M3 k3 M4 e4 =>
      k 1 (-1, 0, 0, 0) M4 ⟨a, b, hB, Or.inr ⟨hni, j, pt, hS, Or.inl ⟨hG, rfl⟩⟩⟩ ⟨by rw [e4]; exact k3.tr (kH_19 M3 9 3 (by decide) (by decide) (by decide)), Or.inr (Or.inl ⟨rfl, by rw [e4]; rfl⟩)⟩
    by_cases d0 : dcn j pt = 0
    · rw [if_pos d0]
      refine ⟨fun _ => ⟨fun _ => hbad (fun E h => h.1 d0) M2 (k1.tr k2), fun q => absurd rfl q⟩, fun q => absurd (show (zI (-1) : Int32) < 0 by decide) q⟩
    · rw [if_neg d0]
      have eb : (if pt < 0 then (0 : Int) else (dcn j pt : Int) - pt) = ((dcn j pt - B0 j pt : Nat) : Int) := by
        split
        · rename_i h
          rw [if_pos h] at z3
          omega
        · rename_i h
          rw [if_neg h] at z3
          omega
      rw [eb]
      refine ⟨fun q => absurd q (by rw [i32_lt, t0, z_of (by omega)]; omega), fun _ => ?_⟩
      have hfin : ∀ (E : Int) (M3 : nf_M), GD tx (sp tx a b) b t j pt E → -1000 < E ∧ E < 1000 → kJ M2 M3 → ((zI E = (9999 : Int32) → ∀ M1 : nf_M, M1 = ms_I M3 19 9 (3 : Int32) → (post () M1)) ∧ (¬ zI E = (9999 : Int32) → ∀ t2 : Int32, t2 = zI E - zI ((dcn j pt - B0 j pt : Nat) : Int) → (∃ n9 : Nat, B_M_readReal_150 post n9 (zI t) x3 t2 M3))) := by
        intro E M3 hG hE hj
        rw [show (9999 : Int32) = zI 9999 by decide, zI_eq (by omega) (by omega) (by omega) (by omega)]
        refine ⟨fun q => by omega, fun _ t2 e2 => ?_⟩
        rw [zI_sub] at e2
        have h := h150 x3 j pt E M3 hx3 hni hS hG hE (hj.d hD) (dcn j pt) M3 (Nat.le_refl _) (fun i h1 h2 => by omega) (k1.tr (k2.tr hj.1)) (hj.d hD).1 rfl (by rw [hj.2.2 9 (by decide), w2]; exact w1)
        rw [e2]
        refine ⟨dcn j pt + 1, ?_⟩
        have ee : E - ((dcn j pt - B0 j pt : Nat) : Int) = (B0 j pt : Int) - (dcn j pt : Int) + E := by omega
        rw [ee]
        exact h
      refine s_M_exponent hT ((k1.tr k2).1.1.txm hx) hbn hpj a2 (fun hno M3 j3 => ?_) (fun he M3 j3 => ?_) (fun hlt he m hE hm hmb M3 j3 => ?_)
      · refine ⟨fun _ => hbad (fun E h => hno ?_) M3 (k1.tr (k2.tr j3.1)), fun q => absurd (show zI 9999 = (9999 : Int32) by decide) q⟩
        rcases h.2 with ⟨g1, g2⟩ | ⟨g1, g2, g3, m, g4, g5, g6, g7⟩
        · exact Or.inl g1
        · exact Or.inr ⟨g3, m, g4, g5, g6⟩
      · exact hfin 0 M3 ⟨d0, Or.inl ⟨he, rfl⟩⟩ (by omega) j3
      · refine hfin _ M3 ⟨d0, Or.inr ⟨h8, hlt, he, m, hE, hm, hmb, rfl⟩⟩ ?_ j3
        have q3 := xdv_lt hE
        have q4 : 10 ^ m ≤ 10 ^ 3 := Nat.pow_le_pow_right (by decide) hE.1
        unfold xsg
        split <;> omega
  have h53 : ∀ x3 x4 z : Int32, x3 = (if sn tx a b then 1 else 0) → z = zI (sp tx a b) → ((x4 = 0 ∧ sp tx a b = a) ∨ (¬ x4 = 0 ∧ sp tx a b = a + 1)) → B_M_readReal_53 post (zI t) x3 x4 z M := by
    intro x3 x4 z hx3 hz hx4
    unfold B_M_readReal_53 B_M_readReal_79
    rw [hz]
    refine s_M_isWord hT hx hbn hspb hA.2 (fun hI => ⟨fun q => absurd q (by decide), fun _ => ?_⟩) (fun hI => ⟨fun _ => ⟨fun q => h102 x3 _ hx3 ?_ (fun h => hI h.2), fun q => h102 x3 _ hx3 ?_ (fun h => hI h.2)⟩, fun q => absurd rfl q⟩)
    · have hrd : rd1 n tx t 0 (flt t (dsg (sn tx a b) infD)) := ⟨a, b, hB, Or.inl ⟨h8, hI, rfl, rfl⟩⟩
      have hend : ∀ y : UInt64, y = dsg (sn tx a b) infD → FP.f2d (FP.d2f y) = y → ∀ M1 : nf_M, M1 = ms_D M 19 12 y → post () M1 := fun y ey e8 M1 e1 => by
        refine k 0 _ M1 hrd ⟨by rw [e1]; exact kH_D M 12 y, Or.inl ⟨rfl, by rw [e1]; exact h9, fun v => ?_⟩⟩
        rw [← ey, flt_st (by omega), hst y M1 v (by rw [e1]; rfl)]
        split
        · rw [e8]
        · rfl
      rw [hx3]
      by_cases hs : sn tx a b = true
      · rw [if_pos hs]
        exact ⟨fun q => absurd q (by decide), fun _ => hend _ (by unfold dsg; rw [if_pos hs]; exact inf_c.1.symm) inf_c.2.2⟩
      · rw [if_neg hs]
        exact ⟨fun _ => hend _ (by unfold dsg; rw [if_neg hs]; rfl) inf_c.2.1, fun q => absurd rfl q⟩
    · rcases hx4 with ⟨c1, c2⟩ | ⟨c1, c2⟩
      · rw [hA.1, c2]
      · exact absurd q c1
    · rcases hx4 with ⟨c1, c2⟩ | ⟨c1, c2⟩
      · exact absurd c1 q
      · rw [hA.1, z_s, c2]
  unfold P_M_readReal
  refine s_M_here hT hx hbn hab hA.1 hA.2 ?_
  unfold B_M_readReal_16 B_M_readReal_27 B_M_readReal_32
  rw [hA.1, show (45 : Int32) = zI (45 : Nat) by decide, show (43 : Int32) = zI (43 : Nat) by decide, zeq (by omega) (by omega), zeq (by omega) (by omega), z_s]
  generalize chr tx b a = c at *
  have e1 : c = 45 ∨ c = 43 → sp tx a b = a + 1 := fun q => by rw [esp, if_pos q]
  have e0 : ¬ (c = 45 ∨ c = 43) → sp tx a b = a := fun q => by rw [esp, if_neg q]
  have s1 : c = 45 → (1 : Int32) = (if sn tx a b then 1 else 0) := fun q => by rw [esn, decide_eq_true q]; rfl
  have s0 : ¬ c = 45 → (0 : Int32) = (if sn tx a b then 1 else 0) := fun q => by rw [esn, decide_eq_false q]; rfl
  refine ⟨fun q => ⟨fun w => absurd w (by decide), fun _ => ⟨fun w => absurd w (by decide), fun _ => h53 1 1 _ (s1 q) (by rw [e1 (Or.inl q)]) (Or.inr ⟨by decide, e1 (Or.inl q)⟩)⟩⟩, fun q => ⟨fun _ => ⟨fun q2 => ⟨fun w => absurd w (by decide), fun _ => h53 0 1 _ (s0 q) (by rw [e1 (Or.inr q2)]) (Or.inr ⟨by decide, e1 (Or.inr q2)⟩)⟩, fun q2 => ⟨fun _ => h53 0 0 _ (s0 q) (by rw [e0 (fun w => by rcases w with w | w; exact q w; exact q2 w)]) (Or.inl ⟨rfl, e0 (fun w => by rcases w with w | w; exact q w; exact q2 w)⟩), fun w => absurd rfl w⟩⟩, fun w => absurd rfl w⟩⟩
