/-! read: exponent, exact and floating numbers, the reference -/
def kJ (M M' : nf_M) : Prop := kH M M' ∧ mg_I M' 26 = mg_I M 26 ∧ ∀ j, j ≠ 15 → mg_I M' 19 j = mg_I M 19 j
theorem kJ.rf (M : nf_M) : kJ M M := ⟨kH.rf M, rfl, fun _ _ => rfl⟩
theorem kJ.tr {A B C : nf_M} (h1 : kJ A B) (h2 : kJ B C) : kJ A C := ⟨h1.1.tr h2.1, h2.2.1.trans h1.2.1, fun j hj => (h2.2.2 j hj).trans (h1.2.2 j hj)⟩
theorem kJ_15 (M : nf_M) (v : Int32) : kJ M (ms_I M 19 15 v) := ⟨kH_19 M 15 v (by decide) (by decide) (by decide), rfl, fun j hj => by
  show (if j = 15 then v else mg_I M 19 j) = _
  rw [if_neg hj]⟩
theorem kJ.d {M M' : nf_M} (h : kJ M M') {ds : Nat → Nat} {n : Nat} (hd : isD M ds n) : isD M' ds n := ⟨by rw [h.2.2 13 (by decide)]; exact hd.1, fun i hi => by rw [h.2.1]; exact hd.2 i hi⟩
theorem s_M_exponent {n i b : Nat} {tx : Nat → Nat} {M : nf_M} {post : Int32 → nf_M → Prop} (hT : okT n tx) (hx : txM M n tx) (hb : b ≤ n) (hi : i ≤ b) (hA : atM M i b) (k9 : ¬ (i = b ∨ ((tx i = 101 ∨ tx i = 69) ∧ ∃ m, EX tx (sp tx (i + 1) b) b m ∧ m ≠ 0 ∧ sp tx (i + 1) b + m = b)) → ∀ M', kJ M M' → post (zI 9999) M') (k0 : i = b → ∀ M', kJ M M' → post (zI 0) M') (k : i < b → (tx i = 101 ∨ tx i = 69) → ∀ m, EX tx (sp tx (i + 1) b) b m → m ≠ 0 → sp tx (i + 1) b + m = b → ∀ M', kJ M M' → post (zI (xsg (sn tx (i + 1) b) (xdv tx (sp tx (i + 1) b) m))) M') : P_M_exponent M post := by
  have hn := hT.1
  by_cases hib : i = b
  · have hc0 : chr tx b i = 0 := by unfold chr; rw [if_neg (by omega)]
    have k0 := k0 hib M (kJ.rf M)
    unfold P_M_exponent B_M_exponent_36
    refine s_M_here hT hx hb hi hA.1 hA.2 ?_
    rw [hc0, show (101 : Int32) = zI (101 : Nat) by decide, zeq (by omega) (by omega)]
    refine ⟨fun q => by omega, fun _ => s_M_here hT hx hb hi hA.1 hA.2 ?_⟩
    rw [hc0, show (69 : Int32) = zI (69 : Nat) by decide, zeq (by omega) (by omega), hA.1, hA.2, zeq (by omega) (by omega)]
    exact ⟨fun q => by omega, fun _ => ⟨fun _ => k0, fun q => absurd hib q⟩⟩
  · have hlt : i < b := by omega
    have hc0 : chr tx b i = tx i := by unfold chr; rw [if_pos hlt]
    have hxx := hT.2 i (by omega)
    have hspb : sp tx (i + 1) b ≤ b := by unfold sp; split <;> omega
    have h37 : (tx i = 101 ∨ tx i = 69) → B_M_exponent_37 post M := by
      intro he
      unfold B_M_exponent_37
      intro t1 e1 M2 e2
      rw [hA.1, z_s] at e1
      have j2 : kJ M M2 := by rw [e2]; exact kJ_15 M t1
      have hx2 := j2.1.1.1.txm hx
      have a2 : atM M2 (i + 1) b := ⟨by rw [e2, e1]; rfl, by rw [e2]; exact hA.2⟩
      -- the loop
      have h98 : ∀ (y : Int32), (y = 0 ↔ sn tx (i + 1) b = false) → ∀ (r m : Nat) (M3 : nf_M), r + m = 3 → sp tx (i + 1) b + m ≤ b → (∀ k, k < m → dig (tx (sp tx (i + 1) b + k))) → kJ M M3 → atM M3 (sp tx (i + 1) b + m) b → B_M_exponent_98 post (r + 1) y (zI (xdv tx (sp tx (i + 1) b) m)) (zI m) M3 := by
        intro y hy
        have fin : ∀ (m : Nat) (M3 : nf_M), EX tx (sp tx (i + 1) b) b m → kJ M M3 → atM M3 (sp tx (i + 1) b + m) b → B_M_exponent_143 post y (zI (xdv tx (sp tx (i + 1) b) m)) (zI m) M3 := by
          intro m M3 hE hj hA3
          have hm3 := hE.1
          have hmb := hE.2.1
          have hbad : (m = 0 ∨ sp tx (i + 1) b + m ≠ b) → post (zI 9999) M3 := fun hc => k9 (fun h => by
            rcases h with h | ⟨_, m', h4, h5, h6⟩
            · exact hib h
            · have := EX_1 hE h4
              subst this
              rcases hc with hc | hc
              · exact h5 hc
              · exact hc h6) M3 hj
          unfold B_M_exponent_143 B_M_exponent_159 B_M_exponent_175
          rw [z0' (by omega), hA3.1, hA3.2, zlt (by omega) (by omega), hy]
          refine ⟨fun q => hbad (Or.inl q), fun q => ⟨fun q2 => hbad (Or.inr (by omega)), fun q2 => ?_⟩⟩
          have kk := k hlt he m hE q (by omega) M3 hj
          unfold xsg at kk
          refine ⟨fun q3 => ?_, fun q3 => ?_⟩
          · rw [q3, if_neg (by decide)] at kk
            exact kk
          · have q4 : sn tx (i + 1) b = true := by
              cases hsn : sn tx (i + 1) b
              · exact absurd hsn q3
              · rfl
            rw [q4, if_pos rfl] at kk
            rw [zI_neg]
            exact kk
        intro r
        induction r with
        | zero =>
          intro m M3 hr hm hd hj hA3
          have hE : EX tx (sp tx (i + 1) b) b m := ⟨by omega, hm, hd, Or.inl (by omega)⟩
          unfold B_M_exponent_98
          refine s_M_here hT (hj.1.1.1.txm hx) hb hm hA3.1 hA3.2 (s_M_isDigit (chr_lt hT hb _) (fun hdg => ⟨fun q => absurd q (by decide), fun _ => ?_⟩) (fun hdg => ⟨fun _ => fin m M3 hE hj hA3, fun q => absurd rfl q⟩))
          rw [show (3 : Int32) = zI (3 : Nat) by decide, zlt (by omega) (by omega)]
          exact ⟨fun q => by omega, fun _ => fin m M3 hE hj hA3⟩
        | succ r ih =>
          intro m M3 hr hm hd hj hA3
          have hx3 := hj.1.1.1.txm hx
          unfold B_M_exponent_98
          refine s_M_here hT hx3 hb hm hA3.1 hA3.2 (s_M_isDigit (chr_lt hT hb _) (fun hdg => ⟨fun q => absurd q (by decide), fun _ => ?_⟩) (fun hdg => ⟨fun _ => fin m M3 ⟨by omega, hm, hd, ?_⟩ hj hA3, fun q => absurd rfl q⟩))
          · rw [show (3 : Int32) = zI (3 : Nat) by decide, zlt (by omega) (by omega)]
            have hin : sp tx (i + 1) b + m < b := by
              refine Nat.lt_of_not_le fun q => ?_
              unfold chr at hdg
              rw [if_neg (by omega)] at hdg
              unfold dig at hdg
              omega
            have ec : chr tx b (sp tx (i + 1) b + m) = tx (sp tx (i + 1) b + m) := by unfold chr; rw [if_pos hin]
            have hdg2 := hdg
            rw [ec] at hdg
            rw [ec] at hdg2
            unfold dig at hdg2
            refine ⟨fun _ => s_M_here hT hx3 hb hm hA3.1 hA3.2 (fun t7 e7 t8 e8 M9 e9 => ?_), fun q => by omega⟩
            have hlt2 : xdv tx (sp tx (i + 1) b) m < 1000 := by
              have h1 : xdv tx (sp tx (i + 1) b) m < 10 ^ m := by
                refine vd_lt _ m (fun k hk => ?_)
                have := hd k hk
                unfold dig at this
                omega
              have : 10 ^ m ≤ 10 ^ 3 := Nat.pow_le_pow_right (by decide) (by omega)
              omega
            have e10' : xdv tx (sp tx (i + 1) b) (m + 1) = 10 * xdv tx (sp tx (i + 1) b) m + (tx (sp tx (i + 1) b + m) - 48) := rfl
            have e11 : t7 = zI (xdv tx (sp tx (i + 1) b) (m + 1)) := by
              rw [e7, ec, show (10 : Int32) = zI (10 : Nat) by decide, show (48 : Int32) = zI (48 : Nat) by decide, zI_mul, zI_add, zI_sub, e10']
              congr 1
              omega
            rw [hA3.1, z_s] at e8
            rw [e11, z_s]
            refine ih (m + 1) M9 (by omega) (by omega) (fun k hk' => ?_) (hj.tr (by rw [e9]; exact kJ_15 M3 t8)) ⟨by rw [e9, e8]; rfl, by rw [e9]; exact hA3.2⟩
            by_cases c : k = m
            · rw [c]; exact hdg
            · exact hd k (by omega)
          · by_cases c : sp tx (i + 1) b + m = b
            · exact Or.inr (Or.inl c)
            · refine Or.inr (Or.inr ?_)
              have ec : chr tx b (sp tx (i + 1) b + m) = tx (sp tx (i + 1) b + m) := by unfold chr; rw [if_pos (by omega)]
              rw [ec] at hdg
              exact hdg
      have h90 : ∀ (y z : Int32), (y = 0 ↔ sn tx (i + 1) b = false) → z = zI (sp tx (i + 1) b) → B_M_exponent_90 post y z M2 := by
        intro y z hy hz
        unfold B_M_exponent_90
        intro M3 e3
        have h := h98 y hy 3 0 M3 rfl (by omega) (fun k hk => absurd hk (Nat.not_lt_zero _)) (j2.tr (by rw [e3]; exact kJ_15 M2 z)) ⟨by rw [e3, hz]; rfl, by rw [e3]; exact a2.2⟩
        exact ⟨_, h⟩
      refine s_M_here hT hx2 hb (by omega) a2.1 a2.2 ?_
      have hcl := chr_lt hT hb (i + 1)
      have hsn : sn tx (i + 1) b = decide (chr tx b (i + 1) = 45) := by
        unfold sn chr
        by_cases c : i + 1 < b
        · rw [if_pos c]
          by_cases d : tx (i + 1) = 45
          · rw [decide_eq_true ⟨c, d⟩, decide_eq_true d]
          · rw [decide_eq_false (fun w => d w.2), decide_eq_false d]
        · rw [if_neg c, decide_eq_false (fun w => c w.1)]
          rfl
      have hsp : sp tx (i + 1) b = if chr tx b (i + 1) = 45 ∨ chr tx b (i + 1) = 43 then i + 1 + 1 else i + 1 := by
        unfold sp chr
        by_cases c : i + 1 < b
        · rw [if_pos c]
          by_cases d : tx (i + 1) = 45 ∨ tx (i + 1) = 43
          · rw [if_pos ⟨c, d⟩, if_pos d]
          · rw [if_neg (fun w => d w.2), if_neg d]
        · rw [if_neg (fun w => c w.1), if_neg c, if_neg (by omega)]
      generalize chr tx b (i + 1) = c at *
      rw [show (45 : Int32) = zI (45 : Nat) by decide, zeq (by omega) (by omega)]
      unfold B_M_exponent_63 B_M_exponent_77
      rw [a2.1, show (45 : Int32) = zI (45 : Nat) by decide, show (43 : Int32) = zI (43 : Nat) by decide, zeq (by omega) (by omega), zeq (by omega) (by omega), z_s]
      have y1 : c = 45 → ((1 : Int32) = 0 ↔ sn tx (i + 1) b = false) := fun q => by
        rw [hsn, decide_eq_true q]
        exact ⟨fun w => absurd w (by decide), fun w => absurd w (by decide)⟩
      have y0 : ¬ c = 45 → ((0 : Int32) = 0 ↔ sn tx (i + 1) b = false) := fun q => by
        rw [hsn, decide_eq_false q]
        exact ⟨fun _ => rfl, fun _ => rfl⟩
      refine ⟨fun q => ⟨fun _ => h90 _ _ (y1 q) (by rw [hsp, if_pos (Or.inl q)]), fun w => absurd q w⟩, fun q => ⟨fun w => absurd w q, fun _ => ⟨fun q2 => h90 _ _ (y0 q) (by rw [hsp, if_pos (Or.inr q2)]), fun q2 => h90 _ _ (y0 q) (by rw [hsp, if_neg (fun w => by rcases w with w | w; exact q w; exact q2 w)])⟩⟩⟩
    unfold P_M_exponent B_M_exponent_36
    refine s_M_here hT hx hb hi hA.1 hA.2 ?_
    rw [hc0, show (101 : Int32) = zI (101 : Nat) by decide, zeq (by omega) (by omega)]
    refine ⟨fun q => h37 (Or.inl q), fun q => s_M_here hT hx hb hi hA.1 hA.2 ?_⟩
    rw [hc0, show (69 : Int32) = zI (69 : Nat) by decide, zeq (by omega) (by omega), hA.1, hA.2, zeq (by omega) (by omega)]
    refine ⟨fun q2 => h37 (Or.inr q2), fun q2 => ⟨fun q3 => absurd q3 hib, fun _ => k9 (fun h => ?_) M (kJ.rf M)⟩⟩
    rcases h with h | h
    · exact hib h
    · rcases h.1 with h | h
      · exact q h
      · exact q2 h
/-- what the reference's reading leaves: 0 an answer, 1 not so written or not fitting, 4 beyond the limit -/
def rdM (t k : Nat) (c : nf_V) (M M' : nf_M) : Prop := kH M M' ∧ ((k = 0 ∧ mg_I M' 19 9 = 0 ∧ ∀ v, sto (ms_I M' 19 0 v) (zI t) = c) ∨ (k = 1 ∧ mg_I M' 19 9 = 3) ∨ (k = 4 ∧ mg_I M' 19 9 = 5))
theorem vd_lst {dv : Nat → Nat} {D : Nat} : vd dv (lst dv D) = 0 ↔ lst dv D = 0 := by
  obtain ⟨a, b, c⟩ := lst_ok dv D
  constructor
  · intro h
    rcases c with c | c
    · exact c
    · refine Classical.byContradiction fun q => c ?_
      obtain ⟨y, hy⟩ : ∃ y, lst dv D = y + 1 := ⟨lst dv D - 1, by omega⟩
      rw [hy] at h ⊢
      rw [Nat.add_sub_cancel]
      have : 10 * vd dv y + dv y = 0 := h
      omega
  · intro h
    rw [h]
    rfl
theorem isD_cut {M M' : nf_M} {ds : Nat → Nat} {n m : Nat} (h : isD M ds n) (hm : m ≤ n) (e : mg_I M' 19 13 = zI m) (e26 : mg_I M' 26 = mg_I M 26) : isD M' ds m := ⟨e, fun i hi => by rw [e26]; exact h.2 i (by omega)⟩
theorem s_M_settle0 {x1 : Int32} {neg : Bool} {ds : Nat → Nat} {M : nf_M} {post : Unit → nf_M → Prop} (hx : x1 = if neg then 1 else 0) (hD : isD M ds 0) (h9 : mg_I M 19 9 = 0) (k : ∀ M', resM neg (dz 0 0) M M' → post () M') : P_M_settle x1 (zI (0 : Nat)) (zI (0 : Nat)) M post := by
  unfold P_M_settle
  refine ⟨1, ?_⟩
  unfold B_M_settle_6 B_M_settle_123 B_M_settle_124
  refine ⟨fun q => absurd q (by decide), fun _ => ⟨fun q => absurd q (by decide), fun _ => ⟨fun q => absurd q (by decide), fun _ t1 e1 => ⟨1, ?_⟩⟩⟩⟩
  rw [hD.1] at e1
  unfold B_M_settle_134
  have et : t1 = -1 := by rw [e1]; decide
  refine ⟨fun _ => ⟨1, ?_⟩, fun q => absurd (by rw [et]; decide) q⟩
  have h := s_M_settle199 (M0 := M) (post := post) hx 0 0 0 M (Nat.le_refl _) ⟨by decide, hD.1, ds, fun i hi => absurd hi (Nat.not_lt_zero _), rfl⟩ h9 (kH.rf M) k
  exact h
theorem s_M_rd118 {t w D1 b1 : Nat} {neg : Bool} {x3 : Int32} {ds : Nat → Nat} {M0 M : nf_M} {post : Unit → nf_M → Prop} (ht : t < 8) (hx : x3 = if neg then 1 else 0) (hD : isD M ds D1) (hD40 : D1 ≤ 40) (hb : b1 ≤ D1) (hw : w = vd ds D1) (hn : b1 = 0 ∨ w % 10 ≠ 0) (h9 : mg_I M 19 9 = 0) (hk : kH M0 M) (k : ∀ k c M', ((6 < b1 ∧ k = 4) ∨ (b1 ≤ 6 ∧ 1000000000000000 ≤ w ∧ k = 4) ∨ (b1 ≤ 6 ∧ w < 1000000000000000 ∧ fitR t (sgd neg w) b1 k c)) → rdM t k c M0 M' → post () M') : B_M_readExact_118 post (zI t) x3 (zI b1) M := by
  have et : (zI (t : Int)).toInt = t := z_of (by omega)
  unfold B_M_readExact_118 B_M_readExact_162 B_M_readExact_166
  rw [e6i, zlt (by omega) (by omega)]
  refine ⟨fun q M1 e1 => k 4 (-1, 0, 0, 0) M1 (Or.inl ⟨q, rfl⟩) ⟨hk.tr (by rw [e1]; exact kH_19 M 9 5 (by decide) (by decide) (by decide)), Or.inr (Or.inr ⟨rfl, by rw [e1]; rfl⟩)⟩, fun q => ?_⟩
  have hdz : dz b1 w = (w, b1) := by
    rcases hn with hn | hn
    · rw [hn]; rfl
    · cases b1 with
      | zero => rfl
      | succ s =>
        unfold dz
        rw [if_neg hn]
  have hres : ∀ M3 : nf_M, resM neg (dz b1 w) M M3 → ((mg_I M3 19 9) = 0 → P_M_fits (zI t) (mg_L M3 19 10) M3 (fun r4 M5 => (r4 = 0 → ∀ M1 : nf_M, M1 = ms_I M5 19 9 (3 : Int32) → (post () M1)) ∧ (¬ r4 = 0 → ∀ M1 : nf_M, M1 = ms_I M5 19 9 (mg_I M5 19 9) → (post () M1)))) ∧ (¬ (mg_I M3 19 9) = 0 → ∀ M1 : nf_M, M1 = ms_I M3 19 9 (mg_I M3 19 9) → (post () M1)) := by
    intro M3 hr
    rw [hdz] at hr
    obtain ⟨hk3, ⟨hl, e9, eu, es⟩ | ⟨hl, e9⟩⟩ := hr
    · dsimp only at hl eu es
      rw [e9, eu]
      have lu : lim (sgd neg w) := by
        show -1000000000000000 < _ ∧ _ < 1000000000000000
        unfold sgd
        split <;> omega
      refine ⟨fun _ => s_M_fits ht lu (fun q2 => ⟨fun z => absurd z (by decide), fun _ M1 e1 => ?_⟩) (fun q2 q3 => ⟨fun _ M1 e1 => ?_, fun z => absurd rfl z⟩), fun z => absurd rfl z⟩
      · refine k 0 _ M1 (Or.inr (Or.inr ⟨by omega, hl, Or.inr ⟨q2, rfl, rfl⟩⟩)) ⟨hk.tr (hk3.tr (by rw [e1]; exact kH_19 M3 9 _ (by decide) (by decide) (by decide))), Or.inl ⟨rfl, by rw [e1]; exact e9, fun v => ?_⟩⟩
        unfold sto
        rw [if_pos (by omega), e1]
        show (_, mg_L M3 19 10, mg_I M3 19 11, _) = _
        rw [eu, es]
      · exact k 1 (-1, 0, 0, 0) M1 (Or.inr (Or.inr ⟨by omega, hl, Or.inl ⟨q2, q3, rfl⟩⟩)) ⟨hk.tr (hk3.tr (by rw [e1]; exact kH_19 M3 9 3 (by decide) (by decide) (by decide))), Or.inr (Or.inl ⟨rfl, by rw [e1]; rfl⟩)⟩
    · dsimp only at hl
      rw [e9]
      refine ⟨fun z => absurd z (by decide), fun _ M1 e1 => k 4 (-1, 0, 0, 0) M1 (Or.inr (Or.inl ⟨by omega, by omega, rfl⟩)) ⟨hk.tr (hk3.tr (by rw [e1]; exact kH_19 M3 9 5 (by decide) (by decide) (by decide))), Or.inr (Or.inr ⟨rfl, by rw [e1]; rfl⟩)⟩⟩
  rw [e0i]
  rw [e0i] at hres
  by_cases hD0 : D1 = 0
  · subst hD0
    have hb0 : b1 = 0 := by omega
    subst hb0
    have hw0 : w = 0 := hw
    subst hw0
    exact s_M_settle0 hx hD h9 hres
  · have hwlt : w < 10 ^ D1 := by
      rw [hw]
      exact vd_lt ds D1 (fun i hi => (hD.2 i hi).2)
    refine s_M_settle_small (w := w) (n := D1) (c := 0) hx (by decide) hb (by omega) (by omega) ⟨by omega, hD.1, ds, hD.2, hw.symm⟩ h9 (by rw [rou_0]; exact hwlt) (fun M' hr => ?_)
    rw [rou_0] at hr
    exact hres M' hr
