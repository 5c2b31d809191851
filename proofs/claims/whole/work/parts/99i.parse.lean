/-! read: the digits, the system -/
theorem s_R_hasDigitAt {n i : Nat} {tx : Nat → Nat} {M : nf_M} {post : Int32 → nf_M → Prop} (hT : okT n tx) (hr : rowF M false n tx) (hi : i < n) (k1 : dig (tx i) → post 1 M) (k0 : ¬ dig (tx i) → post 0 M) : P_R_hasDigitAt false (zI i) M post := by
  have hx := hT.2 i hi
  unfold dig at k1 k0
  unfold P_R_hasDigitAt B_R_hasDigitAt_24 B_R_hasDigitAt_25
  refine s_at hT hr hi ?_
  rw [show (48 : Int32) = zI (48 : Nat) by decide, zlt (by omega) (by omega)]
  refine ⟨fun z => ⟨rfl, k0 (by omega)⟩, fun z => s_at hT hr hi ?_⟩
  rw [show (57 : Int32) = zI (57 : Nat) by decide, zlt (by omega) (by omega)]
  exact ⟨fun z2 => ⟨rfl, k0 (by omega)⟩, fun z2 => ⟨rfl, k1 (by omega)⟩⟩
/-- the system's numeral: where it is, its number -/
def numF (M : nf_M) (i b N l : Nat) : Prop := mg_I M 6 0 = zI i ∧ mg_I M 6 1 = zI b ∧ mg_L M 6 4 = zL N ∧ mg_I M 6 5 = zI l
theorem s_N_takeDigit {d pl N l i b : Nat} {M : nf_M} {post : Unit → nf_M → Prop} (hd : d < 10) (hpl : 1 ≤ pl ∧ pl ≤ 41) (hl : l ≤ 41) (hN : N < 1000000000000000) (hv : l + pl ≤ 15 → N * 10 ^ pl + d < 1000000000000000) (h : numF M i b N l) (k : ∀ M', kD M M' → (∀ o, o ≠ 5 → mg_I M' 6 o = mg_I M 6 o) → numF M' i b (if l + pl ≤ 15 then N * 10 ^ pl + d else N) (l + pl) → post () M') : P_N_takeDigit (zI d) (zI pl) M post := by
  obtain ⟨g1, g2, g3, g4⟩ := h
  unfold P_N_takeDigit B_N_takeDigit_35
  intro t1 e1 M2 e2
  rw [g4, zI_add, show (l : Int) + (pl : Int) = ((l + pl : Nat) : Int) by omega] at e1
  have f1 : mg_I M2 6 5 = zI (l + pl : Nat) := by rw [e2, e1]; rfl
  have f2 : mg_L M2 6 4 = zL N := by rw [e2]; exact g3
  have f3 : mg_I M2 6 0 = zI i := by rw [e2]; exact g1
  have f4 : mg_I M2 6 1 = zI b := by rw [e2]; exact g2
  have k2 : kD M M2 := by rw [e2]; exact kD_6I M 5 t1
  have f5 : ∀ o, o ≠ 5 → mg_I M2 6 o = mg_I M 6 o := fun o ho => by
    rw [e2]
    show (if o = 5 then _ else mg_I M 6 o) = _
    rw [if_neg ho]
  rw [f1, show (15 : Int32) = zI (15 : Nat) by decide, zlt (by omega) (by omega)]
  refine ⟨fun z => k M2 k2 f5 ⟨f3, f4, by rw [if_neg (by omega)]; exact f2, f1⟩, fun z => s_F_power (by omega) (fun t5 e5 M6 e6 => ?_)⟩
  have hv := hv (by omega)
  rw [f2, pw_z, zLmul, zI_l (by omega) (by omega), zLadd] at e5
  refine k M6 (k2.tr (by rw [e6]; exact kD_6L M2 4 t5)) (fun o ho => by rw [e6]; exact f5 o ho) ⟨by rw [e6]; exact f3, by rw [e6]; exact f4, ?_, by rw [e6]; exact f1⟩
  rw [if_pos (by omega), e6, e5]
  rfl
theorem s_N_parseDigits {n p b : Nat} {tx : Nat → Nat} {x2 : Int32} {M : nf_M} {post : Int32 → nf_M → Prop} (hT : okT n tx) (hr : rowF M false n tx) (hb : b ≤ n) (hp : p ≤ b) (g1 : mg_I M 6 0 = zI p) (g2 : mg_I M 6 1 = zI b) (k : ∀ j pt N l la M', SE tx p b (¬ x2 = 0) j pt → NI (dcn j pt) (dvv tx p pt) N l la → N < 1000000000000000 → kD M M' → (∀ o, o ≠ 0 → o ≠ 5 → o ≠ 6 → mg_I M' 6 o = mg_I M 6 o) → numF M' (p + j) b N l → mg_I M' 6 6 = zI ((if pt < 0 then (dcn j pt : Int) else pt) - la) → post (if dcn j pt = 0 then 0 else 1) M') : P_N_parseDigits false x2 M post := by
  have hn := hT.1
  have key : ∀ (r j : Nat) (pt : Int) (N l la : Nat) (M1 : nf_M), r + (p + j) = b → SI tx p b (¬ x2 = 0) j pt → NI (dcn j pt) (dvv tx p pt) N l la → N < 1000000000000000 → kD M M1 → (∀ o, o ≠ 0 → o ≠ 5 → o ≠ 6 → mg_I M1 6 o = mg_I M 6 o) → numF M1 (p + j) b N l → B_N_parseDigits_18 post (r + 1) false x2 (zI (dcn j pt)) (zI la) (zI pt) M1 := by
    intro r
    have fin : ∀ (j : Nat) (pt : Int) (N l la : Nat) (M1 : nf_M), SI tx p b (¬ x2 = 0) j pt → ¬ (p + j < b ∧ (dig (tx (p + j)) ∨ ((¬ x2 = 0) ∧ pt = -1 ∧ tx (p + j) = 46))) → NI (dcn j pt) (dvv tx p pt) N l la → N < 1000000000000000 → kD M M1 → (∀ o, o ≠ 0 → o ≠ 5 → o ≠ 6 → mg_I M1 6 o = mg_I M 6 o) → numF M1 (p + j) b N l → B_N_parseDigits_143 post (zI (dcn j pt)) (zI la) (zI pt) M1 := by
      intro j pt N l la M1 hS hE hN hNb hk ho hF
      have hpj := hS.1
      have hD : dcn j pt ≤ 40 := by unfold dcn; split <;> omega
      have hla := hN.1
      have hpt : -1 ≤ pt ∧ pt ≤ 40 := by
        rcases hS.2 with ⟨a, b⟩ | ⟨a, b, c, d⟩ <;> omega
      unfold B_N_parseDigits_143 B_N_parseDigits_155 B_N_parseDigits_170
      have go : ∀ z : Int, z = (if pt < 0 then (dcn j pt : Int) else pt) → ∀ t1 : Int32, t1 = zI z - zI la → ∀ M2 : nf_M, M2 = ms_I M1 6 6 t1 → ((0 < zI (dcn j pt : Nat) → (narrow .boolean (.int 1) = .int 1) ∧ post 1 M2) ∧ (¬ 0 < zI (dcn j pt : Nat) → (narrow .boolean (.int 0) = .int 0) ∧ post 0 M2)) := by
        intro z ez t1 e1 M2 e2
        rw [zI_sub] at e1
        have hk2 := k j pt N l la M2 ⟨hS, hE⟩ hN hNb (hk.tr (by rw [e2]; exact kD_6I M1 6 t1)) (fun o h0 h5 h6 => by
          rw [e2]
          show (if o = 6 then _ else mg_I M1 6 o) = _
          rw [if_neg h6]
          exact ho o h0 h5 h6) ⟨by rw [e2]; exact hF.1, by rw [e2]; exact hF.2.1, by rw [e2]; exact hF.2.2.1, by rw [e2]; exact hF.2.2.2⟩ (by rw [e2, e1, ez]; rfl)
        rw [show (0 : Int32) = zI (0 : Nat) by decide, zlt (by omega) (by omega)]
        refine ⟨fun q => ⟨rfl, ?_⟩, fun q => ⟨rfl, ?_⟩⟩
        · rw [if_neg (by omega)] at hk2
          exact hk2
        · rw [if_pos (by omega)] at hk2
          exact hk2
      rw [show (0 : Int32) = zI 0 by decide, zI_lt (by omega) (by omega) (by omega) (by omega)]
      exact ⟨fun q => go _ (by rw [if_pos q]), fun q => go _ (by rw [if_neg q])⟩
    induction r with
    | zero =>
      intro j pt N l la M1 hr1 hS hN hNb hk ho hF
      unfold B_N_parseDigits_18
      rw [hF.1, hF.2.1, zlt (by omega) (by omega)]
      exact ⟨fun q => by omega, fun _ => fin j pt N l la M1 hS (fun q => by omega) hN hNb hk ho hF⟩
    | succ r ih =>
      intro j pt N l la M1 hr1 hS hN hNb hk ho hF
      have hpj : p + j < n := by omega
      have hx := hT.2 (p + j) hpj
      have hrow := hk.2.1.row hr
      have hD : dcn j pt ≤ 40 := by unfold dcn; split <;> omega
      have hla := hN.1
      have hl := hN.2.1
      have hpt : -1 ≤ pt ∧ pt ≤ j := by
        rcases hS.2 with ⟨a, b⟩ | ⟨a, b, c, d⟩ <;> omega
      -- a digit goes on
      have hgo : dig (tx (p + j)) → B_N_parseDigits_62 (fun b1 x2 x3 x4 x5 z => B_N_parseDigits_18 post (r + 1) b1 x2 x3 x4 x5 z) post false x2 (zI (dcn j pt)) (zI la) (zI pt) M1 := by
        intro hd
        unfold dig at hd
        have hS' : SI tx p b (¬ x2 = 0) (j + 1) pt := by
          refine ⟨by omega, ?_⟩
          rcases hS.2 with ⟨a1, a2⟩ | ⟨a1, a2, a3, a4, a5⟩
          · refine Or.inl ⟨a1, fun k hk' => ?_⟩
            by_cases c : k = j
            · rw [c]; exact hd
            · exact a2 k (by omega)
          · refine Or.inr ⟨a1, a2, by omega, a4, fun k hk' hne => ?_⟩
            by_cases c : k = j
            · rw [c]; exact hd
            · exact a5 k (by omega) hne
        have eD : dcn (j + 1) pt = dcn j pt + 1 := by
          rcases hS.2 with ⟨a1, a2⟩ | ⟨a1, a2, a3, a4, a5⟩
          · unfold dcn; rw [if_pos (by omega), if_pos (by omega)]
          · unfold dcn; rw [if_neg (by omega), if_neg (by omega)]; omega
        have ev : dvv tx p pt (dcn j pt) = tx (p + j) - 48 := by
          rcases hS.2 with ⟨a1, a2⟩ | ⟨a1, a2, a3, a4, a5⟩
          · unfold dvv dcn
            rw [if_pos (by omega), if_pos (by omega)]
          · unfold dvv dcn
            rw [if_neg (show ¬ pt < 0 by omega), if_neg (by omega), show p + (j - 1) + 1 = p + j by omega]
        unfold B_N_parseDigits_62 B_N_parseDigits_124 B_N_parseDigits_130
        rw [hF.1]
        refine s_at hT hrow hpj ?_
        rw [show (46 : Int32) = zI (46 : Nat) by decide, zeq (by omega) (by omega)]
        refine ⟨fun q => by omega, fun _ => ?_⟩
        rw [hF.1]
        refine s_at hT hrow hpj ?_
        rw [show (48 : Int32) = zI (48 : Nat) by decide, zeq (by omega) (by omega), z_s]
        refine ⟨fun q t1 e1 M2 e2 => ?_, fun q => ?_⟩
        · rw [hF.1, z_s] at e1
          have hN' := NI_zero hN (by rw [ev]; omega)
          rw [← eD] at hN' ⊢
          refine ih (j + 1) pt N l la M2 (by omega) hS' hN' hNb (hk.tr (by rw [e2]; exact kD_6I M1 0 t1)) (fun o h0 h5 h6 => ?_) ⟨by rw [e2, e1]; rfl, by rw [e2]; exact hF.2.1, by rw [e2]; exact hF.2.2.1, by rw [e2]; exact hF.2.2.2⟩
          rw [e2]
          show (if o = 0 then _ else mg_I M1 6 o) = _
          rw [if_neg h0]
          exact ho o h0 h5 h6
        · rw [hF.1]
          refine s_at hT hrow hpj ?_
          have hN' := NI_dig hN (by rw [ev]; omega) (by rw [ev]; omega)
          rw [ev] at hN'
          have htake : ∀ pl : Nat, pl = (if l = 0 then 1 else dcn j pt + 1 - la) → P_N_takeDigit (zI (tx (p + j)) - zI (48 : Nat)) (zI pl) M1 (fun _ M2 => ∀ t1 : Int32, t1 = (mg_I M2 6 0) + (1 : Int32) → (∀ M3 : nf_M, M3 = ms_I M2 6 0 t1 → (B_N_parseDigits_18 post (r + 1) false x2 (zI (dcn j pt + 1 : Nat)) (zI (dcn j pt + 1 : Nat)) (zI pt) M3))) := by
            intro pl epl
            rw [← epl] at hN'
            rw [zI_sub, show (tx (p + j) : Int) - ((48 : Nat) : Int) = ((tx (p + j) - 48 : Nat) : Int) by omega]
            have hplb : 1 ≤ pl ∧ pl ≤ 41 := by rw [epl]; split <;> omega
            have hvb : l + pl ≤ 15 → N * 10 ^ pl + (tx (p + j) - 48) < 1000000000000000 := fun q => by
              obtain ⟨-, -, -, d1, -, d2⟩ := hN'
              have d3 := d2 q
              rw [if_pos q] at d3
              rw [d3]
              have : 10 ^ (l + pl) ≤ 10 ^ 15 := Nat.pow_le_pow_right (by decide) q
              have h15 : 10 ^ 15 = 1000000000000000 := by decide
              omega
            refine s_N_takeDigit (by omega) hplb (by omega) hNb hvb hF (fun M2 k2 o2 F2 t1 e1 M3 e3 => ?_)
            rw [F2.1, z_s] at e1
            rw [← eD] at hN' ⊢
            refine ih (j + 1) pt _ _ _ M3 (by omega) hS' hN' (by split; exact hvb (by assumption); exact hNb) (hk.tr (k2.tr (by rw [e3]; exact kD_6I M2 0 t1))) (fun o h0 h5 h6 => ?_) ⟨by rw [e3, e1]; rfl, by rw [e3]; exact F2.2.1, by rw [e3]; exact F2.2.2.1, by rw [e3]; exact F2.2.2.2⟩
            rw [e3]
            show (if o = 0 then _ else mg_I M2 6 o) = _
            rw [if_neg h0, o2 o h5]
            exact ho o h0 h5 h6
          rw [hF.2.2.2, z0' (by omega)]
          refine ⟨fun q2 => ?_, fun q2 => ?_⟩
          · have h := htake 1 (by rw [if_pos q2])
            exact h
          · have h := htake (dcn j pt + 1 - la) (by rw [if_neg q2])
            have es : zI ((dcn j pt + 1 : Nat) : Int) - zI (la : Int) = zI ((dcn j pt + 1 - la : Nat) : Int) := by rw [zI_sub]; congr 1; omega
            rw [es]
            exact h
      unfold B_N_parseDigits_18
      rw [hF.1, hF.2.1, zlt (by omega) (by omega)]
      refine ⟨fun _ => s_R_hasDigitAt hT hrow hpj (fun hd => ⟨fun q => absurd q (by decide), fun _ => hgo hd⟩) (fun hd => ⟨fun _ => ⟨fun q => ?_, fun q => ⟨fun q2 => ?_, fun q2 => ?_⟩⟩, fun q => absurd rfl q⟩), fun q => by omega⟩
      · exact fin j pt N l la M1 hS (fun h => by rcases h.2 with h | h; exact hd h; exact h.1 q) hN hNb hk ho hF
      · rw [i32_lt, t0, zI_ti (by omega) (by omega)] at q2
        rw [hF.1]
        refine s_at hT hrow hpj ?_
        rw [show (46 : Int32) = zI (46 : Nat) by decide, zeq (by omega) (by omega)]
        refine ⟨fun q3 => ?_, fun q3 => fin j pt N l la M1 hS (fun h => by rcases h.2 with h | h; exact hd h; exact q3 h.2.2) hN hNb hk ho hF⟩
        have ept : pt = -1 := by omega
        subst ept
        have hall : ∀ k, k < j → dig (tx (p + k)) := by
          rcases hS.2 with ⟨a1, a2⟩ | ⟨a1, a2, a3, a4, a5⟩
          · exact a2
          · omega
        have eD0 : dcn j (-1) = j := rfl
        have eD1 : dcn (j + 1) (j : Int) = j := by unfold dcn; rw [if_neg (by omega)]; omega
        have hS' : SI tx p b (¬ x2 = 0) (j + 1) (j : Int) := ⟨by omega, Or.inr ⟨q, by omega, by omega, by rw [Int.toNat_natCast]; exact q3, fun k hk' hne => hall k (by rw [Int.toNat_natCast] at hne; omega)⟩⟩
        have hN' : NI (dcn (j + 1) (j : Int)) (dvv tx p (j : Int)) N l la := by
          rw [eD1]
          rw [eD0] at hN
          refine NI_ext hN (fun k hk' => ?_)
          unfold dvv
          rw [if_pos (by omega), if_pos (by omega)]
        unfold B_N_parseDigits_62 B_N_parseDigits_130
        rw [hF.1]
        refine s_at hT hrow hpj ?_
        rw [show (46 : Int32) = zI (46 : Nat) by decide, zeq (by omega) (by omega)]
        refine ⟨fun _ t1 e1 M2 e2 => ?_, fun q4 => absurd q3 q4⟩
        rw [hF.1, z_s] at e1
        have h := ih (j + 1) (j : Int) N l la M2 (by omega) hS' hN' hNb (hk.tr (by rw [e2]; exact kD_6I M1 0 t1)) (fun o h0 h5 h6 => by
          rw [e2]
          show (if o = 0 then _ else mg_I M1 6 o) = _
          rw [if_neg h0]
          exact ho o h0 h5 h6) ⟨by rw [e2, e1]; rfl, by rw [e2]; exact hF.2.1, by rw [e2]; exact hF.2.2.1, by rw [e2]; exact hF.2.2.2⟩
        rw [eD1] at h
        rw [eD0]
        exact h
      · rw [i32_lt, t0, zI_ti (by omega) (by omega)] at q2
        exact fin j pt N l la M1 hS (fun h => by rcases h.2 with h | h; exact hd h; have := h.2.1; omega) hN hNb hk ho hF
  unfold P_N_parseDigits
  intro M1 e1 M2 e2
  have h := key (b - p) 0 (-1) 0 0 0 M2 (by omega) ⟨by omega, Or.inl ⟨rfl, fun k hk => absurd hk (Nat.not_lt_zero _)⟩⟩ ⟨Nat.le_refl _, Nat.le_refl _, fun k a b => absurd b (Nat.not_lt_zero _), (show 0 < 1 by decide), Or.inl ⟨rfl, rfl⟩, fun _ => rfl⟩ (by decide) (by rw [e2, e1]; exact (kD_6L M 4 0).tr (kD_6I _ 5 0)) (fun o h0 h5 h6 => by
    rw [e2, e1]
    show (if o = 5 then _ else mg_I M 6 o) = _
    rw [if_neg h5]) ⟨by rw [e2, e1]; exact g1, by rw [e2, e1]; exact g2, by rw [e2, e1]; rfl, by rw [e2]; rfl⟩
  exact ⟨_, h⟩
