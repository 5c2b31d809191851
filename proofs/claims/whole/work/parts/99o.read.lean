/-! read: exact and floating numbers, the reference -/
def B0 (j : Nat) (pt : Int) : Nat := if pt < 0 then dcn j pt else pt.toNat
theorem B0_le {tx : Nat → Nat} {p b j : Nat} {may : Prop} {pt : Int} (h : SI tx p b may j pt) : B0 j pt ≤ dcn j pt ∧ dcn j pt ≤ j ∧ (B0 j pt : Int) = (if pt < 0 then (dcn j pt : Int) else pt) ∧ (pt < 0 → pt = -1) := by
  unfold B0 dcn
  rcases h.2 with ⟨a, b⟩ | ⟨a, b, c, d⟩
  · rw [if_pos (by omega), if_pos (by omega), if_pos (by omega)]; omega
  · rw [if_neg (by omega), if_neg (by omega), if_neg (by omega)]; omega
/-- the end of the reference's reading for one text -/
theorem s_M_rd83 {n t a b j : Nat} {tx : Nat → Nat} {pt : Int} {neg : Bool} {x3 : Int32} {M0 M : nf_M} {post : Unit → nf_M → Prop} (hT : okT n tx) (hbn : b ≤ n) (ht : t < 8) (hx : x3 = if neg then 1 else 0) (hS : SE tx (sp tx a b) b (mayP t) j pt) (hD : isD M (dvv tx (sp tx a b) pt) (dcn j pt)) (h9 : mg_I M 19 9 = 0) (hk : kH M0 M) (k : ∀ k c M', RV t neg (dvL tx (sp tx a b) j pt) (pwL tx (sp tx a b) j pt 0) k c → rdM t k c M0 M' → post () M') : ∀ (r b1 : Nat) (M1 : nf_M), r = b1 → B0 j pt + b1 ≤ dcn j pt → (∀ i, B0 j pt + b1 ≤ i → i < dcn j pt → dvv tx (sp tx a b) pt i = 0) → kH M0 M1 → mg_I M1 19 13 = zI (B0 j pt + b1 : Nat) → mg_I M1 26 = mg_I M 26 → mg_I M1 19 9 = 0 → B_M_readExact_83 post (r + 1) (zI t) x3 (zI b1) M1 := by
  have hn := hT.1
  have hpj := hS.1.1
  obtain ⟨z1, z2, z3, z4⟩ := B0_le hS.1
  have hd10 := dvv_lt hS.1
  obtain ⟨l1, l2, l3⟩ := lst_ok (dvv tx (sp tx a b) pt) (dcn j pt)
  have fin : ∀ (b1 : Nat) (M1 : nf_M), B0 j pt + b1 ≤ dcn j pt → (b1 = 0 ∨ dvv tx (sp tx a b) pt (B0 j pt + b1 - 1) ≠ 0) → (∀ i, B0 j pt + b1 ≤ i → i < dcn j pt → dvv tx (sp tx a b) pt i = 0) → kH M0 M1 → mg_I M1 19 13 = zI (B0 j pt + b1 : Nat) → mg_I M1 26 = mg_I M 26 → mg_I M1 19 9 = 0 → B_M_readExact_118 post (zI t) x3 (zI b1) M1 := by
    intro b1 M1 hb1 hnz hz hk1 g13 g26 g9
    refine s_M_rd118 ht hx (isD_cut hD hb1 g13 g26) (by omega) (by omega) rfl ?_ g9 hk1 (fun k' c M' ho hr => k k' c M' ?_ hr)
    · by_cases c0 : b1 = 0
      · exact Or.inl c0
      · right
        have hnz := hnz.resolve_left c0
        obtain ⟨y, hy⟩ : ∃ y, B0 j pt + b1 = y + 1 := ⟨B0 j pt + b1 - 1, by omega⟩
        rw [hy] at hnz ⊢
        rw [Nat.add_sub_cancel] at hnz
        have h10 := hd10 y (by omega)
        show (10 * vd (dvv tx (sp tx a b) pt) y + dvv tx (sp tx a b) pt y) % 10 ≠ 0
        omega
    · have eV : dvL tx (sp tx a b) j pt = vd (dvv tx (sp tx a b) pt) (lst (dvv tx (sp tx a b) pt) (dcn j pt)) := rfl
      have eP : pwL tx (sp tx a b) j pt 0 = (B0 j pt : Int) - (lst (dvv tx (sp tx a b) pt) (dcn j pt) : Nat) := by
        unfold pwL
        rw [z3, Int.add_zero]
      have hvl := vd_lst (dv := dvv tx (sp tx a b) pt) (D := dcn j pt)
      rw [← eV] at hvl
      by_cases c0 : b1 = 0
      · subst c0
        have hll : lst (dvv tx (sp tx a b) pt) (dcn j pt) ≤ B0 j pt := by
          refine Nat.le_of_not_lt fun q => ?_
          rcases l3 with l3 | l3
          · omega
          · exact l3 (hz _ (by omega) (by omega))
        have hw : vd (dvv tx (sp tx a b) pt) (B0 j pt + 0) = dvL tx (sp tx a b) j pt * 10 ^ (pwL tx (sp tx a b) j pt 0).toNat := by
          have h := vd_zeros (f := dvv tx (sp tx a b) pt) (l := lst (dvv tx (sp tx a b) pt) (dcn j pt)) (B0 j pt - lst (dvv tx (sp tx a b) pt) (dcn j pt)) (fun k h1 h2 => l2 k h1 (by omega))
          rw [show lst (dvv tx (sp tx a b) pt) (dcn j pt) + (B0 j pt - lst (dvv tx (sp tx a b) pt) (dcn j pt)) = B0 j pt + 0 by omega] at h
          rw [h, eV]
          congr 2
          omega
        have hpw0 : 0 ≤ pwL tx (sp tx a b) j pt 0 := by omega
        generalize pwL tx (sp tx a b) j pt 0 = pw at *
        generalize dvL tx (sp tx a b) j pt = V at *
        rw [hw] at ho
        rcases ho with ⟨o1, o2⟩ | ⟨o1, o2, o3⟩ | ⟨o1, o2, o3⟩
        · omega
        · refine Or.inr (Or.inl ⟨ht, fun q => ?_, Or.inr o2, o3⟩)
          rw [q, Nat.zero_mul] at o2
          omega
        · by_cases hV : V = 0
          · refine Or.inl ⟨ht, hV, ?_⟩
            rw [hV, Nat.zero_mul] at o3
            have e0 : sgd neg 0 = 0 := by unfold sgd; split <;> rfl
            rw [e0] at o3
            exact o3
          · refine Or.inr (Or.inr (Or.inl ⟨ht, hV, by omega, o2, ?_⟩))
            rw [show (-pw).toNat = 0 by omega]
            exact o3
      · have hnz := hnz.resolve_left c0
        have hll : lst (dvv tx (sp tx a b) pt) (dcn j pt) = B0 j pt + b1 := by
          rcases Nat.lt_trichotomy (lst (dvv tx (sp tx a b) pt) (dcn j pt)) (B0 j pt + b1) with q | q | q
          · exact absurd (l2 (B0 j pt + b1 - 1) (by omega) (by omega)) hnz
          · exact q
          · rcases l3 with l3 | l3
            · omega
            · exact absurd (hz _ (by omega) (by omega)) l3
        have hV : dvL tx (sp tx a b) j pt ≠ 0 := fun q => by
          have := hvl.mp q
          omega
        have hpw : pwL tx (sp tx a b) j pt 0 = -(b1 : Int) := by omega
        have hw : vd (dvv tx (sp tx a b) pt) (B0 j pt + b1) = dvL tx (sp tx a b) j pt := by rw [eV, hll]
        rw [hw] at ho
        rw [hpw]
        generalize dvL tx (sp tx a b) j pt = V at *
        have e1 : V * 10 ^ (-(b1 : Int)).toNat = V := by rw [show (-(b1 : Int)).toNat = 0 by omega, Nat.pow_zero, Nat.mul_one]
        rcases ho with ⟨o1, o2⟩ | ⟨o1, o2, o3⟩ | ⟨o1, o2, o3⟩
        · exact Or.inr (Or.inl ⟨ht, hV, Or.inl (by omega), o2⟩)
        · exact Or.inr (Or.inl ⟨ht, hV, Or.inr (by rw [e1]; exact o2), o3⟩)
        · refine Or.inr (Or.inr (Or.inl ⟨ht, hV, by omega, by rw [e1]; exact o2, ?_⟩))
          rw [e1, show (- -(b1 : Int)).toNat = b1 by omega]
          exact o3
  intro r
  induction r with
  | zero =>
    intro b1 M1 hr hb1 hz hk1 g13 g26 g9
    subst hr
    unfold B_M_readExact_83
    exact ⟨fun q => absurd q (by decide), fun _ => fin 0 M1 hb1 (Or.inl rfl) hz hk1 g13 g26 g9⟩
  | succ r ih =>
    intro b1 M1 hr hb1 hz hk1 g13 g26 g9
    unfold B_M_readExact_83
    have hsub : mg_I M1 19 13 - (1 : Int32) = zI (B0 j pt + b1 - 1 : Nat) := by
      rw [g13, e1i, zI_sub]
      congr 1
      omega
    rw [hsub]
    obtain ⟨d1, d2⟩ := hD.2 (B0 j pt + b1 - 1) (by omega)
    refine ⟨fun _ => ⟨z_in (by omega) (by decide), ?_⟩, fun q => absurd (show (0 : Int32) < zI b1 by rw [show (0 : Int32) = zI (0 : Nat) by decide, zlt (by omega) (by omega)]; omega) q⟩
    rw [z_cl (by omega), g26, d1, z0' (by omega)]
    refine ⟨fun q t2 e2 M3 e3 => ?_, fun q => fin b1 M1 hb1 (Or.inr q) hz hk1 g13 g26 g9⟩
    rw [show zI (b1 : Int) + (-1 : Int32) = zI (b1 - 1 : Nat) by rw [show (-1 : Int32) = zI (-1) by decide, zI_add]; congr 1; omega]
    refine ih (b1 - 1) M3 (by omega) (by omega) (fun i h1 h2 => ?_) (hk1.tr (by rw [e3]; exact kH_19 M1 13 t2 (by decide) (by decide) (by decide))) (by rw [e3, e2]; show zI _ = _; congr 1; omega) (by rw [e3]; exact g26) (by rw [e3]; exact g9)
    by_cases c : i = B0 j pt + b1 - 1
    · rw [c]; exact q
    · exact hz i (by omega) h2
theorem chr_sg {n a b : Nat} {tx : Nat → Nat} (hT : okT n tx) (hb : b ≤ n) : sn tx a b = decide (chr tx b a = 45) ∧ sp tx a b = if chr tx b a = 45 ∨ chr tx b a = 43 then a + 1 else a := by
  constructor
  · unfold sn chr
    by_cases c : a < b
    · rw [if_pos c]
      by_cases d : tx a = 45
      · rw [decide_eq_true ⟨c, d⟩, decide_eq_true d]
      · rw [decide_eq_false (fun w => d w.2), decide_eq_false d]
    · rw [if_neg c, decide_eq_false (fun w => c w.1)]
      rfl
  · unfold sp chr
    by_cases c : a < b
    · rw [if_pos c]
      by_cases d : tx a = 45 ∨ tx a = 43
      · rw [if_pos ⟨c, d⟩, if_pos d]
      · rw [if_neg (fun w => d w.2), if_neg d]
    · rw [if_neg (fun w => c w.1), if_neg c, if_neg (by omega)]
theorem s_M_readExact {n t a b : Nat} {tx : Nat → Nat} {M : nf_M} {post : Unit → nf_M → Prop} (hT : okT n tx) (hx : txM M n tx) (hB : BL n tx a b) (ht : t < 8) (hA : atM M a b) (h9 : mg_I M 19 9 = 0) (k : ∀ k c M', rd1 n tx t k c → rdM t k c M M' → post () M') : P_M_readExact (zI t) M post := by
  have hn := hT.1
  have hab := hB.2.2.2.1
  have hbn := hB.2.2.2.2.1
  have hni : ¬ (8 ≤ t ∧ INF tx (sp tx a b) b) := fun h => by omega
  have hspb : sp tx a b ≤ b := by unfold sp; split <;> omega
  obtain ⟨esn, esp⟩ := chr_sg (a := a) hT hbn
  have hcl := chr_lt hT hbn a
  have h43 : ∀ x3 z : Int32, x3 = (if sn tx a b then 1 else 0) → z = zI (sp tx a b) → B_M_readExact_43 post (zI t) x3 z M := by
    intro x3 z hx3 hz
    unfold B_M_readExact_43
    intro M1 e1
    have k1 : kH M M1 := by rw [e1]; exact kH_19 M 15 z (by decide) (by decide) (by decide)
    have a1 : atM M1 (sp tx a b) b := ⟨by rw [e1, hz]; rfl, by rw [e1]; exact hA.2⟩
    have w1 : mg_I M1 19 9 = 0 := by rw [e1]; exact h9
    have h56 : ∀ y : Int32, (¬ y = 0 ↔ mayP t) → B_M_readExact_56 post (zI t) x3 y M1 := by
      intro y hy
      unfold B_M_readExact_56 B_M_readExact_77
      refine s_M_digits hT (k1.1.1.txm hx) hbn hspb a1 (fun j pt M2 hS k2 a2 hD w2 => ?_)
      have hS : SE tx (sp tx a b) b (mayP t) j pt := by
        have : (¬ y = 0) = mayP t := propext hy
        rw [← this]
        exact hS
      obtain ⟨z1, z2, z3, z4⟩ := B0_le hS.1
      have hpj := hS.1.1
      have hbad : (∀ E, ¬ GD tx (sp tx a b) b t j pt E) → ∀ M3 : nf_M, M3 = ms_I M2 19 9 (3 : Int32) → post () M3 := fun hG M3 e3 =>
        k 1 (-1, 0, 0, 0) M3 ⟨a, b, hB, Or.inr ⟨hni, j, pt, hS, Or.inl ⟨hG, rfl⟩⟩⟩ ⟨by rw [e3]; exact k1.tr (k2.tr (kH_19 M2 9 3 (by decide) (by decide) (by decide))), Or.inr (Or.inl ⟨rfl, by rw [e3]; rfl⟩)⟩
      by_cases d0 : dcn j pt = 0
      · rw [if_pos d0]
        exact ⟨fun _ => hbad (fun E h => h.1 d0), fun q => absurd (show (zI (-1) : Int32) < 0 by decide) q⟩
      · rw [if_neg d0]
        have eb : (if pt < 0 then (0 : Int) else (dcn j pt : Int) - pt) = ((dcn j pt - B0 j pt : Nat) : Int) := by
          split
          · rename_i h
            rw [if_pos h] at z3
            omega
          · rename_i h
            rw [if_neg h] at z3
            omega
        rw [eb]
        refine ⟨fun q => absurd q (by rw [i32_lt, t0, z_of (by omega)]; omega), fun _ => ?_⟩
        rw [a2.1, a2.2, zlt (by omega) (by omega)]
        refine ⟨fun q => hbad (fun E h => ?_), fun q => ?_⟩
        · rcases h.2 with ⟨h1, h2⟩ | ⟨h1, h2⟩ <;> omega
        · have hG : GD tx (sp tx a b) b t j pt 0 := ⟨d0, Or.inl ⟨by omega, rfl⟩⟩
          have h := s_M_rd83 (M0 := M) (post := post) hT hbn ht hx3 hS hD (w2.trans w1) (k1.tr k2) (fun k' c M' hv hr => k k' c M' ⟨a, b, hB, Or.inr ⟨hni, j, pt, hS, Or.inr ⟨0, hG, hv⟩⟩⟩ hr) (dcn j pt - B0 j pt) (dcn j pt - B0 j pt) M2 rfl (by omega) (fun i h1 h2 => by omega) (k1.tr k2) (by rw [hD.1]; congr 1; omega) rfl (w2.trans w1)
          exact ⟨_, h⟩
    rw [z0' (by omega)]
    refine ⟨fun q => h56 1 ⟨fun _ => Or.inl (by omega), fun _ => by decide⟩, fun q => h56 0 ⟨fun w => absurd rfl w, fun w => ?_⟩⟩
    unfold mayP at w
    omega
  unfold P_M_readExact
  refine s_M_here hT hx hbn hab hA.1 hA.2 ?_
  unfold B_M_readExact_16 B_M_readExact_30
  rw [hA.1, show (45 : Int32) = zI (45 : Nat) by decide, show (43 : Int32) = zI (43 : Nat) by decide, zeq (by omega) (by omega), zeq (by omega) (by omega), z_s]
  generalize chr tx b a = c at *
  refine ⟨fun q => ⟨fun _ => h43 _ _ (by rw [esn, decide_eq_true q]; rfl) (by rw [esp, if_pos (Or.inl q)]), fun w => absurd q w⟩, fun q => ⟨fun w => absurd w q, fun _ => ⟨fun q2 => h43 _ _ (by rw [esn, decide_eq_false q]; rfl) (by rw [esp, if_pos (Or.inr q2)]), fun q2 => h43 _ _ (by rw [esn, decide_eq_false q]; rfl) (by rw [esp, if_neg (fun w => by rcases w with w | w; exact q w; exact q2 w)])⟩⟩⟩
