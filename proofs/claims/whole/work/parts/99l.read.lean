/-! read: the system's call -/
theorem NI_V {D : Nat} {dv : Nat → Nat} {N l la : Nat} (h : NI D dv N l la) : (l = 0 ↔ vd dv la = 0) ∧ (l ≤ 15 → N = vd dv la) ∧ (0 < l → ∀ p, (15 < l + p ↔ 1000000000000000 ≤ vd dv la * 10 ^ p)) := by
  obtain ⟨a, b, c, d, x, y⟩ := h
  refine ⟨?_, y, fun hl p => ?_⟩
  · rcases x with ⟨x1, x2⟩ | ⟨x1, x2, x3, x4⟩
    · rw [x2]
      exact ⟨fun _ => rfl, fun _ => x1⟩
    · have : 0 < 10 ^ (l - 1) := Nat.pow_pos (by decide)
      omega
  · rcases x with ⟨x1, x2⟩ | ⟨x1, x2, x3, x4⟩
    · omega
    · have h15 : 10 ^ 15 = 1000000000000000 := by decide
      constructor
      · intro q
        have h1 : 10 ^ 15 ≤ 10 ^ (l - 1 + p) := Nat.pow_le_pow_right (by decide) (by omega)
        have h2 := Nat.mul_le_mul_right (10 ^ p) x2
        rw [← Nat.pow_add] at h2
        omega
      · intro q
        refine Nat.lt_of_not_le fun q2 => ?_
        have h1 : 10 ^ (l + p) ≤ 10 ^ 15 := Nat.pow_le_pow_right (by decide) q2
        have h2 : vd dv la * 10 ^ p < 10 ^ l * 10 ^ p := Nat.mul_lt_mul_of_pos_right d (Nat.pow_pos (by decide))
        rw [← Nat.pow_add] at h2
        omega
theorem s_F_read {n : Nat} {tx : Nat → Nat} {x1 x2 : Int32} {M : nf_M} {post : Unit → nf_M → Prop} {ex : Nat → nf_M → Prop} (hT : okT n tx) (hr : rowF M false n tx) (h0 : ¬ inR x1 ∨ ¬ (0 ≤ x2.toInt ∧ x2.toInt < 10) → ex 0 M) (h1 : ∀ t r : Nat, t < 10 → r < 8 → x2 = zI t → x1 = zI r → ∀ k c, rd1 n tx t k c → (k ≠ 0 → ∀ M', kD M M' → ex k M') ∧ (k = 0 → okV c → ∀ M', kC r c M M' → post () (ms_N M' false 0))) : P_F_read x1 x2 M post ex := by
  have hn := hT.1
  unfold P_F_read
  rw [show (10 : Int32) = zI (10 : Nat) by decide]
  refine s_F_register (fun r hr8 er => s_F_checkIndex (by decide) (fun t ht et => ?_) (fun z => h0 (Or.inr z))) (fun z => h0 (Or.inl z))
  have h := h1 t r ht hr8 et er
  subst et
  have e8 : zI (t : Int) < (8 : Int32) ↔ t < 8 := by rw [show (8 : Int32) = zI (8 : Nat) by decide, zlt (by omega) (by omega)]
  refine s_N_parse hT hr ht (fun a b M1 hB h8 hI k1 g2 g3 => ⟨fun q => absurd q (by decide), fun _ => ?_⟩) (fun a b j pt M1 hB hni hS hG k1 => ⟨fun _ => ?_, fun q => absurd rfl q⟩) (fun a b j pt N l la E M1 hB hni hS hN hNb hG k1 g2 g3 g4 g5 g6 => ⟨fun q => absurd q (by decide), fun _ => ?_⟩)
  · rw [e8]
    refine ⟨fun q => by omega, fun _ => ?_⟩
    have hy : okD (dsg (sn tx a b) infD) := dsg_ok inf_ok
    have hrd : rd1 n tx t 0 (flt t (dsg (sn tx a b) infD)) := ⟨a, b, hB, Or.inl ⟨h8, hI, rfl, rfl⟩⟩
    unfold P_N_asFloating B_N_asFloating_73 B_N_asFloating_86
    rw [g3]
    refine ⟨fun q => absurd q (by decide), fun _ => ?_⟩
    have go : P_V_becomeFloating (0 : Fin 9) (zI t) (dsg (sn tx a b) infD) M1 (fun _ M18 => B_F_read_94 post ex (rgn r) M18) :=
      s_V_becomeFloating (by omega) hy (fun M2 k2 => s_F_fin94 hr8 ⟨M1, k1, k2⟩ ((h 0 _ hrd).2 rfl (flt_ok (by omega) hy)))
    rw [g2]
    unfold dsg infD at go
    by_cases hs : sn tx a b = true
    · rw [if_pos hs] at go ⊢
      exact ⟨fun q => absurd q (by decide), fun _ => go⟩
    · rw [if_neg hs] at go ⊢
      exact ⟨fun _ => go, fun q => absurd rfl q⟩
  · exact (h 1 (-1, 0, 0, 0) ⟨a, b, hB, Or.inr ⟨hni, j, pt, hS, Or.inl ⟨hG, rfl⟩⟩⟩).1 (by decide) M1 k1
  · have ela := NI_lst hN
    have hpj := hS.1.1
    have hab := hB.2.2.2.2.1
    have hD : dcn j pt ≤ 40 := by unfold dcn; split <;> omega
    have hla := hN.1
    have hll := hN.2.1
    have hpt : -1 ≤ pt ∧ pt ≤ 40 := by
      rcases hS.1.2 with ⟨a, b⟩ | ⟨a, b, c, d⟩ <;> omega
    obtain ⟨v1, v2, v3⟩ := NI_V hN
    rw [ela] at v1 v2 v3 g6
    have eV : vd (dvv tx (sp tx a b) pt) (lst (dvv tx (sp tx a b) pt) (dcn j pt)) = dvL tx (sp tx a b) j pt := rfl
    have eP : (if pt < 0 then (dcn j pt : Int) else pt) - (lst (dvv tx (sp tx a b) pt) (dcn j pt) : Nat) + E = pwL tx (sp tx a b) j pt E := rfl
    rw [eV] at v1 v2 v3
    rw [eP] at g6
    have hEb : -1000 < E ∧ E < 1000 := by
      rcases hG.2 with ⟨_, q⟩ | ⟨_, _, _, m, q1, _, _, q2⟩
      · omega
      · have q3 := xdv_lt q1
        have q4 : 10 ^ m ≤ 10 ^ 3 := Nat.pow_le_pow_right (by decide) q1.1
        rw [q2]
        unfold xsg
        split <;> omega
    have hpwb : -1100 < pwL tx (sp tx a b) j pt E ∧ pwL tx (sp tx a b) j pt E < 1100 := by
      rw [← eP, ← ela]
      split <;> omega
    have mk : ∀ k c, RV t (sn tx a b) (dvL tx (sp tx a b) j pt) (pwL tx (sp tx a b) j pt E) k c → rd1 n tx t k c := fun k c q => ⟨a, b, hB, Or.inr ⟨hni, j, pt, hS, Or.inr ⟨E, hG, q⟩⟩⟩
    have hok : ∀ c, RV t (sn tx a b) (dvL tx (sp tx a b) j pt) (pwL tx (sp tx a b) j pt E) 0 c → okV c := fun c q => RV_ok (n := n) ht hS hG q
    generalize dvL tx (sp tx a b) j pt = V at *
    rw [e8]
    refine ⟨fun h8 => ?_, fun h8 => ?_⟩
    · have hE0 : E = 0 := by
        rcases hG.2 with ⟨_, q⟩ | ⟨q, _⟩
        · exact q
        · omega
      have hpw : -100 < pwL tx (sp tx a b) j pt E ∧ pwL tx (sp tx a b) j pt E < 100 := by
        rw [← eP, ← ela, hE0]
        split <;> omega
      generalize pwL tx (sp tx a b) j pt E = pw at *
      have hend : ∀ (u : Int) (s : Nat), lim u → (∀ k c, fitR t u s k c → RV t (sn tx a b) V pw k c) → P_V_becomeUnits (0 : Fin 9) (zI t) (zL u) (zI s) M1 (fun _ M12 => P_F_checkFits (mg_U M12 (0 : Fin 9)) (zI t) M12 (fun _ M14 => B_F_read_94 post ex (rgn r) M14) ex) := by
        intro u s lu hu
        refine s_V_becomeUnits (fun M2 k2 => ?_)
        have hz : kZ 0 (zI t, zL u, zI s, 0) M M2 := ⟨M1, k1, k2⟩
        rw [kZ_U hz]
        refine s_F_checkFits ht lu (fun q => ?_) (fun q1 q2 q3 => (h 1 (-1, 0, 0, 0) (mk 1 _ (hu 1 _ (Or.inl ⟨q1, q3, rfl⟩)))).1 (by decide) M2 (kZ_D hz))
        have q' : t < 2 ∨ fitT t u := by
          rcases q with q | q | q
          · exact Or.inl q
          · omega
          · exact Or.inr q
        have hv := hu 0 _ (Or.inr ⟨q', rfl, rfl⟩)
        exact s_F_fin94 hr8 hz ((h 0 _ (mk 0 _ hv)).2 rfl (hok _ hv))
      refine s_N_units g2 g4 g5 g6 (by omega) (by omega) (fun q => ?_) (fun q q2 => ?_) (fun q q2 q3 => ?_)
      · refine s_N_scale g5 g6 (by omega) (by omega) (fun _ => ?_) (fun w => by omega)
        exact hend 0 0 ⟨by decide, by decide⟩ (fun k c hf => Or.inl ⟨h8, v1.mp q, hf⟩)
      · refine (h 4 (-1, 0, 0, 0) (mk 4 _ (Or.inr (Or.inl ⟨h8, fun w => by have := v1.mpr w; omega, ?_, rfl⟩)))).1 (by decide) M1 k1
        rcases q2 with q2 | q2
        · exact Or.inl q2
        · exact Or.inr ((v3 q pw.toNat).mp q2)
      · have hlt : V * 10 ^ pw.toNat < 1000000000000000 := by
          refine Nat.lt_of_not_le fun w => ?_
          have := (v3 q pw.toNat).mpr w
          omega
        rw [v2 (by omega)]
        refine s_N_scale g5 g6 (by omega) (by omega) (fun w => by omega) (fun _ => ?_)
        refine hend _ _ ?_ (fun k c hf => Or.inr (Or.inr (Or.inl ⟨h8, fun w => by have := v1.mpr w; omega, q2, hlt, hf⟩)))
        generalize V * 10 ^ pw.toNat = W at *
        show -1000000000000000 < _ ∧ _ < 1000000000000000
        unfold sgd
        split <;> omega
    · generalize pwL tx (sp tx a b) j pt E = pw at *
      have hend : ∀ y : UInt64, okD y → RV t (sn tx a b) V pw 0 (flt t y) → P_V_becomeFloating (0 : Fin 9) (zI t) y M1 (fun _ M18 => B_F_read_94 post ex (rgn r) M18) := by
        intro y hy hv
        exact s_V_becomeFloating (by omega) hy (fun M2 k2 => s_F_fin94 hr8 ⟨M1, k1, k2⟩ ((h 0 _ (mk 0 _ hv)).2 rfl (hok _ hv)))
      refine s_N_asFloating (t := t) g2 g3 g4 g5 g6 (by omega) (by omega) (fun q => ?_) (fun q q2 => ?_) (fun q q2 q3 q4 => ?_)
      · exact hend _ (dsg_ok ok0) (Or.inr (Or.inr (Or.inr (Or.inl ⟨by omega, v1.mp q, rfl, rfl⟩))))
      · refine (h 4 (-1, 0, 0, 0) (mk 4 _ (Or.inr (Or.inr (Or.inr (Or.inr (Or.inl ⟨by omega, fun w => by have := v1.mpr w; omega, ?_, rfl⟩))))))).1 (by decide) M1 k1
        rcases q2 with q2 | q2 | q2
        · have := (v3 q 0).mp (by omega)
          rw [Nat.pow_zero, Nat.mul_one] at this
          exact Or.inl this
        · exact Or.inr (Or.inl q2)
        · exact Or.inr (Or.inr q2)
      · have hlt : V < 1000000000000000 := by
          refine Nat.lt_of_not_le fun w => ?_
          have := (v3 q 0).mpr (by rw [Nat.pow_zero, Nat.mul_one]; exact w)
          omega
        rw [v2 q2]
        exact hend _ (dsg_ok (tms_ok (okF (FP.Core.l2d_fin _)) (by omega) (by omega))) (Or.inr (Or.inr (Or.inr (Or.inr (Or.inr ⟨by omega, fun w => by have := v1.mpr w; omega, hlt, q3, q4, rfl, rfl⟩)))))
