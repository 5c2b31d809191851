/-! write: the system -/
def tl (q : Nat) : List Nat := [[45, 48], [48], [45, 73, 78, 70], [73, 78, 70]].getD q []
theorem tl_ok : ∀ q, q < 4 → nf_lln.getD q 0 = (tl q).length ∧ (tl q).length ≤ 4 ∧ ∀ i, i < (tl q).length → nf_ch q i = zI ((tl q).getD i 0) ∧ (tl q).getD i 0 < 127 := by decide
def fl (g : Nat → Nat) (i : Nat) : Nat → List Nat
  | 0 => []
  | r + 1 => g i :: fl g (i + 1) r
theorem fl_tl : ∀ q, q < 4 → fl (fun i => (tl q).getD i 0) 0 (tl q).length = tl q := by decide
theorem s_R_addText {q : Fin 5} {L : List Nat} {M : nf_M} {post : Unit → nf_M → Prop} (hq : q.val < 4) (hL : L.length ≤ 5) (hw : wF M L) (k : ∀ M', kR true M M' → wF M' (L ++ tl q.val) → post () M') : P_R_addText true q M post := by
  obtain ⟨a1, a2, a3⟩ := tl_ok q.val hq
  have key : ∀ (r i : Nat) (S : List Nat) (M1 : nf_M), r + i = (tl q.val).length → S.length + r ≤ 10 → wF M1 S → kR true M M1 → (∀ M', kR true M M' → wF M' (S ++ fl (fun i => (tl q.val).getD i 0) i r) → post () M') → B_R_addText_2 post (r + 1) true q (zI i) M1 := by
    intro r
    induction r with
    | zero =>
      intro i S M1 hr hS hw1 hk kk
      unfold B_R_addText_2 P_JS_length
      dsimp only
      rw [a1, nI_z, zlt (by omega) (by omega)]
      exact ⟨fun z => by omega, fun _ => kk M1 hk (by rw [show fl (fun i => (tl q.val).getD i 0) i 0 = [] from rfl, List.append_nil]; exact hw1)⟩
    | succ r ih =>
      intro i S M1 hr hS hw1 hk kk
      obtain ⟨b1, b2⟩ := a3 i (by omega)
      unfold B_R_addText_2 P_JS_length P_JS_charAt
      dsimp only
      rw [a1, nI_z, zlt (by omega) (by omega), z_cl (by omega), b1]
      refine ⟨fun _ => ⟨z_in (by omega) (by omega), s_R_addL hw1 (by omega) (by omega) (fun M2 k2 w2 => ?_)⟩, fun z => by omega⟩
      rw [z_s]
      refine ih (i + 1) _ M2 (by omega) (by rw [List.length_append]; simp only [List.length_cons, List.length_nil]; omega) w2 (hk.tr k2) (fun M' hk' hw' => kk M' hk' ?_)
      rw [List.append_assoc] at hw'
      exact hw'
  unfold P_R_addText
  rw [e0i]
  have h := key (tl q.val).length 0 L M rfl (by omega) hw (kR.rf true M) (fun M' hk hw' => k M' hk (by
    rw [fl_tl q.val hq] at hw'
    exact hw'))
  exact ⟨_, h⟩
theorem s_F_isMinusZero {x : UInt64} {M : nf_M} {post : Int32 → nf_M → Prop} (hz : zv x = 0) (hx : okD x) (k0 : x = 0 → post 0 M) (k1 : ¬ x = 0 → post 1 M) : P_F_isMinusZero x M post := by
  unfold P_F_isMinusZero B_F_isMinusZero_18 B_F_isMinusZero_19
  rw [dc0, deq_z hx ok0, zv0]
  refine ⟨fun _ => ?_, fun q => absurd hz q⟩
  rcases zero_2 hx hz with rfl | rfl
  · have n1 : ¬ nf_dlt (FP.ddiv FP.dconst1 0) 0 := by unfold nf_dlt; decide +kernel
    exact ⟨(n64 _).mpr (by decide +kernel), fun q => absurd q n1, fun _ => ⟨rfl, k0 rfl⟩⟩
  · have n1 : nf_dlt (FP.ddiv FP.dconst1 9223372036854775808) 0 := by unfold nf_dlt; decide +kernel
    exact ⟨(n64 _).mpr (by decide +kernel), fun _ => ⟨rfl, k1 (by decide)⟩, fun q => absurd n1 q⟩
theorem tm6 : FP.ddiv FP.dconst1 (tn 6) = tM (-6) ∧ tn 6 = tM 6 := ⟨rfl, rfl⟩
theorem sgL_len (x : UInt64) : (sgL x).length ≤ 1 := by
  unfold sgL
  split
  · exact Nat.le_refl _
  · exact Nat.zero_le _
theorem s_F_wf124 {d : UInt64} {m : Nat} {q : Int} {L : List Nat} {M : nf_M} {post : Unit → nf_M → Prop} {ex : Nat → nf_M → Prop} (hd : okD d) (hm1 : 1 ≤ m) (hm : m ≤ 1000000000000000) (hq : -22 ≤ q ∧ q ≤ 40) (hp : pla d → q < 16 ∧ -20 ≤ q ∧ m * 10 ^ q.toNat ≤ 1000000000000000) (hL : L.length ≤ 1) (hw : wF M L) (h1 : mg_L M 8 0 = zL m) (h2 : mg_I M 8 1 = zI q) (k1 : pla d → ∀ M', kR true M M' → wF M' (L ++ plaL m q) → post () M') (k2 : ¬ pla d → ∀ M', kR true M M' → wF M' (L ++ expL m q) → post () M') : B_F_writeFloating_124 post ex d M := by
  have o6 : okD (tM (-6)) := tM_ok2 (by decide) (by decide)
  have o6' : okD (tM 6) := tM_ok2 (by decide) (by decide)
  unfold B_F_writeFloating_124 B_F_writeFloating_192 B_F_writeFloating_196
  rw [show (6 : Int32) = zI (6 : Nat) by decide]
  have hexp : ¬ pla d → P_F_writeWithPower M (fun _ M2 => post () M2) := fun n => s_F_writeWithPower (by omega) hm1 (by omega) hL hw h1 h2 (k2 n)
  refine s_F_ten (by decide) ?_
  rw [tm6.1, dge_z hd o6]
  refine ⟨(n64 _).mpr o6, fun z => s_F_ten (by decide) ?_, fun z => hexp (fun p => z p.1)⟩
  rw [tm6.2, dlt_z hd o6']
  refine ⟨fun z2 => ?_, fun z2 => hexp (fun p => z2 p.2)⟩
  obtain ⟨p1, p2, p3⟩ := hp ⟨z, z2⟩
  rw [h2, show (0 : Int32) = zI 0 by decide]
  refine s_JM_maxZ (by omega) (by omega) ?_
  rw [show (if q < 0 then 0 else q) = ((q.toNat : Nat) : Int) by split <;> omega]
  refine s_F_power (by omega) ?_
  rw [h2, zI_neg]
  refine s_JM_maxZ (by omega) (by omega) ?_
  rw [show (if -q < 0 then 0 else -q) = (((-q).toNat : Nat) : Int) by split <;> omega, h1, pw_z, zLmul]
  exact s_R_addNumber (by omega) (by omega) (by omega) hw (fun M' hk hw' => k1 ⟨z, z2⟩ M' hk hw')
theorem s_F_writeFloating {v : Fin 9} {t : Nat} {x : UInt64} {M : nf_M} {post : Unit → nf_M → Prop} {ex : Nat → nf_M → Prop} (hx : okD x) (ht : t = 8 ∨ t = 9) (h1 : mg_R M v = x) (h2 : mg_T M v = zI t) (k : ∀ k L, wri (decide (t = 8)) x k L → (k = 3 → ∀ M', kD M M' → ex 4 M') ∧ (k = 0 → ∀ M', kE M M' → wF M' L → post () M')) : P_F_writeFloating v M post ex := by
  have hab := dab_ok hx
  unfold P_F_writeFloating
  intro t1 e1
  rw [h1] at e1
  rw [e1]
  have h18 : zv x = 0 ∨ isInf x → B_F_writeFloating_18 post ex x M := fun hc => by
    unfold B_F_writeFloating_18 B_F_writeFloating_69
    refine s_R_clearL (fun M1 k1 w1 => ?_)
    rw [dc0, deq_z hx ok0, dlt_z hx ok0, zv0]
    refine ⟨fun z => s_F_isMinusZero z hx (fun e => ⟨fun _ => s_R_addText (q := 1) (by decide) (by decide) w1 (fun M2 k2 w2 => ?_), fun q => absurd rfl q⟩) (fun e => ⟨fun q => absurd q (by decide), fun _ => s_R_addText (q := 0) (by decide) (by decide) w1 (fun M2 k2 w2 => ?_)⟩), fun z => ⟨fun z2 => s_R_addText (q := 2) (by decide) (by decide) w1 (fun M2 k2 w2 => ?_), fun z2 => s_R_addText (q := 3) (by decide) (by decide) w1 (fun M2 k2 w2 => ?_)⟩⟩
    · exact (k 0 [48] (Or.inl ⟨z, rfl, Or.inl ⟨e, rfl⟩⟩)).2 rfl M2 (k1.tr k2).E w2
    · exact (k 0 [45, 48] (Or.inl ⟨z, rfl, Or.inr ⟨e, rfl⟩⟩)).2 rfl M2 (k1.tr k2).E w2
    · refine (k 0 _ (Or.inr (Or.inl ⟨hc.resolve_left z, rfl, rfl⟩))).2 rfl M2 (k1.tr k2).E ?_
      unfold sgL
      rw [if_pos z2]
      exact w2
    · refine (k 0 _ (Or.inr (Or.inl ⟨hc.resolve_left z, rfl, rfl⟩))).2 rfl M2 (k1.tr k2).E ?_
      unfold sgL
      rw [if_neg z2]
      exact w2
  refine s_F_isInfinite hx (fun i => ⟨fun q => absurd q (by decide), fun _ => h18 (Or.inr i)⟩) (fun i => ⟨fun _ => ?_, fun q => absurd rfl q⟩)
  rw [dc0, deq_z hx ok0, zv0]
  refine ⟨fun z => h18 (Or.inl z), fun z => s_F_amount hx ?_⟩
  have hdf : FP.Core.DFin (dab x) := (fin_big hab.1).mpr (by unfold isInf at *; omega)
  have h99 : ∀ y : Int32, (y = 0 ↔ decide (t = 8) = false) → B_F_writeFloating_99 post ex x (dab x) y (dab x) M := fun y hy => by
    unfold B_F_writeFloating_99
    refine s_D_find (sg := decide (t = 8)) hdf (by omega) hy (fun q => ?_) (fun q1 q2 e j m m' q' M1 he hF hST k1 g1 g2 => ?_)
    · exact (k 3 [] (Or.inr (Or.inr (Or.inl ⟨z, i, q, rfl⟩)))).1 rfl M (kD.rf M)
    · obtain ⟨b1, b2, b3, b4, b5, b6⟩ := ST_b hdf he hF hST
      have hfin : ∀ (S : List Nat) (M2 : nf_M), S = sgL x → wF M2 S → kR true M1 M2 → B_F_writeFloating_124 post ex (dab x) M2 := fun S M2 eS w2 k2 => by
        have hl := sgL_len x
        refine s_F_wf124 hab.1 b1 b3 ⟨b4, b5⟩ b6 (by rw [eS]; exact hl) w2 (by rw [(kR_L k2).1]; exact g1) (by rw [(kR_L k2).2]; exact g2) (fun hp M3 k3 w3 => ?_) (fun hp M3 k3 w3 => ?_)
        · rw [eS] at w3
          exact (k 0 _ (Or.inr (Or.inr (Or.inr ⟨z, i, q1, q2, rfl, e, j, m, m', q', he, hF, hST, Or.inl ⟨hp, rfl⟩⟩)))).2 rfl M3 (k1.E.tr (k2.tr k3).E) w3
        · rw [eS] at w3
          exact (k 0 _ (Or.inr (Or.inr (Or.inr ⟨z, i, q1, q2, rfl, e, j, m, m', q', he, hF, hST, Or.inr ⟨hp, rfl⟩⟩)))).2 rfl M3 (k1.E.tr (k2.tr k3).E) w3
      refine s_R_clearL (fun M2 k2 w2 => ?_)
      rw [dc0, dlt_z hx ok0, zv0, show (45 : Int32) = zI (45 : Nat) by decide]
      refine ⟨fun z2 => s_R_addL w2 (by decide) (by decide) (fun M3 k3 w3 => hfin _ M3 ?_ w3 (k2.tr k3)), fun z2 => hfin _ M2 ?_ w2 k2⟩
      · unfold sgL
        rw [if_pos z2]
        rfl
      · unfold sgL
        rw [if_neg z2]
  rw [h2, zeqI 8 8 (by decide) (by omega) (by omega)]
  refine ⟨fun q => h99 1 ?_, fun q => h99 0 ?_⟩
  · rw [decide_eq_true q]
    exact ⟨fun q => absurd q (by decide), fun q => absurd q (by decide)⟩
  · rw [decide_eq_false q]
    exact ⟨fun _ => rfl, fun _ => rfl⟩
/-- what write does: 3 thrown, or 0 and characters -/
def wr1 (A : nf_V) (k : Nat) (L : List Nat) : Prop :=
  (∃ (t p : Nat) (a : Int), okE t a p ∧ A = (zI t, zL a, zI p, 0) ∧ k = 0 ∧ L = exL a p) ∨
  (∃ (t : Nat) (x : UInt64), (t = 9 ∨ (t = 8 ∧ isF x)) ∧ okD x ∧ A = (zI t, 0, 0, x) ∧ wri (decide (t = 8)) x k L)
theorem wr1_1 {A : nf_V} {k k' : Nat} {L L' : List Nat} (h : wr1 A k L) (h' : wr1 A k' L') : k = k' ∧ (k = 0 → L = L') := by
  rcases h with ⟨t, p, a, oa, eA, e0, eL⟩ | ⟨t, x, ht, hx, eA, hw⟩ <;> rcases h' with ⟨t', p', a', oa', eA', e0', eL'⟩ | ⟨t', x', ht', hx', eA', hw'⟩
  · obtain ⟨c1, c2, c3, c4, c5, c6⟩ := oa
    obtain ⟨d1, d2, d3, d4, d5, d6⟩ := oa'
    have e1 := eA.symm.trans eA'
    injection e1 with x1 x2
    injection x2 with x2 x3
    injection x3 with x3 x4
    rw [zeq (by omega) (by omega)] at x1 x3
    rw [zL_eq (by omega) (by omega) (by omega) (by omega)] at x2
    subst x1 x2 x3
    exact ⟨by omega, fun _ => by rw [eL, eL']⟩
  · exfalso
    have e1 := eA.symm.trans eA'
    injection e1 with x1 x2
    have := oa.1
    rw [zeq (by omega) (by omega)] at x1
    omega
  · exfalso
    have e1 := eA.symm.trans eA'
    injection e1 with x1 x2
    have := oa'.1
    rw [zeq (by omega) (by omega)] at x1
    omega
  · have e1 := eA.symm.trans eA'
    injection e1 with x1 x2
    injection x2 with x2 x3
    injection x3 with x3 x4
    rw [zeq (by omega) (by omega)] at x1
    subst x1 x4
    exact wri_1 hw hw'
theorem expL_ok {m : Nat} {q : Int} (hm : m < 10000000000000000) (hm1 : 1 ≤ m) (hq : -40 < q ∧ q < 60) : (∀ c ∈ expL m q, c ≤ 126) ∧ (expL m q).length ≤ 60 := by
  have hn16 : nd m ≤ 16 := (nd_le (by omega)).mpr hm
  have h := numL_ok (v := (q + (nd m - 1 : Nat)).natAbs) (s := 0) (by omega)
  have hmod := Nat.mod_lt (m / 10 ^ (nd m - 1)) (show 0 < 10 by decide)
  unfold expL
  refine ⟨app_le (one_le (by omega)) (app_le (one_le (by decide)) (app_le ?_ (app_le (one_le (by decide)) (app_le ?_ h.1)))), ?_⟩
  · split
    · exact one_le (by decide)
    · exact dl_le _ _
  · split
    · exact one_le (by decide)
    · exact nil_le
  · have h2 : (if nd m = 1 then [48] else dl m (nd m - 1)).length ≤ 16 := by
      split
      · exact (by decide : 1 ≤ 16)
      · rw [dl_len]; omega
    have h3 : (if q + (nd m - 1 : Nat) < 0 then [45] else ([] : List Nat)).length ≤ 1 := by
      split
      · exact Nat.le_refl _
      · exact Nat.zero_le _
    rw [List.length_append, List.length_append, List.length_append, List.length_append, List.length_append]
    simp only [List.length_cons, List.length_nil]
    omega
theorem sgL_ok (x : UInt64) : ∀ c ∈ sgL x, c ≤ 126 := by
  unfold sgL
  split
  · exact one_le (by decide)
  · exact nil_le
theorem wr1_ok {A : nf_V} {L : List Nat} (h : wr1 A 0 L) : L.length ≤ 128 ∧ ∀ c ∈ L, c ≤ 126 := by
  rcases h with ⟨t, p, a, oa, eA, e0, eL⟩ | ⟨t, x, ht, hx, eA, hw⟩
  · have := exL_ok ⟨oa.2.1, oa.2.2.1⟩ oa.2.2.2.1
    rw [eL]
    exact ⟨by omega, this.1⟩
  · have hl := sgL_len x
    rcases hw with ⟨a, b, c⟩ | ⟨a, b, c⟩ | ⟨a, b, c, f⟩ | ⟨a, b, c, f, g, e, j, m, m', q', p1, p2, p3, p4⟩
    · rcases c with ⟨c1, c2⟩ | ⟨c1, c2⟩
      · rw [c2]; exact ⟨(by decide : 1 ≤ 128), one_le (by decide)⟩
      · rw [c2]; exact ⟨(by decide : 2 ≤ 128), cons_le (by decide) (one_le (by decide))⟩
    · rw [c]
      refine ⟨?_, app_le (sgL_ok x) (cons_le (by decide) (cons_le (by decide) (one_le (by decide))))⟩
      rw [List.length_append]
      simp only [List.length_cons, List.length_nil]
      omega
    · omega
    · have hab := dab_ok hx
      have hdf : FP.Core.DFin (dab x) := (fin_big hab.1).mpr (by unfold isInf at *; omega)
      obtain ⟨b1, b2, b3, b4, b5, b6⟩ := ST_b hdf p1 p2 p3
      rcases p4 with ⟨c1, c2⟩ | ⟨c1, c2⟩
      · obtain ⟨r1, r2, r3⟩ := b6 c1
        have := numL_ok (v := m' * 10 ^ q'.toNat) (s := (-q').toNat) (by omega)
        rw [c2]
        refine ⟨?_, app_le (sgL_ok x) this.1⟩
        rw [List.length_append]
        have h2 := this.2
        unfold plaL
        omega
      · have := expL_ok (m := m') (q := q') (by omega) b1 (by omega)
        rw [c2]
        refine ⟨?_, app_le (sgL_ok x) this.1⟩
        rw [List.length_append]
        omega
theorem s_F_write {x1 : Int32} {M : nf_M} {rg : Nat → nf_V} {post : Int32 → nf_M → Prop} {ex : Nat → nf_M → Prop} (hc : cv M rg) (hv : okR rg) (h0 : ¬ inR x1 → ex 0 M) (h2 : ∀ r : Nat, r < 8 → x1 = zI r → (rg r).1.toInt = -1 → ex 2 M) (h1 : ∀ r : Nat, r < 8 → x1 = zI r → 0 ≤ (rg r).1.toInt → ∀ k L, wr1 (rg r) k L → (k = 3 → ∀ M', kD M M' → ex 4 M') ∧ (k = 0 → ∀ M', kE M M' → wF M' L → post (zI L.length) M')) : P_F_write x1 M post ex := by
  unfold P_F_write B_F_write_30
  refine s_F_register (fun r hr er => s_F_checkFull (hc r hr) (hv r hr) (fun fa => ?_) (fun z => h2 r hr er z)) h0
  have h := h1 r hr er fa
  have va := hv r hr
  refine s_V_isFloating (hc r hr) (fun z => ⟨fun q => absurd q (by decide), fun _ => ?_⟩) (fun z => ⟨fun _ => ?_, fun q => absurd rfl q⟩)
  · obtain ⟨t, x, ht, hx, eA⟩ := okV_F va z
    have e1 : mg_R M (rgn r) = x := by
      have := congrArg (fun c : nf_V => c.2.2.2) (hc r hr)
      rw [eA] at this
      exact this
    have e2 : mg_T M (rgn r) = zI t := by
      have := congrArg (fun c : nf_V => c.1) (hc r hr)
      rw [eA] at this
      exact this
    refine s_F_writeFloating hx (by omega) e1 e2 (fun k L hw => ?_)
    obtain ⟨g1, g2⟩ := h k L (Or.inr ⟨t, x, ht, hx, eA, hw⟩)
    exact ⟨g1, fun hk M' hk' w' => by rw [w'.1]; exact g2 hk M' hk' w'⟩
  · obtain ⟨t, p, u, oa, eA⟩ := okV_X va fa z
    obtain ⟨a1, a2⟩ := cv_at hc hr eA M (kD.rf M)
    refine s_F_writeUnits ⟨oa.2.1, oa.2.2.1⟩ oa.2.2.2.1 a1 a2 (fun M' hk w' => ?_)
    rw [w'.1]
    exact (h 0 _ (Or.inl ⟨t, p, u, oa, eA, rfl, rfl⟩)).2 rfl M' hk.E w'
