/-! reckon -/
theorem dz_mul : ∀ (n w : Nat), dz n (w * 10 ^ n) = (w, 0)
  | 0, w => by
    unfold dz
    rw [Nat.pow_zero, Nat.mul_one]
  | n + 1, w => by
    unfold dz
    have e : w * 10 ^ (n + 1) = w * 10 ^ n * 10 := by rw [Nat.pow_succ, Nat.mul_assoc]
    rw [e, if_pos (Nat.mul_mod_left _ _), Nat.mul_div_cancel _ (by decide)]
    exact dz_mul n w
theorem spS_norm (w s : Nat) : ((spS w s).2 = 0 ∨ (spS w s).1 % 10 ≠ 0) ∧ (spS w s).2 ≤ 6 ∧ (s = 0 → (spS w s).2 = 0) := by
  unfold spS
  split
  · exact ⟨dz_norm _ _, (dz_le _ _).2, fun z => by omega⟩
  · refine ⟨dz_norm _ _, ?_, fun z => ?_⟩
    · have := (dz_le s w).2
      omega
    · have := (dz_le s w).2
      omega
def exT (op ta tb : Nat) : Nat := if op = 3 then 0 else if op = 4 then 1 else if ta = 0 ∨ tb = 0 then 0 else 1
theorem exN_ok {op ta tb p q : Nat} {a b : Int} (hop : op < 6) (ea : okE ta a p) (eb : okE tb b q) (h : (exN op a p b q).2.1 < 1000000000000000) : okE (exT op ta tb) (sgd (exN op a p b q).1 (exN op a p b q).2.1) (exN op a p b q).2.2 := by
  have key : ∀ (n : Bool) (w s t : Nat), w < 1000000000000000 → s ≤ 6 → (s = 0 ∨ w % 10 ≠ 0) → t < 8 → (0 < t → s = 0) → okE t (sgd n w) s := by
    intro n w s t h1 h2 h3 h4 h5
    unfold okE sgd
    cases n
    · rw [if_neg (by decide)]
      exact ⟨h4, by omega, by omega, h2, by omega, h5⟩
    · rw [if_pos rfl]
      exact ⟨h4, by omega, by omega, h2, by omega, h5⟩
  have ht : exT op ta tb < 8 := by unfold exT; split <;> (try split) <;> (try split) <;> omega
  have h0 : 0 < exT op ta tb → op = 4 ∨ (op ≠ 3 ∧ p = 0 ∧ q = 0) := by
    unfold exT
    have h6 := ea.2.2.2.2.2
    have h7 := eb.2.2.2.2.2
    split
    · omega
    · split
      · omega
      · split
        · omega
        · omega
  refine key _ _ _ _ h ?_ ?_ ht (fun z => ?_)
  · have hp := ea.2.2.2.1
    have hq := eb.2.2.2.1
    unfold exN
    split
    · exact (dz_le _ _).2
    · exact (dz_le _ _).2
    · exact (spS_norm _ _).2.1
    · exact (dz_le _ _).2
    · have := (dz_le 0 (qw a.natAbs b.natAbs ((q : Int) - p))).2
      show (dz 0 _).2 ≤ 6
      omega
    · have := (dz_le (if p < q then q else p) (lw a.natAbs p b.natAbs q)).2
      show (dz (if p < q then q else p) _).2 ≤ 6
      have hm : (if p < q then q else p) ≤ 6 := by split <;> omega
      exact Nat.le_trans this hm
  · unfold exN
    split
    · exact dz_norm _ _
    · exact dz_norm _ _
    · exact (spS_norm _ _).1
    · exact dz_norm _ _
    · exact dz_norm _ _
    · exact dz_norm _ _
  · have h0 := h0 z
    have hs : ∀ x y : Int, (dz 6 (summ x 0 y 0).natAbs).2 = 0 := by
      intro x y
      have e : (summ x 0 y 0).natAbs = (x + y).natAbs * 10 ^ 6 := by
        unfold summ
        rw [← Int.add_mul, Int.natAbs_mul]
        rfl
      rw [e, dz_mul]
    unfold exN
    split
    · have : p = 0 ∧ q = 0 := by omega
      rw [this.1, this.2]
      exact hs _ _
    · have : p = 0 ∧ q = 0 := by omega
      rw [this.1, this.2]
      exact hs _ _
    · exact (spS_norm _ _).2.2 (by omega)
    · omega
    · have := (dz_le 0 (qw a.natAbs b.natAbs ((q : Int) - p))).2
      show (dz 0 _).2 = 0
      omega
    · have : p = 0 ∧ q = 0 := by
        rcases h0 with h0 | h0
        · exact absurd h0 (by assumption)
        · exact h0.2
      have h2 := (dz_le (if p < q then q else p) (lw a.natAbs p b.natAbs q)).2
      show (dz (if p < q then q else p) _).2 = 0
      have hm : (if p < q then q else p) = 0 := by split <;> omega
      exact Nat.le_zero.mp (Nat.le_trans h2 (Nat.le_of_eq hm))
/-- what reckoning comes to: 3, 4 thrown, or 0 and a content -/
def rec1 (op : Nat) (A B : nf_V) (k : Nat) (c : nf_V) : Prop :=
  (∃ t : Nat, (t = 8 ∨ t = 9) ∧ com A B = t ∧ ((odd op (fx t A) (fx t B) ∧ k = 3) ∨ (¬ odd op (fx t A) (fx t B) ∧ op = 4 ∧ isInf (fop t 4 (fx t A) (fx t B)) ∧ k = 3) ∨ (¬ odd op (fx t A) (fx t B) ∧ op = 4 ∧ ¬ isInf (fop t 4 (fx t A) (fx t B)) ∧ ¬ lo15 (fop t 4 (fx t A) (fx t B)) ∧ k = 4) ∨ (¬ odd op (fx t A) (fx t B) ∧ op = 4 ∧ ¬ isInf (fop t 4 (fx t A) (fx t B)) ∧ lo15 (fop t 4 (fx t A) (fx t B)) ∧ k = 0 ∧ c = (1, FP.d2l (fop t 4 (fx t A) (fx t B)), 0, 0)) ∨ (¬ odd op (fx t A) (fx t B) ∧ op ≠ 4 ∧ k = 0 ∧ c = (zI t, 0, 0, fop t op (fx t A) (fx t B))))) ∨
  (∃ (a b : Int) (p q ta tb : Nat), com A B = ((if ta = 0 ∨ tb = 0 then 0 else 1 : Nat) : Int) ∧ okE ta a p ∧ okE tb b q ∧ A = (zI ta, zL a, zI p, 0) ∧ B = (zI tb, zL b, zI q, 0) ∧ ((3 ≤ op ∧ b = 0 ∧ k = 3) ∨ ((3 ≤ op → b ≠ 0) ∧ ¬ (exN op a p b q).2.1 < 1000000000000000 ∧ k = 4) ∨ ((3 ≤ op → b ≠ 0) ∧ (exN op a p b q).2.1 < 1000000000000000 ∧ k = 0 ∧ c = (zI (exT op ta tb), zL (sgd (exN op a p b q).1 (exN op a p b q).2.1), zI (exN op a p b q).2.2, 0))))
theorem rec1_1 {op k k' : Nat} {A B c c' : nf_V} (h : rec1 op A B k c) (h' : rec1 op A B k' c') : k = k' ∧ (k = 0 → c = c') := by
  rcases h with ⟨t, ht, et, h⟩ | ⟨a, b, p, q, ta, tb, et, oa, ob, eA, eB, h⟩ <;> rcases h' with ⟨t', ht', et', h'⟩ | ⟨a', b', p', q', ta', tb', et', oa', ob', eA', eB', h'⟩
  · have : t = t' := by omega
    subst this
    generalize odd op (fx t A) (fx t B) = X1 at *
    generalize isInf (fop t 4 (fx t A) (fx t B)) = X2 at *
    generalize lo15 (fop t 4 (fx t A) (fx t B)) = X3 at *
    grind
  · exfalso
    rw [et] at et'
    split at et' <;> omega
  · exfalso
    rw [et] at et'
    split at et' <;> omega
  · have e1 := eA.symm.trans eA'
    have e2 := eB.symm.trans eB'
    obtain ⟨c1, c2, c3, c4, c5, c6⟩ := oa
    obtain ⟨d1, d2, d3, d4, d5, d6⟩ := ob
    obtain ⟨c1', c2', c3', c4', c5', c6'⟩ := oa'
    obtain ⟨d1', d2', d3', d4', d5', d6'⟩ := ob'
    injection e1 with x1 x2
    injection x2 with x2 x3
    injection x3 with x3 x4
    injection e2 with y1 y2
    injection y2 with y2 y3
    injection y3 with y3 y4
    rw [zeq (by omega) (by omega)] at x1 x3 y1 y3
    rw [zL_eq (by omega) (by omega) (by omega) (by omega)] at x2 y2
    subst x1 x2 x3 y1 y2 y3
    generalize (exN op a p b q) = E at *
    grind
theorem d2l_lim {x : UInt64} (h : okD x) (hl : lo15 x) : ∃ u : Int, -1000000000000000 < u ∧ u < 1000000000000000 ∧ FP.d2l x = zL u := by
  have h1 := FP.Core.d2l_val (okD_val.mp h)
  have e : (FP.Core.zmag FP.Core.b64 (FP.Core.val64 x)) = (zv x).natAbs := by have := zv_abs (x := x); omega
  rw [e] at h1
  have em : zv m15 = ((1000000000000000 * FP.Core.one64 : Nat) : Int) := by decide +kernel
  unfold lo15 at hl
  rw [em] at hl
  have hw : (zv x).natAbs / FP.Core.one64 < 1000000000000000 := (Nat.div_lt_iff_lt_mul FP.Core.one64_pos).mpr (by omega)
  refine ⟨(FP.Core.d2l x).toInt, ?_, ?_, (zL_to _).symm⟩
  · rw [h1]
    unfold FP.Core.signed
    generalize (zv x).natAbs / FP.Core.one64 = w at *
    split <;> omega
  · rw [h1]
    unfold FP.Core.signed
    generalize (zv x).natAbs / FP.Core.one64 = w at *
    split <;> omega
theorem fop_isF {op : Nat} {x y : UInt64} (hf : fin8 8 x y) (h : ¬ odd op x y) : isF (fop 8 op x y) := by
  obtain ⟨e, X, Y, hX, hY, eX, eY⟩ := hf.resolve_left (by decide)
  unfold fop
  rw [if_neg (by decide), eX, eY, df hX, df hY]
  rw [eX, eY] at h
  exact ⟨_, (n32 _).mpr (opS_ok hX hY h), rfl⟩
theorem rec1_ok {op : Nat} {A B c : nf_V} (hop : op < 6) (va : okV A) (vb : okV B) (fa : 0 ≤ A.1.toInt) (fb : 0 ≤ B.1.toInt) (h : rec1 op A B 0 c) : okV c := by
  rcases h with ⟨t, ht, et, h⟩ | ⟨a, b, p, q, ta, tb, et, oa, ob, eA, eB, h⟩
  · obtain ⟨f1, f2, f3⟩ := fx8 ht (dbl_ok va fa) (dbl_ok vb fb)
    rcases h with h | h | h | ⟨o, e4, i, l, -, ec⟩ | ⟨o, n4, -, ec⟩
    · omega
    · omega
    · omega
    · subst e4
      obtain ⟨u, u1, u2, eu⟩ := d2l_lim (fop_ok f1 f2 f3 o) l
      exact Or.inr (Or.inl ⟨1, u, 0, ⟨by omega, u1, u2, by omega, Or.inl rfl, fun _ => rfl⟩, by rw [ec, eu]; rfl⟩)
    · have ok := fop_ok f1 f2 f3 o
      refine Or.inr (Or.inr ⟨_, (n64 _).mpr ok, ?_⟩)
      rcases ht with rfl | rfl
      · exact Or.inr ⟨ec, fop_isF f1 o⟩
      · exact Or.inl ec
  · rcases h with h | h | ⟨h1, h2, -, ec⟩
    · omega
    · omega
    · exact Or.inr (Or.inl ⟨_, _, _, exN_ok hop oa ob h2, ec⟩)
theorem fin_C {r : Nat} {c : nf_V} {M M1 : nf_M} {post : Unit → nf_M → Prop} (hr : r < 8) (h : kZ 0 c M M1) (k : ∀ M', kC r c M M' → post () M') : P_V_become (rgn r) 0 M1 (fun _ M2 => post () M2) := by
  obtain ⟨M0, h1, h2⟩ := h
  refine s_V_become (Ne.symm (rgn_0 r)) (fun M' hk => k M' ?_)
  rw [h2.2.2.2.2.1] at hk
  exact (h1.tr h2.D).C (kW.C hr hk)
theorem cv_D {M M' : nf_M} {rg : Nat → nf_V} (h : cv M rg) (k : kD M M') : cv M' rg := fun r hr => (k.2.2 r hr).trans (h r hr)
theorem cv_at {M : nf_M} {rg : Nat → nf_V} {r p : Nat} {t : Int32} {a : Int} {x : UInt64} (h : cv M rg) (hr : r < 8) (e : rg r = (t, zL a, zI p, x)) : atV M (rgn r) a p := fun M' k' => by
  have h2 := cv_D h k' r hr
  rw [e] at h2
  exact ⟨congrArg (fun c : nf_V => c.2.1) h2, congrArg (fun c : nf_V => c.2.2.1) h2⟩
theorem s_F_reckon {x1 x2 x3 x4 : Int32} {M : nf_M} {rg : Nat → nf_V} {post : Unit → nf_M → Prop} {ex : Nat → nf_M → Prop} (hc : cv M rg) (hv : okR rg) (h0 : ¬ inR x2 ∨ ¬ inR x3 ∨ ¬ inR x4 ∨ ¬ (0 ≤ x1.toInt ∧ x1.toInt < 6) → ex 0 M) (h2 : ∀ op a b r : Nat, op < 6 → a < 8 → b < 8 → r < 8 → x1 = zI op → x2 = zI a → x3 = zI b → x4 = zI r → (rg a).1.toInt = -1 ∨ (rg b).1.toInt = -1 → ex 2 M) (h1 : ∀ op a b r : Nat, op < 6 → a < 8 → b < 8 → r < 8 → x1 = zI op → x2 = zI a → x3 = zI b → x4 = zI r → 0 ≤ (rg a).1.toInt → 0 ≤ (rg b).1.toInt → ∀ k c, rec1 op (rg a) (rg b) k c → (k ≠ 0 → ∀ M', kD M M' → ex k M') ∧ (k = 0 → ∀ M', kC r c M M' → post () M')) : P_F_reckon x1 x2 x3 x4 M post ex := by
  unfold P_F_reckon
  rw [show (6 : Int32) = zI (6 : Nat) by decide]
  refine s_F_register (fun r hr er => s_F_register (fun a ha ea => s_F_register (fun b hb eb => s_F_checkIndex (by decide) (fun op hop eo => s_F_checkFull (hc a ha) (hv a ha) (fun fa => s_F_checkFull (hc b hb) (hv b hb) (fun fb => ?_) (fun z => h2 op a b r hop ha hb hr eo ea eb er (Or.inr z))) (fun z => h2 op a b r hop ha hb hr eo ea eb er (Or.inl z))) (fun z => h0 (Or.inr (Or.inr (Or.inr z))))) (fun z => h0 (Or.inr (Or.inl z)))) (fun z => h0 (Or.inl z))) (fun z => h0 (Or.inr (Or.inr (Or.inl z))))
  have h := h1 op a b r hop ha hb hr eo ea eb er fa fb
  have va := hv a ha
  have vb := hv b hb
  have ra := ty9 va
  have rb := ty9 vb
  subst eo
  have h54 : 8 ≤ (rg a).1.toInt ∨ 8 ≤ (rg b).1.toInt → B_F_reckon_54 post ex (zI op) (rgn r) (rgn a) (rgn b) M := fun z => by
    unfold B_F_reckon_54 B_F_reckon_75
    obtain ⟨t, ht, et⟩ : ∃ t : Nat, ((t = 9 ∧ ((rg a).1.toInt = 9 ∨ (rg b).1.toInt = 9)) ∨ (t = 8 ∧ ¬ ((rg a).1.toInt = 9 ∨ (rg b).1.toInt = 9))) ∧ com (rg a) (rg b) = t := by
      rcases com_E va vb fa fb with ⟨q, q2⟩ | ⟨q, q2, -⟩ | ⟨q, q1, q2⟩
      · exact ⟨9, Or.inl ⟨rfl, q2⟩, q⟩
      · exact ⟨8, Or.inr ⟨rfl, q2⟩, q⟩
      · have := q1.2
        have := q2.2
        omega
    have h89 : t = 8 ∨ t = 9 := by omega
    refine s_F_reckonFloating (t := t) hop (hc a ha) (hc b hb) va vb fa fb ht (fun o => ?_) (fun o e4 i => ?_) (fun o e4 i l => ?_) (fun o e4 i l M' hk => ?_) (fun o n4 M' hk => ?_)
    · exact (h 3 (rg a) (Or.inl ⟨t, h89, et, Or.inl ⟨o, rfl⟩⟩)).1 (by decide) M (kD.rf M)
    · exact (h 3 (rg a) (Or.inl ⟨t, h89, et, Or.inr (Or.inl ⟨o, e4, i, rfl⟩)⟩)).1 (by decide) M (kD.rf M)
    · exact (h 4 (rg a) (Or.inl ⟨t, h89, et, Or.inr (Or.inr (Or.inl ⟨o, e4, i, l, rfl⟩))⟩)).1 (by decide) M (kD.rf M)
    · exact fin_C hr hk ((h 0 _ (Or.inl ⟨t, h89, et, Or.inr (Or.inr (Or.inr (Or.inl ⟨o, e4, i, l, rfl, rfl⟩)))⟩)).2 rfl)
    · exact fin_C hr hk ((h 0 _ (Or.inl ⟨t, h89, et, Or.inr (Or.inr (Or.inr (Or.inr ⟨o, n4, rfl, rfl⟩)))⟩)).2 rfl)
  refine s_V_isFloating (hc a ha) (fun z => ⟨fun q => absurd q (by decide), fun _ => h54 (Or.inl z)⟩) (fun z => ⟨fun _ => s_V_isFloating (hc b hb) (fun z2 => ⟨fun q => absurd q (by decide), fun _ => h54 (Or.inr z2)⟩) (fun z2 => ⟨fun _ => ?_, fun q => absurd rfl q⟩), fun q => absurd rfl q⟩)
  have hcom := com_E va vb fa fb
  rcases okV_T va with qa | ⟨-, -, a', p, oa, eA⟩ | qa
  · omega
  · rcases okV_T vb with qb | ⟨-, -, b', q, ob, eB⟩ | qb
    · omega
    · obtain ⟨ta, eta⟩ : ∃ ta : Nat, (rg a).1.toInt = ta := ⟨(rg a).1.toInt.toNat, by omega⟩
      obtain ⟨tb, etb⟩ : ∃ tb : Nat, (rg b).1.toInt = tb := ⟨(rg b).1.toInt.toNat, by omega⟩
      have eta2 : (rg a).1 = zI ta := i32_of eta
      have etb2 : (rg b).1 = zI tb := i32_of etb
      rw [eta, Int.toNat_natCast] at oa
      rw [etb, Int.toNat_natCast] at ob
      rw [eta, Int.toNat_natCast] at eA
      rw [etb, Int.toNat_natCast] at eB
      have ecom : com (rg a) (rg b) = ((if ta = 0 ∨ tb = 0 then 0 else 1 : Nat) : Int) := by
        unfold com
        rw [if_neg (by omega), if_neg (by omega)]
        split <;> split <;> omega
      have tv : mg_T M (rgn a) = zI ta := (congrArg (fun c : nf_V => c.1) (hc a ha)).trans eta2
      have tw : mg_T M (rgn b) = zI tb := (congrArg (fun c : nf_V => c.1) (hc b hb)).trans etb2
      unfold B_F_reckon_75
      refine s_F_reckonUnits (a := a') (b := b') (p := p) (q := q) (ta := ta) (tb := tb) hop ⟨oa.2.1, oa.2.2.1⟩ ⟨ob.2.1, ob.2.2.1⟩ oa.2.2.2.1 ob.2.2.2.1 oa.2.2.2.2.1 ob.2.2.2.2.1 (cv_at hc ha eA) (cv_at hc hb eB) tv tw oa.1 ob.1 (fun z1 z2 => ?_) (fun hz => ⟨fun hl M' hk => ?_, fun hl M' hk => ?_⟩)
      · exact (h 3 (rg a) (Or.inr ⟨a', b', p, q, ta, tb, ecom, oa, ob, eA, eB, Or.inl ⟨z1, z2, rfl⟩⟩)).1 (by decide) M (kD.rf M)
      · refine fin_C hr hk ((h 0 _ (Or.inr ⟨a', b', p, q, ta, tb, ecom, oa, ob, eA, eB, Or.inr (Or.inr ⟨hz, hl, rfl, ?_⟩)⟩)).2 rfl)
        unfold exT
        split <;> (try split) <;> (try split) <;> rfl
      · exact (h 4 (rg a) (Or.inr ⟨a', b', p, q, ta, tb, ecom, oa, ob, eA, eB, Or.inr (Or.inl ⟨hz, hl, rfl⟩)⟩)).1 (by decide) M' hk
    · omega
  · omega
theorem s_M_reckon {x1 x2 x3 x4 : Int32} {M : nf_M} {rg : Nat → nf_V} {post : Unit → nf_M → Prop} (hc : mv M rg) (hv : okR rg) (h0 : ¬ inR x2 ∨ ¬ inR x3 ∨ ¬ inR x4 ∨ ¬ (0 ≤ x1.toInt ∧ x1.toInt < 6) → ∀ M', kO M M' → mg_I M' 19 0 = 1 → post () M') (h2 : ∀ op a b r : Nat, op < 6 → a < 8 → b < 8 → r < 8 → x1 = zI op → x2 = zI a → x3 = zI b → x4 = zI r → (rg a).1.toInt = -1 ∨ (rg b).1.toInt = -1 → ∀ M', kO M M' → mg_I M' 19 0 = 2 → post () M') (h1 : ∀ op a b r : Nat, op < 6 → a < 8 → b < 8 → r < 8 → x1 = zI op → x2 = zI a → x3 = zI b → x4 = zI r → 0 ≤ (rg a).1.toInt → 0 ≤ (rg b).1.toInt → ∀ k c, rec1 op (rg a) (rg b) k c → (k ≠ 0 → ∀ M', kO M M' → mg_I M' 19 0 = zI k → post () M') ∧ (k = 0 → ∀ M', kN r c M M' → mg_I M' 19 0 = 0 → post () M')) : P_M_reckon x1 x2 x3 x4 M post := by
  have hthr : ∀ v : Int32, 0 < v → (∀ M', kO M M' → mg_I M' 19 0 = v → post () M') → B_M_reckon_59 post x1 x2 x3 x4 v M := fun v hv0 hp => by
    unfold B_M_reckon_59
    intro M1 e1
    have e6 : mg_I M1 19 0 = v := by rw [e1]; rfl
    rw [e6]
    exact ⟨fun _ => hp M1 (by rw [e1]; exact kO_19 M 0 v (by decide) (by decide)) e6, fun z => absurd hv0 z⟩
  have h32 : (¬ inR x2 ∨ ¬ inR x3 ∨ ¬ inR x4 ∨ ¬ (0 ≤ x1.toInt ∧ x1.toInt < 6)) → B_M_reckon_32 post x1 x2 x3 x4 M := fun z => by
    unfold B_M_reckon_32
    exact hthr 1 (by decide) (h0 z)
  unfold P_M_reckon
  refine s_M_isRegister (fun ra => ⟨fun z => absurd z (by decide), fun _ => s_M_isRegister (fun rb => ⟨fun z => absurd z (by decide), fun _ => s_M_isRegister (fun rr => ⟨fun z => absurd z (by decide), fun _ => ?_⟩) (fun z => ⟨fun _ => h32 (Or.inr (Or.inr (Or.inl z))), fun q => absurd rfl q⟩)⟩) (fun z => ⟨fun _ => h32 (Or.inr (Or.inl z)), fun q => absurd rfl q⟩)⟩) (fun z => ⟨fun _ => h32 (Or.inl z), fun q => absurd rfl q⟩)
  obtain ⟨a, ha, ea, -, ca⟩ := rg_n ra
  obtain ⟨b, hb, eb, -, cb⟩ := rg_n rb
  obtain ⟨r, hr, er, -, -⟩ := rg_n rr
  have t5 : (5 : Int32).toInt = 5 := by decide
  have ta : mg_I M 22 a = (rg a).1 := congrArg (fun c : nf_V => c.1) (hc a ha)
  have tb : mg_I M 22 b = (rg b).1 := congrArg (fun c : nf_V => c.1) (hc b hb)
  have va := hv a ha
  have vb := hv b hb
  have qa := ty9 va
  have qb := ty9 vb
  rw [i32_lt, i32_lt, t0, t5, ca, cb, ta, tb, i32_lt, i32_lt, t0]
  refine ⟨fun z => h32 (Or.inr (Or.inr (Or.inr (by omega)))), fun z1 => ⟨fun z => h32 (Or.inr (Or.inr (Or.inr (by omega)))), fun z2 => ?_⟩⟩
  obtain ⟨op, hop, eo⟩ : ∃ op : Nat, op < 6 ∧ x1 = zI op := ⟨x1.toInt.toNat, by omega, by rw [Int.toNat_of_nonneg (by omega), zI_to]⟩
  unfold B_M_reckon_54
  refine ⟨vp_in_iff.mpr ra, fun z => hthr 2 (by decide) (h2 op a b r hop ha hb hr eo ea eb er (by omega)), fun za => ⟨vp_in_iff.mpr rb, fun z => hthr 2 (by decide) (h2 op a b r hop ha hb hr eo ea eb er (by omega)), fun zb => ?_⟩⟩
  have fa : 0 ≤ (rg a).1.toInt := by omega
  have fb : 0 ≤ (rg b).1.toInt := by omega
  have h := h1 op a b r hop ha hb hr eo ea eb er fa fb
  subst eo ea eb er
  unfold B_M_reckon_59
  intro M1 e1
  have e6 : mg_I M1 19 0 = 0 := by rw [e1]; rfl
  rw [e6]
  refine ⟨fun z => absurd z (by decide), fun _ M2 e2 => ?_⟩
  have k2 : kO M M2 := by
    rw [e2, e1]
    exact (kO_19 M 0 0 (by decide) (by decide)).tr (kO_19 _ 9 0 (by decide) (by decide))
  have m2 : mv M2 rg := fun i hi => (k2.2 i hi).trans (hc i hi)
  have w2 : mg_I M2 19 9 = 0 := by rw [e2]; rfl
  have n2 : mg_I M2 19 0 = 0 := by rw [e2, e1]; rfl
  have i8 : ∀ k : Int, -10 < k → k < 10 → (zI k = (8 : Int32) ↔ k = 8) := fun k k1 k2 => by rw [show (8 : Int32) = zI 8 by decide, zI_eq (by omega) (by omega) (by omega) (by omega)]
  have i9 : ∀ k : Int, -10 < k → k < 10 → (zI k = (9 : Int32) ↔ k = 9) := fun k k1 k2 => by rw [show (9 : Int32) = zI 9 by decide, zI_eq (by omega) (by omega) (by omega) (by omega)]
  -- the end: a fault
  have hbad : ∀ (w : Int32) (k : Nat) (t : Int32) (M3 : nf_M), kO M M3 → mg_I M3 19 9 = w → ((w = 4 ∧ k = 3) ∨ (w = 5 ∧ k = 4)) → (∀ M', kO M M' → mg_I M' 19 0 = zI k → post () M') → B_M_reckon_142 post (zI op) (zI r) t M3 := by
    intro w k t M3 k3 e9 hw hp
    unfold B_M_reckon_142 B_M_reckon_168 B_M_reckon_210
    rw [e9]
    have fin : ∀ v : Int32, v = zI k → ¬ v = 0 → ∀ M4 : nf_M, M4 = ms_I M3 19 0 v → ((mg_I M4 19 0 = 0 → (zI op = (4 : Int32) → B_M_reckon_207 post (1 : Int32) (zI r) M4) ∧ (¬ zI op = (4 : Int32) → (zI op = (3 : Int32) → (t < (2 : Int32) → B_M_reckon_207 post (0 : Int32) (zI r) M4) ∧ (¬ t < (2 : Int32) → B_M_reckon_205 post t (zI r) M4)) ∧ (¬ zI op = (3 : Int32) → B_M_reckon_205 post t (zI r) M4))) ∧ (¬ mg_I M4 19 0 = 0 → post () M4)) := by
      intro v ev nv M4 e4
      have e5 : mg_I M4 19 0 = v := by rw [e4]; rfl
      rw [e5]
      exact ⟨fun q => absurd q nv, fun _ => hp M4 (by rw [e4]; exact k3.tr (kO_19 M3 0 v (by decide) (by decide))) (by rw [e5, ev])⟩
    rcases hw with ⟨rfl, rfl⟩ | ⟨rfl, rfl⟩
    · exact ⟨fun _ => fin 3 (by decide) (by decide), fun q => absurd rfl q⟩
    · exact ⟨fun q => absurd q (by decide), fun _ => ⟨fun _ => fin 4 (by decide) (by decide), fun q => absurd rfl q⟩⟩
  -- the end: an answer
  have hgood : ∀ (t s : Nat) (c : nf_V) (M3 : nf_M), t < 10 → kO M M3 → mg_I M3 19 9 = 0 → s = (if op = 4 then 1 else if op = 3 then (if t < 2 then 0 else t) else t) → (∀ v, sto (ms_I M3 19 0 v) (zI s) = c) → (∀ M', kN r c M M' → mg_I M' 19 0 = 0 → post () M') → B_M_reckon_142 post (zI op) (zI r) (zI t) M3 := by
    intro t s c M3 ht k3 e9 es ec hp
    unfold B_M_reckon_142 B_M_reckon_168 B_M_reckon_205 B_M_reckon_207 B_M_reckon_210
    rw [e9]
    refine ⟨fun q => absurd q (by decide), fun _ => ⟨fun q => absurd q (by decide), fun _ M4 e4 => ?_⟩⟩
    have e5 : mg_I M4 19 0 = 0 := by rw [e4]; rfl
    have k4 : kO M M4 := by rw [e4]; exact k3.tr (kO_19 M3 0 0 (by decide) (by decide))
    have hst : P_M_store (zI r) (zI s) M4 (fun _ M2 => post () M2) := s_M_store hr (fun M' hk h19 => hp M' (k4.N (by rw [e4] at hk ⊢; rw [← ec 0]; exact hk)) (by rw [h19, e5]))
    rw [e5, zeqI 4 4 (by decide) (by omega) (by omega), zeqI 3 3 (by decide) (by omega) (by omega), show (2 : Int32) = zI (2 : Nat) by decide, zlt (by omega) (by omega)]
    refine ⟨fun _ => ⟨fun q4 => ?_, fun n4 => ⟨fun q3 => ⟨fun q2 => ?_, fun q2 => ?_⟩, fun n3 => ?_⟩⟩, fun q => absurd rfl q⟩
    · have : s = 1 := by rw [es, if_pos q4]
      rw [this] at hst
      exact hst
    · have : s = 0 := by rw [es, if_neg n4, if_pos q3, if_pos q2]
      rw [this] at hst
      exact hst
    · have : s = t := by rw [es, if_neg n4, if_pos q3, if_neg q2]
      rw [this] at hst
      exact hst
    · have : s = t := by rw [es, if_neg n4, if_neg n3]
      rw [this] at hst
      exact hst
  -- floats
  have hfl : ∀ t : Nat, (t = 8 ∨ t = 9) → com (rg a) (rg b) = t → (odd op (fx t (rg a)) (fx t (rg b)) → B_M_reckon_142 post (zI op) (zI r) (zI t) (ms_I M2 19 9 4)) ∧ (¬ odd op (fx t (rg a)) (fx t (rg b)) → op = 4 → isInf (fop t 4 (fx t (rg a)) (fx t (rg b))) → B_M_reckon_142 post (zI op) (zI r) (zI t) (ms_I M2 19 9 4)) ∧ (¬ odd op (fx t (rg a)) (fx t (rg b)) → op = 4 → ¬ isInf (fop t 4 (fx t (rg a)) (fx t (rg b))) → ¬ lo15 (fop t 4 (fx t (rg a)) (fx t (rg b))) → B_M_reckon_142 post (zI op) (zI r) (zI t) (ms_I M2 19 9 5)) ∧ (¬ odd op (fx t (rg a)) (fx t (rg b)) → op = 4 → ¬ isInf (fop t 4 (fx t (rg a)) (fx t (rg b))) → lo15 (fop t 4 (fx t (rg a)) (fx t (rg b))) → B_M_reckon_142 post (zI op) (zI r) (zI t) (ms_I (ms_L M2 19 10 (FP.d2l (fop t 4 (fx t (rg a)) (fx t (rg b))))) 19 11 0)) ∧ (¬ odd op (fx t (rg a)) (fx t (rg b)) → op ≠ 4 → B_M_reckon_142 post (zI op) (zI r) (zI t) (ms_D M2 19 12 (fop t op (fx t (rg a)) (fx t (rg b))))) := by
    intro t ht et
    refine ⟨fun o => ?_, fun o e4 i => ?_, fun o e4 i l => ?_, fun o e4 i l => ?_, fun o n4 => ?_⟩
    · exact hbad 4 3 _ _ (k2.tr (kO_19 M2 9 4 (by decide) (by decide))) rfl (Or.inl ⟨rfl, rfl⟩) ((h 3 (rg a) (Or.inl ⟨t, ht, et, Or.inl ⟨o, rfl⟩⟩)).1 (by decide))
    · exact hbad 4 3 _ _ (k2.tr (kO_19 M2 9 4 (by decide) (by decide))) rfl (Or.inl ⟨rfl, rfl⟩) ((h 3 (rg a) (Or.inl ⟨t, ht, et, Or.inr (Or.inl ⟨o, e4, i, rfl⟩)⟩)).1 (by decide))
    · exact hbad 5 4 _ _ (k2.tr (kO_19 M2 9 5 (by decide) (by decide))) rfl (Or.inr ⟨rfl, rfl⟩) ((h 4 (rg a) (Or.inl ⟨t, ht, et, Or.inr (Or.inr (Or.inl ⟨o, e4, i, l, rfl⟩))⟩)).1 (by decide))
    · refine hgood t 1 _ _ (by omega) (k2.tr ((kO_L M2 10 _).tr (kO_19 _ 11 0 (by decide) (by decide)))) w2 (by rw [if_pos e4]) (fun v => ?_) ((h 0 _ (Or.inl ⟨t, ht, et, Or.inr (Or.inr (Or.inr (Or.inl ⟨o, e4, i, l, rfl, rfl⟩)))⟩)).2 rfl)
      rfl
    · refine hgood t t _ _ (by omega) (k2.tr (kO_D M2 12 _)) w2 ?_ (fun v => ?_) ((h 0 _ (Or.inl ⟨t, ht, et, Or.inr (Or.inr (Or.inr (Or.inr ⟨o, n4, rfl, rfl⟩)))⟩)).2 rfl)
      · rw [if_neg n4, if_neg (show ¬ t < 2 by omega)]
        split <;> rfl
      · unfold sto
        rw [zI_ti (by omega) (by omega), if_neg (by omega)]
        rfl
  refine s_M_common m2 hv ha hb ?_
  rcases com_E va vb fa fb with ⟨ec, q⟩ | ⟨ec, q1, q2⟩ | ⟨ec, q1, q2⟩
  · obtain ⟨g1, g2, g3, g4, g5⟩ := hfl 9 (Or.inr rfl) ec
    rw [ec, i9 9 (by omega) (by omega)]
    exact ⟨fun _ => s_M_asDouble ha (m2 a ha) va fa (s_M_asDouble hb (m2 b hb) vb fb (s_M_reckonDouble hop (dbl_ok va fa) (dbl_ok vb fb) g1 g2 g3 g4 g5)), fun z => absurd rfl z⟩
  · obtain ⟨g1, g2, g3, g4, g5⟩ := hfl 8 (Or.inl rfl) ec
    rw [ec, i9 8 (by omega) (by omega), i8 8 (by omega) (by omega)]
    exact ⟨fun z => absurd z (by decide), fun _ => ⟨fun _ => s_M_asDouble ha (m2 a ha) va fa ⟨d2f_n (dbl_ok va fa), s_M_asDouble hb (m2 b hb) vb fb ⟨d2f_n (dbl_ok vb fb), s_M_reckonFloat hop (dS (dbl_ok va fa)) (dS (dbl_ok vb fb)) rfl rfl g1 g2 g3 g4 g5⟩⟩, fun z => absurd rfl z⟩⟩
  · have ra := ty9 va
    have rb := ty9 vb
    rcases okV_T va with qa | ⟨-, -, a', p, oa, eA⟩ | qa
    · omega
    · rcases okV_T vb with qb | ⟨-, -, b', q, ob, eB⟩ | qb
      · omega
      · obtain ⟨ta', eta⟩ : ∃ ta : Nat, (rg a).1.toInt = ta := ⟨(rg a).1.toInt.toNat, by omega⟩
        obtain ⟨tb', etb⟩ : ∃ tb : Nat, (rg b).1.toInt = tb := ⟨(rg b).1.toInt.toNat, by omega⟩
        have eta2 : (rg a).1 = zI ta' := i32_of eta
        have etb2 : (rg b).1 = zI tb' := i32_of etb
        rw [eta, Int.toNat_natCast] at oa
        rw [etb, Int.toNat_natCast] at ob
        rw [eta, Int.toNat_natCast] at eA
        rw [etb, Int.toNat_natCast] at eB
        have o1 := oa.1
        have o2 := ob.1
        have ecom : com (rg a) (rg b) = ((if ta' = 0 ∨ tb' = 0 then 0 else 1 : Nat) : Int) := by
          unfold com
          rw [if_neg (by omega), if_neg (by omega)]
          split <;> split <;> omega
        obtain ⟨t, ht⟩ : ∃ t : Nat, t = (if ta' = 0 ∨ tb' = 0 then 0 else 1) := ⟨_, rfl⟩
        have ht2 : t < 2 := by rw [ht]; split <;> omega
        rw [ecom, ← ht, i9 t (by omega) (by omega), i8 t (by omega) (by omega)]
        have ga := m2 a ha
        have gb := m2 b hb
        rw [eA] at ga
        rw [eB] at gb
        refine ⟨fun z => by omega, fun _ => ⟨fun z => by omega, fun _ => ?_⟩⟩
        refine s_M_reckonExact (a := a') (b := b') (p := p) (q := q) ha hb hop ⟨oa.2.1, oa.2.2.1⟩ ⟨ob.2.1, ob.2.2.1⟩ oa.2.2.2.1 ob.2.2.2.1 (congrArg (fun c : nf_V => c.2.1) ga) (congrArg (fun c : nf_V => c.2.2.1) ga) (congrArg (fun c : nf_V => c.2.1) gb) (congrArg (fun c : nf_V => c.2.2.1) gb) w2 (fun z1 z2 M' hk e9 => ?_) (fun hz M' hres => ?_)
        · exact hbad 4 3 _ _ (k2.tr hk.1) e9 (Or.inl ⟨rfl, rfl⟩) ((h 3 (rg a) (Or.inr ⟨a', b', p, q, ta', tb', ecom, oa, ob, eA, eB, Or.inl ⟨z1, z2, rfl⟩⟩)).1 (by decide))
        · obtain ⟨hk, ⟨hl, e9, eu, es⟩ | ⟨hl, e9⟩⟩ := hres
          · have hx : exT op ta' tb' < 8 := by unfold exT; split <;> (try split) <;> (try split) <;> omega
            refine hgood t (exT op ta' tb') _ _ (by omega) (k2.tr hk.1) e9 ?_ (fun v => ?_) ((h 0 _ (Or.inr ⟨a', b', p, q, ta', tb', ecom, oa, ob, eA, eB, Or.inr (Or.inr ⟨hz, hl, rfl, rfl⟩)⟩)).2 rfl)
            · unfold exT
              rw [← ht, if_pos ht2]
              by_cases h3 : op = 3
              · rw [if_pos h3, if_neg (show ¬ op = 4 by omega), if_pos h3]
              · rw [if_neg h3, if_neg h3]
            · unfold sto
              rw [zI_ti (by omega) (by omega), if_pos (by omega)]
              show (_, mg_L M' 19 10, mg_I M' 19 11, _) = _
              rw [eu, es]
          · exact hbad 5 4 _ _ (k2.tr hk.1) e9 (Or.inr ⟨rfl, rfl⟩) ((h 4 (rg a) (Or.inr ⟨a', b', p, q, ta', tb', ecom, oa, ob, eA, eB, Or.inr (Or.inl ⟨hz, hl, rfl⟩)⟩)).1 (by decide))
      · have := q2.2
        omega
    · have := q1.2
      omega
/-- the end of an arm whose call has no answer -/
def endV (r1 : Int32) (M4 : nf_M) : Prop := P_M_thrown M4 (fun r5 M6 => (r5 = r1 → iv_I M6) ∧ (¬ r5 = r1 → False))
theorem endV_ok {r1 : Int32} {M4 : nf_M} (h : iv_I M4) (e : mg_I M4 19 0 = r1) : endV r1 M4 := by
  unfold endV P_M_thrown
  rw [e]
  exact ⟨fun _ => h, fun z => z rfl⟩
theorem zin {n : Nat} {x : Int32} {k : Nat} (hk : k < n) (hn : n < 1000) (e : x = zI k) : 0 ≤ x.toInt ∧ x.toInt < n := by
  rw [e, z_of (by omega)]
  omega
theorem zinj {a b : Nat} {x : Int32} (ha : a < 1000) (hb : b < 1000) (e : x = zI a) (e' : x = zI b) : a = b := by
  have := e.symm.trans e'
  rw [zeq (by omega) (by omega)] at this
  exact this
theorem nf_arm4 (x1 x2 x3 x4 : Int32) (M : nf_M) (h : iv_I M) : P_arm4 x1 x2 x3 x4 M iv_I := by
  obtain ⟨n, tx, m, ou, rg, hI⟩ := h
  show P_L_reckon x1 x2 x3 x4 M (fun r1 M2 => P_M_reckon x1 x2 x3 x4 M2 (fun _ M4 => endV r1 M4))
  have hv := iv_ok hI
  have m1 : ∀ M1, kD M M1 → mv M1 rg := fun M1 k r hr => (kF_rg k.1 r).trans (iv_mv hI r hr)
  unfold P_L_reckon
  refine s_F_reckon (iv_cv hI) hv (fun z => c_0 0 rfl ?_) (fun op a b r hop ha hb hr eo ea eb er z => c_0 1 rfl ?_) (fun op a b r hop ha hb hr eo ea eb er fa fb k c hrec => ?_)
  · rw [nI_z]
    refine s_M_reckon (iv_mv hI) hv (fun _ M' hk e => endV_ok ⟨n, tx, m, ou, rg, iv_no hI (kD.rf M) hk⟩ (e.trans (by decide))) (fun op a b r hop ha hb hr eo ea eb er _ => ?_) (fun op a b r hop ha hb hr eo ea eb er _ _ => ?_)
    · exfalso
      rcases z with z | z | z | z
      · exact z (by rw [ea]; exact in_z ha)
      · exact z (by rw [eb]; exact in_z hb)
      · exact z (by rw [er]; exact in_z hr)
      · exact z (zin hop (by decide) eo)
    · exfalso
      rcases z with z | z | z | z
      · exact z (by rw [ea]; exact in_z ha)
      · exact z (by rw [eb]; exact in_z hb)
      · exact z (by rw [er]; exact in_z hr)
      · exact z (zin hop (by decide) eo)
  · rw [nI_z]
    refine s_M_reckon (iv_mv hI) hv (fun z2 => ?_) (fun op' a' b' r' hop' ha' hb' hr' eo' ea' eb' er' _ M' hk e => endV_ok ⟨n, tx, m, ou, rg, iv_no hI (kD.rf M) hk⟩ (e.trans (by decide))) (fun op' a' b' r' hop' ha' hb' hr' eo' ea' eb' er' fa fb => ?_)
    · exfalso
      rcases z2 with z | z | z | z
      · exact z (by rw [ea]; exact in_z ha)
      · exact z (by rw [eb]; exact in_z hb)
      · exact z (by rw [er]; exact in_z hr)
      · exact z (zin hop (by decide) eo)
    · have q1 := z_inj ha ha' ea ea'
      have q2 := z_inj hb hb' eb eb'
      subst q1 q2
      omega
  · have hno : ∀ M1 : nf_M, kD M M1 → ∀ r1 : Int32, (k ≠ 0 → r1 = zI k) → k ≠ 0 → P_M_reckon x1 x2 x3 x4 M1 (fun _ M4 => endV r1 M4) := by
      intro M1 k1 r1 er1 hk0
      refine s_M_reckon (m1 M1 k1) hv (fun z2 => ?_) (fun op' a' b' r' hop' ha' hb' hr' eo' ea' eb' er' z2 => ?_) (fun op' a' b' r' hop' ha' hb' hr' eo' ea' eb' er' fa fb k' c' hrec' => ⟨fun hk' M' hk e => ?_, fun hk' M' hk e => ?_⟩)
      · exfalso
        rcases z2 with z | z | z | z
        · exact z (by rw [ea]; exact in_z ha)
        · exact z (by rw [eb]; exact in_z hb)
        · exact z (by rw [er]; exact in_z hr)
        · exact z (zin hop (by decide) eo)
      · have q1 := z_inj ha ha' ea ea'
        have q2 := z_inj hb hb' eb eb'
        subst q1 q2
        omega
      · have q1 := z_inj ha ha' ea ea'
        have q2 := z_inj hb hb' eb eb'
        have q3 := zinj (by omega) (by omega) eo eo'
        subst q1 q2 q3
        obtain ⟨q4, -⟩ := rec1_1 hrec hrec'
        exact endV_ok ⟨n, tx, m, ou, rg, iv_no hI k1 hk⟩ (by rw [e, er1 hk0, q4])
      · have q1 := z_inj ha ha' ea ea'
        have q2 := z_inj hb hb' eb eb'
        have q3 := zinj (by omega) (by omega) eo eo'
        subst q1 q2 q3
        obtain ⟨q4, -⟩ := rec1_1 hrec hrec'
        omega
    refine ⟨fun hk0 M1 k1 => ?_, fun hk0 M1 k1 => ?_⟩
    · have hk34 : k = 3 ∨ k = 4 := by
        rcases hrec with ⟨t, ht, et, h⟩ | ⟨a', b', p, q, ta, tb, et, oa, ob, eA, eB, h⟩
        · omega
        · omega
      rcases hk34 with e3 | e4
      · subst e3
        refine c_0 2 rfl ?_
        rw [nI_z]
        exact hno M1 k1 _ (fun _ => rfl) hk0
      · subst e4
        refine c_0 3 rfl ?_
        rw [nI_z]
        exact hno M1 k1 _ (fun _ => rfl) hk0
    · subst hk0
      have hok := rec1_ok hop (hv a ha) (hv b hb) fa fb hrec
      refine s_M_reckon (fun i hi => (kF_rg k1.1 i).trans (iv_mv hI i hi)) hv (fun z2 => ?_) (fun op' a' b' r' hop' ha' hb' hr' eo' ea' eb' er' z2 => ?_) (fun op' a' b' r' hop' ha' hb' hr' eo' ea' eb' er' fa fb k' c' hrec' => ⟨fun hk' M' hk e => ?_, fun hk' M' hk e => ?_⟩)
      · exfalso
        rcases z2 with z | z | z | z
        · exact z (by rw [ea]; exact in_z ha)
        · exact z (by rw [eb]; exact in_z hb)
        · exact z (by rw [er]; exact in_z hr)
        · exact z (zin hop (by decide) eo)
      · have q1 := z_inj ha ha' ea ea'
        have q2 := z_inj hb hb' eb eb'
        subst q1 q2
        omega
      · have q1 := z_inj ha ha' ea ea'
        have q2 := z_inj hb hb' eb eb'
        have q3 := zinj (by omega) (by omega) eo eo'
        subst q1 q2 q3
        obtain ⟨q4, -⟩ := rec1_1 hrec hrec'
        omega
      · have q1 := z_inj ha ha' ea ea'
        have q2 := z_inj hb hb' eb eb'
        have q3 := zinj (by omega) (by omega) eo eo'
        have q5 := z_inj hr hr' er er'
        subst q1 q2 q3 q5
        obtain ⟨-, q4⟩ := rec1_1 hrec hrec'
        rw [← q4 rfl] at hk
        exact endV_ok ⟨n, tx, m, ou, _, iv_set hI hok k1 hk⟩ e
