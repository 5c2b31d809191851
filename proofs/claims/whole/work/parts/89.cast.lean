/-! casting into the answer, both sides to one -/
def fitT (t : Nat) (u : Int) : Prop := (t = 2 → -2147483648 ≤ u ∧ u ≤ 2147483647) ∧ (t = 3 → -32768 ≤ u ∧ u ≤ 32767) ∧ (t = 4 → -128 ≤ u ∧ u ≤ 127) ∧ (t = 5 → 0 ≤ u ∧ u ≤ 255) ∧ (t = 6 → 0 ≤ u) ∧ (t = 7 → 1 ≤ u)
theorem lowT : ∀ t, t < 8 → nf_LOW.getD t 0 = zL (if t = 0 then -999999999999999 else if t = 1 then -999999999999999 else if t = 2 then -2147483648 else if t = 3 then -32768 else if t = 4 then -128 else if t = 5 then 0 else if t = 6 then 0 else 1) := by decide
theorem highT : ∀ t, t < 8 → nf_HIGH.getD t 0 = zL (if t = 2 then 2147483647 else if t = 3 then 32767 else if t = 4 then 127 else if t = 5 then 255 else 999999999999999) := by decide
theorem s_F_checkFits {t : Nat} {u : Int} {M : nf_M} {post : Unit → nf_M → Prop} {ex : Nat → nf_M → Prop} (ht : t < 10) (lu : lim u) (k : t < 2 ∨ 8 ≤ t ∨ fitT t u → post () M) (k1 : 2 ≤ t → t < 8 → ¬ fitT t u → ex 1 M) : P_F_checkFits (zL u) (zI t) M post ex := by
  have l1 := lu.1
  have l2 := lu.2
  unfold P_F_checkFits B_F_checkFits_31 B_F_checkFits_41
  rw [show (1 : Int32) = zI (1 : Nat) by decide, show (8 : Int32) = zI (8 : Nat) by decide, zlt (by omega) (by omega), zlt (by omega) (by omega), z_cl (by omega)]
  refine ⟨fun z => ⟨fun z2 => ⟨z_in z2 (by decide), ?_⟩, fun z2 => k (Or.inr (Or.inl (by omega)))⟩, fun z => k (Or.inl (by omega))⟩
  have fl : ∀ x y : Int, nf_LOW.getD t 0 = zL x → nf_HIGH.getD t 0 = zL y → -999999999999999 ≤ x → x ≤ 1 → -1 ≤ y → y ≤ 999999999999999 → (fitT t u ↔ x ≤ u ∧ u ≤ y) → ((zL u < nf_LOW.getD t 0 → ex 1 M) ∧ (¬ zL u < nf_LOW.getD t 0 → vp_in (zI t) 8 ∧ ((nf_HIGH.getD t 0 < zL u → ex 1 M) ∧ (¬ nf_HIGH.getD t 0 < zL u → post () M)))) := by
    intro x y ex1 ey h1 h2 h3 h4 hf
    rw [ex1, ey, zL_lt (by omega) (by omega) (by omega) (by omega), zL_lt (by omega) (by omega) (by omega) (by omega)]
    exact ⟨fun q => k1 (by omega) z2 (fun f => by have := hf.mp f; omega), fun q => ⟨z_in z2 (by decide), fun q2 => k1 (by omega) z2 (fun f => by have := hf.mp f; omega), fun q2 => k (Or.inr (Or.inr (hf.mpr ⟨by omega, by omega⟩)))⟩⟩
  have hc : t = 2 ∨ t = 3 ∨ t = 4 ∨ t = 5 ∨ t = 6 ∨ t = 7 := by omega
  rcases hc with rfl | rfl | rfl | rfl | rfl | rfl
  · exact fl _ _ (lowT 2 (by decide)) (highT 2 (by decide)) (by decide) (by decide) (by decide) (by decide) (by unfold fitT; simp)
  · exact fl _ _ (lowT 3 (by decide)) (highT 3 (by decide)) (by decide) (by decide) (by decide) (by decide) (by unfold fitT; simp)
  · exact fl _ _ (lowT 4 (by decide)) (highT 4 (by decide)) (by decide) (by decide) (by decide) (by decide) (by unfold fitT; simp)
  · exact fl _ _ (lowT 5 (by decide)) (highT 5 (by decide)) (by decide) (by decide) (by decide) (by decide) (by unfold fitT; simp)
  · exact fl _ _ (lowT 6 (by decide)) (highT 6 (by decide)) (by decide) (by decide) (by decide) (by decide) (by unfold fitT; simp; omega)
  · exact fl _ _ (lowT 7 (by decide)) (highT 7 (by decide)) (by decide) (by decide) (by decide) (by decide) (by unfold fitT; simp; omega)
theorem s_M_fits {t : Nat} {u : Int} {M : nf_M} {post : Int32 → nf_M → Prop} (ht : t < 8) (lu : lim u) (k : t < 2 ∨ fitT t u → post 1 M) (k1 : 2 ≤ t → ¬ fitT t u → post 0 M) : P_M_fits (zI t) (zL u) M post := by
  have l1 := lu.1
  have l2 := lu.2
  unfold P_M_fits B_M_fits_44 B_M_fits_90 B_M_fits_110 B_M_fits_114 B_M_fits_115
  have fin : ∀ x y : Int, -999999999999999 ≤ x → x ≤ 1 → -999999999999999 ≤ y → y ≤ 999999999999999 → (2 ≤ t → (fitT t u ↔ x ≤ u ∧ u ≤ y)) → ((zI (t : Int) < (2 : Int32) → (narrow .boolean (.int 1) = .int 1) ∧ post 1 M) ∧ (¬ zI (t : Int) < (2 : Int32) → (zL u < zL x → (narrow .boolean (.int 0) = .int 0) ∧ post 0 M) ∧ (¬ zL u < zL x → (zL y < zL u → (narrow .boolean (.int 0) = .int 0) ∧ post 0 M) ∧ (¬ zL y < zL u → (narrow .boolean (.int 1) = .int 1) ∧ post 1 M)))) := by
    intro x y h1 h2 h3 h4 hf
    rw [show (2 : Int32) = zI (2 : Nat) by decide, zlt (by omega) (by omega), zL_lt (by omega) (by omega) (by omega) (by omega), zL_lt (by omega) (by omega) (by omega) (by omega)]
    refine ⟨fun z => ⟨rfl, k (Or.inl z)⟩, fun z => ?_⟩
    have hf := hf (by omega)
    exact ⟨fun q => ⟨rfl, k1 (by omega) (fun f => by have := hf.mp f; omega)⟩, fun q => ⟨fun q2 => ⟨rfl, k1 (by omega) (fun f => by have := hf.mp f; omega)⟩, fun q2 => ⟨rfl, k (Or.inr (hf.mpr ⟨by omega, by omega⟩))⟩⟩⟩
  rw [zeqI 2 2 (by decide) (by omega) (by omega), zeqI 3 3 (by decide) (by omega) (by omega), zeqI 4 4 (by decide) (by omega) (by omega), zeqI 5 5 (by decide) (by omega) (by omega), zeqI 7 7 (by decide) (by omega) (by omega)]
  have c1 : (-2147483648 : Int64) = zL (-2147483648) := by decide
  have c2 : (2147483647 : Int64) = zL 2147483647 := by decide
  have c3 : (-32768 : Int64) = zL (-32768) := by decide
  have c4 : (32767 : Int64) = zL 32767 := by decide
  have c5 : (-128 : Int64) = zL (-128) := by decide
  have c6 : (127 : Int64) = zL 127 := by decide
  have c7 : (1 : Int64) = zL 1 := by decide
  have c8 : (0 : Int64) = zL 0 := by decide
  have c9 : (255 : Int64) = zL 255 := by decide
  rw [c1, c2, c3, c4, c5, c6, c7, c8, c9]
  refine ⟨fun z => ⟨fun _ => ?_, fun q => absurd z q⟩, fun n2 => ⟨fun z => ⟨fun q => absurd q n2, fun _ => ⟨fun _ => ?_, fun q => absurd z q⟩⟩, fun n3 => ⟨fun z => ⟨fun q => absurd q n2, fun _ => ⟨fun q => absurd q n3, fun _ => ⟨fun _ => ?_, fun q => absurd z q⟩⟩⟩, fun n4 => ⟨fun z => ⟨fun q => absurd q n2, fun _ => ⟨fun q => absurd q n3, fun _ => ⟨fun q => absurd q n4, fun _ => ⟨fun q => by omega, fun _ => ?_⟩⟩⟩⟩, fun n7 => ⟨fun q => absurd q n2, fun _ => ⟨fun q => absurd q n3, fun _ => ⟨fun q => absurd q n4, fun _ => ⟨fun z => ?_, fun n5 => ?_⟩⟩⟩⟩⟩⟩⟩⟩
  · exact fin _ _ (by decide) (by decide) (by decide) (by decide) (fun _ => by unfold fitT; omega)
  · exact fin _ _ (by decide) (by decide) (by decide) (by decide) (fun _ => by unfold fitT; omega)
  · exact fin _ _ (by decide) (by decide) (by decide) (by decide) (fun _ => by unfold fitT; omega)
  · exact fin _ _ (by decide) (by decide) (by omega) (by omega) (fun _ => by unfold fitT; omega)
  · exact fin _ _ (by decide) (by decide) (by decide) (by decide) (fun _ => by unfold fitT; omega)
  · exact fin _ _ (by decide) (by decide) (by omega) (by omega) (fun _ => by unfold fitT; omega)
/-- the end of a cast to an exact type: does it fit -/
def fitOut (t : Nat) (u : Int) (s : Nat) (k : Nat) (c : nf_V) : Prop := (2 ≤ t ∧ ¬ fitT t u ∧ k = 5) ∨ ((t < 2 ∨ fitT t u) ∧ k = 0 ∧ c = (zI t, zL u, zI s, 0))
def m9 : UInt64 := 4741671816366391296
def m6 : UInt64 := 4696837146684686336
/-- a floating number times 1000000 -/
def mll (x : UInt64) : UInt64 := FP.dmul x m6
def cast1 (t : Nat) (A : nf_V) (k : Nat) (c : nf_V) : Prop :=
  (t = 9 ∧ k = 0 ∧ c = (9, 0, 0, dbl A)) ∨ (t = 8 ∧ k = 0 ∧ c = (8, 0, 0, sng (dbl A))) ∨
  (t < 8 ∧ ∃ (ta p : Nat) (a : Int), okE ta a p ∧ A = (zI ta, zL a, zI p, 0) ∧ fitOut t (if t = 0 then a else a.tdiv (10 ^ p : Nat)) (if t = 0 then p else 0) k c) ∨
  (t < 8 ∧ ∃ (ta : Nat) (x : UInt64), (ta = 9 ∨ (ta = 8 ∧ isF x)) ∧ okD x ∧ A = (zI ta, 0, 0, x) ∧
    ((isInf x ∧ k = 3) ∨ (¬ isInf x ∧ ¬ lo15 x ∧ k = 4) ∨
     (¬ isInf x ∧ lo15 x ∧ ¬ (t = 0 ∧ ((zv x).natAbs : Int) < zv m9) ∧ ∃ u : Int, FP.d2l x = zL u ∧ lim u ∧ fitOut t u 0 k c) ∨
     (¬ isInf x ∧ lo15 x ∧ t = 0 ∧ ((zv x).natAbs : Int) < zv m9 ∧ ∃ n : Nat, ev (mll (dab x)) n ∧ ((¬ (dz 6 n).1 < 1000000000000000 ∧ k = 4) ∨ ((dz 6 n).1 < 1000000000000000 ∧ k = 0 ∧ c = (0, zL (sgd (decide (zv x < 0)) (dz 6 n).1), zI (dz 6 n).2, 0))))))
theorem fitOut_1 {t s k k' : Nat} {u : Int} {c c' : nf_V} (h : fitOut t u s k c) (h' : fitOut t u s k' c') : k = k' ∧ (k = 0 → c = c') := by
  unfold fitOut at *
  generalize fitT t u = F at *
  rcases h with ⟨a, b, e⟩ | ⟨a, b, e⟩ <;> rcases h' with ⟨a', b', e'⟩ | ⟨a', b', e'⟩
  · exact ⟨by omega, fun q => by omega⟩
  · exfalso
    rcases a' with q | q
    · omega
    · exact b q
  · exfalso
    rcases a with q | q
    · omega
    · exact b' q
  · exact ⟨by omega, fun _ => by rw [e, e']⟩
theorem cast1_1 {t k k' : Nat} {A c c' : nf_V} (h : cast1 t A k c) (h' : cast1 t A k' c') : k = k' ∧ (k = 0 → c = c') := by
  rcases h with ⟨h1, h2, h3⟩ | ⟨h1, h2, h3⟩ | ⟨h1, ta, p, a, oa, eA, h⟩ | ⟨h1, ta, x, ht, hx, eA, h⟩ <;> rcases h' with ⟨h1', h2', h3'⟩ | ⟨h1', h2', h3'⟩ | ⟨h1', ta', p', a', oa', eA', h'⟩ | ⟨h1', ta', x', ht', hx', eA', h'⟩
  · exact ⟨by omega, fun _ => by rw [h3, h3']⟩
  · omega
  · omega
  · omega
  · omega
  · exact ⟨by omega, fun _ => by rw [h3, h3']⟩
  · omega
  · omega
  · omega
  · omega
  · obtain ⟨c1, c2, c3, c4, c5, c6⟩ := oa
    obtain ⟨d1, d2, d3, d4, d5, d6⟩ := oa'
    have e1 := eA.symm.trans eA'
    injection e1 with x1 x2
    injection x2 with x2 x3
    injection x3 with x3 x4
    rw [zeq (by omega) (by omega)] at x1 x3
    rw [zL_eq (by omega) (by omega) (by omega) (by omega)] at x2
    subst x1 x2 x3
    exact fitOut_1 h h'
  · exfalso
    have e1 := eA.symm.trans eA'
    injection e1 with x1 x2
    have := oa.1
    rw [zeq (by omega) (by omega)] at x1
    omega
  · omega
  · omega
  · exfalso
    have e1 := eA.symm.trans eA'
    injection e1 with x1 x2
    have := oa'.1
    rw [zeq (by omega) (by omega)] at x1
    omega
  · have e1 := eA.symm.trans eA'
    injection e1 with x1 x2
    injection x2 with x2 x3
    injection x3 with x3 x4
    subst x4
    rcases h with ⟨a1, a2⟩ | ⟨a1, a2, a3⟩ | ⟨a1, a2, a3, u, a4, a5, a6⟩ | ⟨a1, a2, a3, a4, n, a5, a6⟩ <;> rcases h' with ⟨b1, b2⟩ | ⟨b1, b2, b3⟩ | ⟨b1, b2, b3, u', b4, b5, b6⟩ | ⟨b1, b2, b3, b4, n', b5, b6⟩
    · exact ⟨by omega, fun _ => by omega⟩
    · exact absurd a1 b1
    · exact absurd a1 b1
    · exact absurd a1 b1
    · exact absurd b1 a1
    · exact ⟨by omega, fun _ => by omega⟩
    · exact absurd b2 a2
    · exact absurd b2 a2
    · exact absurd b1 a1
    · exact absurd a2 b2
    · rw [a4] at b4
      rw [zL_eq (by omega) (by omega) (by omega) (by omega)] at b4
      subst b4
      exact fitOut_1 a6 b6
    · exact absurd ⟨b3, b4⟩ a3
    · exact absurd b1 a1
    · exact absurd a2 b2
    · exact absurd ⟨a3, a4⟩ b3
    · have : n = n' := by have := ev_1 a5 b5; omega
      subst this
      rcases a6 with ⟨c1, c2⟩ | ⟨c1, c2, c3⟩ <;> rcases b6 with ⟨d1, d2⟩ | ⟨d1, d2, d3⟩
      · exact ⟨by omega, fun _ => by omega⟩
      · omega
      · omega
      · exact ⟨by omega, fun _ => by rw [c3, d3]⟩
theorem tdiv_b {a : Int} {p : Nat} (la : lim a) (hp : p ≤ 6) : lim (a.tdiv (10 ^ p : Nat)) := by
  have h1 := Int.natAbs_tdiv_le_natAbs a (10 ^ p : Nat)
  have l1 := la.1
  have l2 := la.2
  show -1000000000000000 < _ ∧ _ < 1000000000000000
  omega
theorem cast1_ok {t : Nat} {A c : nf_V} (va : okV A) (fa : 0 ≤ A.1.toInt) (h : cast1 t A 0 c) : okV c := by
  rcases h with ⟨h1, h2, h3⟩ | ⟨h1, h2, h3⟩ | ⟨h1, ta, p, a, oa, eA, h⟩ | ⟨h1, ta, x, ht, hx, eA, h⟩
  · exact Or.inr (Or.inr ⟨_, (n64 _).mpr (dbl_ok va fa), Or.inl h3⟩)
  · exact Or.inr (Or.inr ⟨_, sng_n (dbl_ok va fa), Or.inr ⟨h3, _, d2f_n (dbl_ok va fa), rfl⟩⟩)
  · rcases h with ⟨-, -, q⟩ | ⟨q, -, e⟩
    · omega
    · refine Or.inr (Or.inl ⟨t, _, _, ?_, e⟩)
      have hb := tdiv_b (a := a) (p := p) ⟨oa.2.1, oa.2.2.1⟩ oa.2.2.2.1
      have hb1 := hb.1
      have hb2 := hb.2
      by_cases h0 : t = 0
      · rw [if_pos h0, if_pos h0]
        exact ⟨h1, oa.2.1, oa.2.2.1, oa.2.2.2.1, oa.2.2.2.2.1, fun q => by omega⟩
      · rw [if_neg h0, if_neg h0]
        exact ⟨h1, hb1, hb2, by omega, Or.inl rfl, fun _ => rfl⟩
  · rcases h with ⟨a1, a2⟩ | ⟨a1, a2, a3⟩ | ⟨a1, a2, a3, u, a4, a5, a6⟩ | ⟨a1, a2, a3, a4, n, a5, a6⟩
    · omega
    · omega
    · rcases a6 with ⟨-, -, q⟩ | ⟨q, -, e⟩
      · omega
      · exact Or.inr (Or.inl ⟨t, u, 0, ⟨h1, a5.1, a5.2, by omega, Or.inl rfl, fun _ => rfl⟩, e⟩)
    · rcases a6 with ⟨c1, c2⟩ | ⟨c1, -, c3⟩
      · omega
      · have h1 := dz_le 6 n
        have h2 := dz_norm 6 n
        refine Or.inr (Or.inl ⟨0, _, _, ?_, c3⟩)
        unfold sgd
        split
        · exact ⟨by omega, by omega, by omega, by omega, by omega, fun q => by omega⟩
        · exact ⟨by omega, by omega, by omega, by omega, by omega, fun q => by omega⟩
theorem m9_z : okD m9 ∧ zv m9 = ((1000000000 * O1 : Nat) : Int) ∧ FP.Core.DFin m9 := ⟨by decide +kernel, by decide +kernel, dFin_iff.mp (by decide +kernel)⟩
theorem m6_z : okD m6 ∧ zv m6 = ((1000000 * O1 : Nat) : Int) ∧ FP.Core.DFin m6 := ⟨by decide +kernel, by decide +kernel, dFin_iff.mp (by decide +kernel)⟩
theorem m15_z : okD m15 ∧ zv m15 = ((1000000000000000 * O1 : Nat) : Int) := ⟨by decide +kernel, by decide +kernel⟩
theorem mll_0 {x : UInt64} (hx : okD x) (hz : zv x = 0) : okD (mll x) ∧ zv (mll x) = 0 := by
  rcases zero_2 hx hz with rfl | rfl
  · exact ⟨by decide +kernel, by decide +kernel⟩
  · exact ⟨by decide +kernel, by decide +kernel⟩
/-- below 10^9 the millions are below 10^15 -/
theorem mll_b {x : UInt64} (hx : okD x) (hl : ((zv x).natAbs : Int) < zv m9) : okD (mll x) ∧ okD (mll (dab x)) ∧ zv (mll (dab x)) = ((zv (mll x)).natAbs : Int) ∧ wq (mll x) ≤ 1000000000000000 ∧ (0 < zv (mll x) → 0 < zv x) ∧ (zv (mll x) < 0 → zv x < 0) := by
  have hab := dab_ok hx
  by_cases hz : zv x = 0
  · have h1 := mll_0 hx hz
    have h2 := mll_0 hab.1 (by rw [hab.2, hz]; rfl)
    refine ⟨h1.1, h2.1, by rw [h1.2, h2.2]; rfl, ?_, fun q => by omega, fun q => by omega⟩
    unfold wq
    rw [h1.2, Int.natAbs_zero, Nat.zero_div]
    omega
  · have hbig : zv m9 ≤ zv big := by decide +kernel
    have hfa : FP.Core.DFin (dab x) := (fin_big hab.1).mpr (by unfold isInf; omega)
    have hfx : FP.Core.DFin x := (fin_big hx).mpr (by unfold isInf; omega)
    have hp : 0 < zv (dab x) := by rw [hab.2]; omega
    have m6p : 0 < zv m6 := by rw [m6_z.2.1]; have := O1_pos; omega
    obtain ⟨b1, b2, b3⟩ := dmul_b hfa m6_z.2.2 hp m6p
    have h15 := (b3 m15 m15_z.1 (by rw [m15_z.2]; omega)).1 (by
      rw [m15_z.2, m6_z.2.1, Int.natAbs_natCast, Int.natAbs_natCast, hab.2, Int.natAbs_natCast]
      rw [m9_z.2.1] at hl
      have : (zv x).natAbs ≤ 1000000000 * O1 := by omega
      refine Nat.le_trans (Nat.mul_le_mul_right _ this) ?_
      generalize O1 = O
      grind)
    have hlow := (b3 (dab x) hab.1 (by omega)).2 (by
      refine Nat.mul_le_mul_left _ ?_
      rw [m6_z.2.1, Int.natAbs_natCast]
      omega)
    have hv : zv (mll x) = if zv x ≤ 0 then -zv (mll (dab x)) else zv (mll (dab x)) := by
      unfold dab
      split
      · have hx0 : x ≠ 0 := fun q => hz (by rw [q]; exact zv0)
        rw [dsub0 hx hx0, ← zv_neg]
        have e1 : FP.Core.dmul (FP.Core.dneg x) m6 = FP.Core.dneg (FP.Core.dmul x m6) := FP.Core.dmul_dneg x m6
        have e2 : FP.dneg x = FP.Core.dneg x := FP.dneg_core (a := x) hx
        have okx : okD (FP.Core.dmul x m6) := FP.Core.dmul_out hfx m6_z.2.2
        have e3 : FP.dneg (FP.Core.dmul x m6) = FP.Core.dneg (FP.Core.dmul x m6) := FP.dneg_core (a := FP.Core.dmul x m6) okx
        show zv (FP.Core.dmul x m6) = zv (FP.dneg (FP.Core.dmul (FP.dneg x) m6))
        rw [e2, e1, ← e3, zv_neg, zv_neg, Int.neg_neg]
      · rfl
    have okm : okD (mll x) := FP.Core.dmul_out hfx m6_z.2.2
    have e15 : zv (mll (dab x)) ≤ zv m15 := h15
    have elow : zv (dab x) ≤ zv (mll (dab x)) := hlow
    rw [m15_z.2] at e15
    refine ⟨okm, b1, ?_, ?_, ?_, ?_⟩
    · rw [hv]; split <;> omega
    · unfold wq
      refine Nat.div_le_of_le_mul ?_
      rw [Nat.mul_comm, hv]
      split <;> omega
    · intro q
      rw [hv] at q
      split at q <;> omega
    · intro q
      rw [hv] at q
      split at q <;> omega
