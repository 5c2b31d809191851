/-! the two loops of floatingRest -/
theorem nanEq (x : UInt64) : vf_n64 x ↔ okD x := n64 x
theorem zv_mag (x : UInt64) : zv x = FP.Core.signed (FP.Core.sgn (FP.Core.val64 x)) (zv x).natAbs := by
  have h := zv_abs (x := x)
  have : (zv x).natAbs = FP.Core.zmag FP.Core.b64 (FP.Core.val64 x) := by omega
  rw [this]
  rfl
theorem drem_mag {x y : UInt64} (hx : FP.Core.DFin x) (hy : okD y) (hy0 : zv y ≠ 0) : okD (FP.Core.drem x y) ∧ FP.Core.sgn (FP.Core.val64 (FP.Core.drem x y)) = FP.Core.sgn (FP.Core.val64 x) ∧ (zv (FP.Core.drem x y)).natAbs = (zv x).natAbs % (zv y).natAbs := by
  have hz : ¬ FP.Core.DZero y := fun q => hy0 ((zero_zv hy).mp q)
  have h := FP.Core.drem_zval hx (okD_val.mp hy) hz
  refine ⟨okD_val.mpr h.1, h.2.1, ?_⟩
  have e1 := zv_abs (x := x)
  have e2 := zv_abs (x := y)
  have e3 := zv_abs (x := FP.Core.drem x y)
  have a1 : (zv x).natAbs = FP.Core.zmag FP.Core.b64 (FP.Core.val64 x) := by omega
  have a2 : (zv y).natAbs = FP.Core.zmag FP.Core.b64 (FP.Core.val64 y) := by omega
  have a3 : (zv (FP.Core.drem x y)).natAbs = FP.Core.zmag FP.Core.b64 (FP.Core.val64 (FP.Core.drem x y)) := by omega
  rw [a1, a2, a3]
  exact h.2.2
theorem d_ext2 {a b : UInt64} (ha : okD a) (hb : okD b) (h : (zv a).natAbs = (zv b).natAbs) (hs : FP.Core.sgn (FP.Core.val64 a) = FP.Core.sgn (FP.Core.val64 b)) : a = b := by
  refine d_ext ha hb ?_ (fun _ => hs)
  rw [zv_mag a, zv_mag b, h, hs]
theorem sgn_dneg {x : UInt64} (h : okD x) : FP.Core.sgn (FP.Core.val64 (FP.dneg x)) = !FP.Core.sgn (FP.Core.val64 x) := by
  rw [FP.val64_dneg]
  have := okD_val.mp h
  cases hv : FP.Core.val64 x with
  | nan => exact absurd hv this
  | inf s => rfl
  | fin s c q => rfl
theorem two_le {v : Int} (j : Nat) : v * 2 ^ (j + 1) = 2 * (v * 2 ^ j) := by rw [Int.pow_succ]; grind
theorem rest_down {x y : UInt64} {M : nf_M} {post : UInt64 → nf_M → Prop} (hx : FP.Core.DFin x) (hx0 : zv x ≠ 0) (hy : okD y) (hy0 : 0 < zv y) (k : post (FP.Core.drem x y) M) : ∀ (j : Nat) (r b : UInt64), j < 3000 → FP.Core.DFin r → FP.Core.sgn (FP.Core.val64 r) = false → 0 ≤ zv r → (zv r).natAbs % (zv y).natAbs = (zv x).natAbs % (zv y).natAbs → okD b → (1 ≤ j → zv b = zv y * 2 ^ (j - 1) ∧ zv r < 2 * zv b) → (2 ≤ j → FP.Core.DFin b) → (j = 0 → zv r < zv y) → (∀ i, i < j → rep (zv y * 2 ^ i)) → B_F_floatingRest_56 post (j + 1) x r b (zI ((j : Int) - 1)) M := by
  intro j
  induction j with
  | zero =>
    intro r b hj hr hs hr0 hm hb h1 h2 h0 hp
    have hd := drem_mag hx hy (by omega)
    have e : (zv r).natAbs = (zv (FP.Core.drem x y)).natAbs := by
      rw [hd.2.2, ← hm, Nat.mod_eq_of_lt (by have := h0 rfl; omega)]
    unfold B_F_floatingRest_56 B_F_floatingRest_104
    rw [dc0, dlt_z hx.notNaN ok0, zv0]
    refine ⟨fun _ => ⟨fun z => ?_, fun z => ?_⟩, fun z => absurd (show zI ((0 : Nat) - 1) < (0 : Int32) by decide) z⟩
    · have : FP.dneg r = FP.Core.drem x y := by
        refine d_ext2 ((FP.dneg_nan r).trans hr.notNaN) hd.1 ?_ ?_
        · rw [zv_neg, Int.natAbs_neg, e]
        · rw [sgn_dneg hr.notNaN, hs, hd.2.1, sgn_neg z]
          rfl
      rw [this]
      exact k
    · have : r = FP.Core.drem x y := d_ext2 hr.notNaN hd.1 e (by rw [hs, hd.2.1, sgn_pos (by omega)])
      rw [this]
      exact k
  | succ j ih =>
    intro r b hj hr hs hr0 hm hb h1 h2 h0 hp
    obtain ⟨e1, e2⟩ := h1 (by omega)
    rw [show j + 1 - 1 = j by omega] at e1
    have hP : 0 < (2 : Int) ^ j := Int.pow_pos (by decide)
    have hb0 : 0 < zv b := by rw [e1]; exact Int.mul_pos hy0 hP
    have hri : ¬ isInf r := (fin_big hr.notNaN).mp hr
    have step : ∀ r' : UInt64, FP.Core.DFin r' → FP.Core.sgn (FP.Core.val64 r') = false → 0 ≤ zv r' → (zv r').natAbs % (zv y).natAbs = (zv x).natAbs % (zv y).natAbs → zv r' < zv b → B_F_floatingRest_76 (fun x0 x4 x6 x9 z => B_F_floatingRest_56 post (j + 1) x0 x4 x6 x9 z) post x r' b (zI (((j + 1 : Nat) : Int) - 1)) M := by
      intro r' f1 f2 f3 f4 f5
      unfold B_F_floatingRest_76
      refine ⟨(n64 _).mpr (half_ok hb), fun t2 et => ?_⟩
      rw [et, show (-1 : Int32) = zI (-1) by decide, zI_add, show ((j + 1 : Nat) : Int) - 1 + -1 = (j : Int) - 1 by omega]
      have hz : 1 ≤ j → zv (FP.Core.ddiv b two) = zv y * 2 ^ (j - 1) ∧ zv b = 2 * (zv y * 2 ^ (j - 1)) ∧ FP.Core.DFin b := fun hj1 => by
        have e3 : zv b = 2 * (zv y * 2 ^ (j - 1)) := by
          rw [e1, ← two_le, show j - 1 + 1 = j by omega]
        have hbf := h2 (by omega)
        exact ⟨half_zv hbf (by omega) e3 (hp (j - 1) (by omega)), e3, hbf⟩
      refine ih r' _ (by omega) f1 f2 f3 f4 (half_ok hb) (fun hj1 => ?_) (fun hj2 => ?_) (fun hj0 => ?_) (fun i hi => hp i (by omega))
      · obtain ⟨a1, a2, a3⟩ := hz hj1
        exact ⟨a1, by show zv r' < 2 * zv (FP.Core.ddiv b two); omega⟩
      · obtain ⟨a1, a2, a3⟩ := hz (by omega)
        have hbi : ¬ isInf b := (fin_big hb).mp a3
        exact (fin_big (half_ok hb)).mpr (by unfold two isInf at *; omega)
      · subst hj0
        rw [Int.pow_zero, Int.mul_one] at e1
        omega
    unfold B_F_floatingRest_56
    rw [dge_z hr.notNaN hb]
    refine ⟨fun z => absurd z ?_, fun _ => ⟨fun z => ?_, fun z => step r hr hs hr0 hm (by omega)⟩⟩
    · rw [i32_lt, t0, zI_ti (by omega) (by omega)]
      omega
    · have hbf : FP.Core.DFin b := (fin_big hb).mpr (by unfold isInf at *; omega)
      obtain ⟨s1, s2, s3⟩ := down_sub hr hbf hb0 z e2
      refine ⟨(n64 _).mpr s1.notNaN, fun t2 et => ?_⟩
      rw [et]
      refine step _ s1 s3 (by rw [s2]; omega) ?_ (by rw [s2]; omega)
      rw [s2, ← hm]
      have e4 : (zv b).natAbs = (zv y).natAbs * 2 ^ j := by
        rw [e1, Int.natAbs_mul, Int.natAbs_pow]
        rfl
      have e5 : (zv r).natAbs = (zv r - zv b).natAbs + (zv y).natAbs * 2 ^ j := by rw [← e4]; omega
      rw [e5, Nat.add_mul_mod_self_left]
theorem top_lt {x : UInt64} (h : FP.Core.DFin x) : (zv x).natAbs < 2 ^ 2098 := by
  have h1 := h.zval_lt
  have e := zv_abs (x := x)
  have e2 : FP.Core.b64.tails * 2 ^ (FP.Core.b64.exps - 2) = 2 ^ 2098 := by decide +kernel
  rw [e2] at h1
  generalize 2 ^ 2098 = P at *
  omega
theorem rest_up {x y : UInt64} {M : nf_M} {post : UInt64 → nf_M → Prop} (hx : FP.Core.DFin x) (hx0 : zv x ≠ 0) (hy : okD y) (hy0 : 0 < zv y) (k : post (FP.Core.drem x y) M) : ∀ (n j : Nat) (b : UInt64), n + j = 2101 → okD b → zv b = zv y * 2 ^ j → (1 ≤ j → FP.Core.DFin b) → (1 ≤ j → zv b ≤ zv (dab x)) → (∀ i, i < j + 1 → rep (zv y * 2 ^ i)) → B_F_floatingRest_20 post n x (dab x) b (zI j) M := by
  have hA := dab_ok hx.notNaN
  have hxi : ¬ isInf x := (fin_big hx.notNaN).mp hx
  have hAf : FP.Core.DFin (dab x) := (fin_big hA.1).mpr (by unfold isInf at *; omega)
  have hxt := top_lt hx
  have hj : ∀ (j : Nat) (b : UInt64), zv b = zv y * 2 ^ j → (1 ≤ j → zv b ≤ zv (dab x)) → j < 2099 := by
    intro j b e h
    refine Nat.lt_of_not_le fun q => ?_
    have h1 := h (by omega)
    rw [hA.2, e] at h1
    have h2 : (2 : Int) ^ j ≤ zv y * 2 ^ j := by
      have := Int.mul_le_mul_of_nonneg_right (show 1 ≤ zv y by omega) (show 0 ≤ (2 : Int) ^ j from Int.le_of_lt (Int.pow_pos (by decide)))
      rw [Int.one_mul] at this
      exact this
    have h3 : (2 : Nat) ^ 2098 ≤ 2 ^ j := Nat.pow_le_pow_right (by decide) (by omega)
    have h4 : ((2 ^ j : Nat) : Int) = (2 : Int) ^ j := by rw [Int.natCast_pow]; rfl
    rw [← h4] at h1 h2
    generalize 2 ^ 2098 = P at *
    generalize 2 ^ j = Q at *
    omega
  intro n
  induction n with
  | zero => intro j b hn hb e hf h1 hp; exact absurd (hj j b e h1) (by omega)
  | succ n ih =>
    intro j b hn hb e hf h1 hp
    have hjb := hj j b e h1
    have hP : 0 < (2 : Int) ^ j := Int.pow_pos (by decide)
    have hb0 : 0 < zv b := by rw [e]; exact Int.mul_pos hy0 hP
    have hc := up_cmp hAf (by omega) hb hb0
    unfold B_F_floatingRest_20
    rw [show (2100 : Int32) = zI (2100 : Nat) by decide, zlt (by omega) (by omega)]
    refine ⟨fun _ => ⟨(n64 _).mpr hc.1, ?_⟩, fun z => absurd (show j < 2100 by omega) z⟩
    have hge := dge_z hc.1 hb
    rw [hc.2] at hge
    refine ⟨fun z => ?_, fun z => ?_⟩
    · have z := hge.mp z
      obtain ⟨d1, d2, d3⟩ := up_dbl hAf hb hb0 z
      refine ⟨(n64 _).mpr d2.notNaN, fun t3 et => ?_⟩
      rw [et, z_s]
      have e3 : zv (FP.Core.dadd b b) = zv y * 2 ^ (j + 1) := by rw [d3, e, two_le]
      refine ih (j + 1) _ (by omega) d2.notNaN e3 (fun _ => d2) (fun _ => by rw [d3]; exact z) (fun i hi => ?_)
      by_cases hij : i < j + 1
      · exact hp i hij
      · have : i = j + 1 := by omega
        subst this
        exact ⟨_, d2.notNaN, e3⟩
    · have z : ¬ 2 * zv b ≤ zv (dab x) := fun q => z (hge.mpr q)
      unfold B_F_floatingRest_52
      refine ⟨j + 1 + 1, ?_⟩
      have := rest_down hx hx0 hy hy0 k (j + 1) (dab x) b (by omega) hAf (sgn_pos (by omega)) (by omega) (by rw [hA.2]; rfl) hb (fun _ => ⟨e, by omega⟩) (fun _ => hf (by omega)) (fun q => absurd q (by omega)) hp
      rw [show ((j + 1 : Nat) : Int) - 1 = (j : Int) by omega] at this
      exact this
theorem s_F_floatingRest {x y : UInt64} {M : nf_M} {post : UInt64 → nf_M → Prop} (hx : FP.Core.DFin x) (hy : okD y) (hy0 : 0 < zv y) (k : post (FP.Core.drem x y) M) : P_F_floatingRest x y M post := by
  unfold P_F_floatingRest
  rw [dc0, deq_z hx.notNaN ok0, zv0]
  refine ⟨fun z => ?_, fun z => s_F_amount hx.notNaN ⟨2101, ?_⟩⟩
  · have hd := drem_mag hx hy (by omega)
    have : x = FP.Core.drem x y := d_ext2 hx.notNaN hd.1 (by rw [hd.2.2, z]; exact (Nat.zero_mod _).symm) hd.2.1.symm
    rw [← this] at k
    exact k
  · exact rest_up hx z hy hy0 k 2101 0 y rfl hy (by rw [Int.pow_zero, Int.mul_one]) (fun q => absurd q (by omega)) (fun q => absurd q (by omega)) (fun i hi => by
      have : i = 0 := by omega
      subst this
      exact ⟨y, hy, by rw [Int.pow_zero, Int.mul_one]⟩)
