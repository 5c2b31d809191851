/-! the rest of a floating division -/
theorem zv_abs {x : UInt64} : ((zv x).natAbs : Int) = (FP.Core.zmag FP.Core.b64 (FP.Core.val64 x) : Int) := by
  unfold zv FP.Core.zval
  rw [FP.Core.natAbs_signed]
theorem fin_big {x : UInt64} (h : okD x) : FP.Core.DFin x ↔ ¬ isInf x := by
  have h1 := okD_val.mp h
  have hb := okD_val.mp okbig.1
  rw [FP.Core.fin_bits]
  unfold isInf
  have e : zv big = ((zv big).natAbs : Int) := by have := zvbig0; omega
  rw [e, zv_abs, zv_abs, FP.Core.zmag_bits h1, FP.Core.zmag_bits hb, Int.not_lt, Int.ofNat_le, FP.Core.unitsOf_le_iff, show big.toNat % 2 ^ 63 = 9218868437227405311 by decide +kernel]
  omega
theorem fin_ok {x : UInt64} (h : FP.Core.DFin x) : okD x := h.notNaN
theorem zero_zv {x : UInt64} (h : okD x) : FP.Core.DZero x ↔ zv x = 0 := by
  have h1 := okD_val.mp h
  rw [FP.Core.zero_bits2]
  exact (FP.Core.zval_eq_zero h1).symm
theorem d_ext {a b : UInt64} (ha : okD a) (hb : okD b) (h : zv a = zv b) (hs : zv b = 0 → FP.Core.sgn (FP.Core.val64 a) = FP.Core.sgn (FP.Core.val64 b)) : a = b := by
  by_cases hz : zv b = 0
  · have ha0 : FP.Core.DZero a := (zero_zv ha).mpr (h.trans hz)
    have hb0 : FP.Core.DZero b := (zero_zv hb).mpr hz
    have hs := hs hz
    have fa := FP.Core.val64_fits a
    have fb := FP.Core.val64_fits b
    obtain ⟨s, q, ea⟩ := ha0
    obtain ⟨t, r, eb⟩ := hb0
    refine FP.Core.val64_inj (okD_val.mp ha) ?_
    rw [ea, eb] at hs
    rw [ea] at fa ⊢
    rw [eb] at fb ⊢
    have hst : s = t := hs
    rw [FP.Core.fits_zero_q FP.Core.good_b64 fa, FP.Core.fits_zero_q FP.Core.good_b64 fb, hst]
  · refine FP.Core.eq_bits (fun q => hz ((zero_zv hb).mp q)) ?_
    rw [dcmp_z ha hb, h]
    exact congrArg some (by rw [Int.compare_eq_eq])
theorem sgn_pos {x : UInt64} (h : 0 < zv x) : FP.Core.sgn (FP.Core.val64 x) = false := by
  unfold zv FP.Core.zval at h
  cases hs : FP.Core.sgn (FP.Core.val64 x) with
  | false => rfl
  | true =>
    rw [hs] at h
    unfold FP.Core.signed at h
    rw [if_pos rfl] at h
    omega
theorem sgn_neg {x : UInt64} (h : zv x < 0) : FP.Core.sgn (FP.Core.val64 x) = true := by
  unfold zv FP.Core.zval at h
  cases hs : FP.Core.sgn (FP.Core.val64 x) with
  | true => rfl
  | false =>
    rw [hs] at h
    unfold FP.Core.signed at h
    rw [if_neg (by decide)] at h
    omega
/-- numbers that a double holds -/
def rep (v : Int) : Prop := ∃ d, okD d ∧ zv d = v
theorem rep_mk {c k : Nat} (hc : c < 2 ^ 53) (hk : k ≤ 2045) : rep ((c * 2 ^ k : Nat) : Int) := by
  have hq : FP.Core.b64.qmin = -1074 := by decide +kernel
  have hQ : FP.Core.b64.qmax = 971 := by decide +kernel
  obtain ⟨c', q', h1, h2⟩ := FP.Core.round_exact FP.Core.good_b64 false (c := c) (q := FP.Core.b64.qmin + k) hc (by omega) (by omega)
  have hf := FP.Core.round_fits FP.Core.good_b64 (.fin false c (FP.Core.b64.qmin + k))
  rw [h1] at hf
  have hv := FP.Core.val64_of64 hf
  refine ⟨FP.Core.of64 (.fin false c' q'), ?_, ?_⟩
  · rw [okD_val, hv]; exact FP.Core.Datum.noConfusion
  · unfold zv
    rw [hv]
    show FP.Core.signed false (FP.Core.inUnits c' q' FP.Core.b64.qmin) = _
    rw [h2]
    unfold FP.Core.inUnits FP.Core.signed
    rw [if_neg (by decide), show (FP.Core.b64.qmin + k - FP.Core.b64.qmin).toNat = k by omega]
theorem rep_of {x : UInt64} (h : FP.Core.DFin x) (h0 : 0 ≤ zv x) : ∃ c k : Nat, c < 2 ^ 53 ∧ k ≤ 2045 ∧ zv x = ((c * 2 ^ k : Nat) : Int) := by
  have hq : FP.Core.b64.qmin = -1074 := by decide +kernel
  have hQ : FP.Core.b64.qmax = 971 := by decide +kernel
  have hf := FP.Core.val64_fits x
  obtain ⟨s, c, q, e⟩ := h
  rw [e] at hf
  refine ⟨c, (q - FP.Core.b64.qmin).toNat, hf.1, ?_, ?_⟩
  · have := hf.2.1
    have := hf.2.2.1
    omega
  · have : zv x = ((zv x).natAbs : Int) := by omega
    rw [this, zv_abs, e]
    rfl
theorem dadd_rep {a b : UInt64} (ha : FP.Core.DFin a) (hb : FP.Core.DFin b) (h : rep (zv a + zv b)) : zv (FP.Core.dadd a b) = zv a + zv b := by
  obtain ⟨v, hv, e⟩ := h
  have hvn := okD_val.mp hv
  have h1 := FP.Core.sum_le FP.Core.good_b64 (x := FP.Core.val64 a) (y := FP.Core.val64 b) (V := FP.Core.val64 v) ha hb (FP.Core.val64_fits a) (FP.Core.val64_fits b) (FP.Core.val64_fits v) hvn (by unfold zv at e; omega)
  have h2 := FP.Core.sum_ge FP.Core.good_b64 (x := FP.Core.val64 a) (y := FP.Core.val64 b) (V := FP.Core.val64 v) ha hb (FP.Core.val64_fits a) (FP.Core.val64_fits b) (FP.Core.val64_fits v) hvn (by unfold zv at e; omega)
  rw [← FP.Core.val64_dadd] at h1 h2
  unfold zv at e ⊢
  omega
theorem dneg_fin {b : UInt64} (h : FP.Core.DFin b) : FP.Core.DFin (FP.dneg b) := by
  obtain ⟨s, c, q, e⟩ := h
  refine ⟨!s, c, q, ?_⟩
  rw [FP.val64_dneg, e]
  rfl
theorem dsub_neg {a b : UInt64} (hb : okD b) : FP.Core.dsub a b = FP.Core.dadd a (FP.dneg b) := by
  rw [FP.Core.dsub_eq, FP.dneg_core (a := b) hb]
theorem dsub_rep {a b : UInt64} (ha : FP.Core.DFin a) (hb : FP.Core.DFin b) (h : rep (zv a - zv b)) : zv (FP.Core.dsub a b) = zv a - zv b := by
  rw [dsub_neg hb.notNaN]
  rw [Int.sub_eq_add_neg, ← zv_neg] at h ⊢
  exact dadd_rep ha (dneg_fin hb) h
/-- what is between two numbers of a double and not greater than either -/
theorem rep_sub {a b : Int} (ha : ∃ c k : Nat, c < 2 ^ 53 ∧ k ≤ 2045 ∧ a = ((c * 2 ^ k : Nat) : Int)) (hb : ∃ c k : Nat, c < 2 ^ 53 ∧ k ≤ 2045 ∧ b = ((c * 2 ^ k : Nat) : Int)) (h1 : b ≤ a) (h2 : a < 2 * b) : rep (a - b) := by
  obtain ⟨c, k, c1, k1, rfl⟩ := ha
  obtain ⟨d, l, d1, l1, rfl⟩ := hb
  rcases Nat.le_total k l with h | h
  · obtain ⟨j, rfl⟩ : ∃ j, l = k + j := ⟨l - k, by omega⟩
    rw [Nat.pow_add, Nat.mul_comm (2 ^ k), ← Nat.mul_assoc] at h1 h2 ⊢
    generalize d * 2 ^ j = e at *
    have hp := Nat.two_pow_pos k
    have q1 : e ≤ c := Nat.le_of_mul_le_mul_right (by omega) hp
    have := rep_mk (c := c - e) (k := k) (by omega) k1
    rw [Nat.sub_mul] at this
    have q2 : e * 2 ^ k ≤ c * 2 ^ k := Nat.mul_le_mul_right _ q1
    rw [Int.ofNat_sub q2] at this
    exact this
  · obtain ⟨j, rfl⟩ : ∃ j, k = l + j := ⟨k - l, by omega⟩
    rw [Nat.pow_add, Nat.mul_comm (2 ^ l), ← Nat.mul_assoc] at h1 h2 ⊢
    generalize c * 2 ^ j = e at *
    have hp := Nat.two_pow_pos l
    have q1 : d ≤ e := Nat.le_of_mul_le_mul_right (by omega) hp
    have q3 : e < 2 * d := Nat.lt_of_mul_lt_mul_right (a := 2 ^ l) (by rw [Nat.mul_assoc]; omega)
    have := rep_mk (c := e - d) (k := l) (by omega) l1
    rw [Nat.sub_mul] at this
    have q2 : d * 2 ^ l ≤ e * 2 ^ l := Nat.mul_le_mul_right _ q1
    rw [Int.ofNat_sub q2] at this
    exact this
/-- (1) the compare of the loop that goes up -/
theorem up_cmp {a b : UInt64} (ha : FP.Core.DFin a) (ha0 : 0 ≤ zv a) (hb : okD b) (hb0 : 0 < zv b) : okD (FP.Core.dsub a b) ∧ (zv b ≤ zv (FP.Core.dsub a b) ↔ 2 * zv b ≤ zv a) := by
  refine ⟨FP.Core.dsub_out' ha hb, ?_⟩
  by_cases hf : isInf b
  · have hbn : ¬ FP.Core.DFin b := fun q => (fin_big hb).mp q hf
    obtain ⟨s, e⟩ : ∃ s, FP.Core.val64 b = .inf s := by
      cases hv : FP.Core.val64 b with
      | nan => exact absurd hv (okD_val.mp hb)
      | inf s => exact ⟨s, rfl⟩
      | fin s c q => exact absurd ⟨s, c, q, hv⟩ hbn
    have hs : s = false := by have := sgn_pos hb0; rw [e] at this; exact this
    have hai : ¬ isInf a := (fin_big ha.notNaN).mp ha
    unfold isInf at hf hai
    have hv : zv (FP.Core.dsub a b) ≤ 0 := by
      unfold zv
      obtain ⟨s', c, q, ea⟩ := ha
      rw [FP.Core.val64_dsub, ea, e, hs]
      show FP.Core.signed true _ ≤ 0
      unfold FP.Core.signed
      rw [if_pos rfl]
      omega
    omega
  · have hbf := (fin_big hb).mpr hf
    constructor
    · intro h
      by_cases h2 : 2 * zv b ≤ zv a
      · exact h2
      · exfalso
        by_cases h3 : zv b ≤ zv a
        · have := dsub_rep ha hbf (rep_sub (rep_of ha ha0) (rep_of hbf (by omega)) h3 (by omega))
          omega
        · have h4 := FP.Core.sum_le FP.Core.good_b64 (x := FP.Core.val64 a) (y := FP.Core.val64 (FP.dneg b)) (V := FP.Core.val64 0) ha (dneg_fin hbf) (FP.Core.val64_fits a) (FP.Core.val64_fits _) (FP.Core.val64_fits 0) (okD_val.mp ok0) (by have := zv_neg b; have := zv0; unfold zv at *; omega)
          rw [← FP.Core.val64_dadd, ← dsub_neg hb, FP.Core.zval64_zero] at h4
          unfold zv at h hb0
          omega
    · intro h
      have h4 := FP.Core.sum_ge FP.Core.good_b64 (x := FP.Core.val64 a) (y := FP.Core.val64 (FP.dneg b)) (V := FP.Core.val64 b) ha (dneg_fin hbf) (FP.Core.val64_fits a) (FP.Core.val64_fits _) (FP.Core.val64_fits b) (okD_val.mp hb) (by have := zv_neg b; unfold zv at *; omega)
      rw [← FP.Core.val64_dadd, ← dsub_neg hb] at h4
      exact h4
/-- (2) the step of the loop that goes down -/
theorem down_sub {a b : UInt64} (ha : FP.Core.DFin a) (hb : FP.Core.DFin b) (hb0 : 0 < zv b) (h1 : zv b ≤ zv a) (h2 : zv a < 2 * zv b) : FP.Core.DFin (FP.Core.dsub a b) ∧ zv (FP.Core.dsub a b) = zv a - zv b ∧ FP.Core.sgn (FP.Core.val64 (FP.Core.dsub a b)) = false := by
  have e := dsub_rep ha hb (rep_sub (rep_of ha (by omega)) (rep_of hb (by omega)) h1 h2)
  have ok := FP.Core.dsub_out' ha hb.notNaN
  have hai : ¬ isInf a := (fin_big ha.notNaN).mp ha
  refine ⟨(fin_big ok).mpr (by unfold isInf at *; omega), e, ?_⟩
  by_cases hz : zv a = zv b
  · have : a = b := d_ext ha.notNaN hb.notNaN hz (fun q => by omega)
    subst this
    obtain ⟨s, c, q, hv⟩ := ha
    rw [FP.Core.dsub_self hv, FP.Core.val64_dconst0]
    rfl
  · exact sgn_pos (by omega)
/-- (3) doubling -/
theorem up_dbl {a b : UInt64} (ha : FP.Core.DFin a) (hb : okD b) (hb0 : 0 < zv b) (h : 2 * zv b ≤ zv a) : FP.Core.DFin b ∧ FP.Core.DFin (FP.Core.dadd b b) ∧ zv (FP.Core.dadd b b) = 2 * zv b := by
  have hai : ¬ isInf a := (fin_big ha.notNaN).mp ha
  have hbf : FP.Core.DFin b := (fin_big hb).mpr (by unfold isInf at *; omega)
  have hr : rep (zv b + zv b) := by
    obtain ⟨c, k, c1, k1, e⟩ := rep_of hbf (by omega)
    by_cases hc : c < 2 ^ 52
    · have := rep_mk (c := 2 * c) (k := k) (by omega) k1
      rw [Nat.mul_assoc] at this
      rw [e, ← Int.natCast_add, ← Nat.two_mul]
      exact this
    · by_cases hk : k + 1 ≤ 2045
      · have := rep_mk (c := c) (k := k + 1) c1 hk
        rw [Nat.pow_succ, ← Nat.mul_assoc, Nat.mul_comm _ 2] at this
        rw [e, ← Int.natCast_add, ← Nat.two_mul]
        exact this
      · exfalso
        have hk2 : k = 2045 := by omega
        obtain ⟨c', k', c1', k1', e'⟩ := rep_of ha (by omega)
        rw [e, e', hk2] at h
        have q1 : c' * 2 ^ k' ≤ c' * 2 ^ 2045 := Nat.mul_le_mul_left _ (Nat.pow_le_pow_right (by decide) k1')
        have hp := Nat.two_pow_pos 2045
        generalize 2 ^ 2045 = P at *
        generalize c' * 2 ^ k' = E at *
        have q2 : c' * P < 2 ^ 53 * P := Nat.mul_lt_mul_of_pos_right c1' hp
        have q3 : 2 ^ 52 * P ≤ c * P := Nat.mul_le_mul_right _ (by omega)
        omega
  have e := dadd_rep hbf hbf hr
  exact ⟨hbf, (fin_big (FP.Core.dadd_out hb hbf)).mpr (by unfold isInf at *; omega), by omega⟩
/-- (4) halving -/
def two : UInt64 := 4611686018427387904
theorem two_fin : FP.Core.DFin two ∧ ¬ FP.Core.DZero two := ⟨⟨false, 2 ^ 52, -51, by decide +kernel⟩, fun h => absurd ((zero_zv (by decide +kernel)).mp h) (by decide +kernel)⟩
theorem half_ok {b : UInt64} (h : okD b) : okD (FP.Core.ddiv b two) := FP.Core.ddiv_out h two_fin.1 two_fin.2
theorem half_zv {b : UInt64} {w : Int} (h : FP.Core.DFin b) (hw : 0 < w) (e : zv b = 2 * w) (hr : rep w) : zv (FP.Core.ddiv b two) = w := by
  obtain ⟨v, hv, ev⟩ := hr
  have hb0 : 0 < zv b := by omega
  have hs := sgn_pos hb0
  have e2 : ((zv b).natAbs : Int) = 2 * (zv v).natAbs := by omega
  rw [zv_abs, zv_abs] at e2
  obtain ⟨s, c, q, hb⟩ := h
  have hfit := FP.Core.val64_fits b
  rw [hb] at hs e2 hfit
  have hs' : s = false := hs
  subst hs'
  have ht : FP.Core.val64 two = .fin false (2 ^ 52) (-51) := by decide +kernel
  have hR : FP.Core.val64 (FP.Core.ddiv b two) = FP.Core.roundRatio FP.Core.b64 false c (2 ^ 52) (q + 51) := by
    rw [FP.Core.val64_ddiv, hb, ht]
    simp only [FP.Core.quotient]
    rw [if_neg (by decide)]
    show FP.Core.roundRatio FP.Core.b64 (false != false) c (2 ^ 52) (q - -51) = _
    rw [show q - -51 = q + 51 by omega]
    rfl
  have hqm := hfit.2.1
  have hu : FP.Core.inUnits c (q + 51) FP.Core.b64.qmin = FP.Core.zmag FP.Core.b64 (FP.Core.val64 v) * 2 ^ (FP.Core.b64.qmin - FP.Core.b64.qmin).toNat * 2 ^ 52 := by
    have e3 : FP.Core.zmag FP.Core.b64 (.fin false c q) = c * 2 ^ (q - FP.Core.b64.qmin).toNat := rfl
    rw [e3] at e2
    unfold FP.Core.inUnits
    rw [show (q + 51 - FP.Core.b64.qmin).toNat = (q - FP.Core.b64.qmin).toNat + 51 by omega, Nat.pow_add, ← Nat.mul_assoc, Int.sub_self, Int.toNat_zero, Nat.pow_zero, Nat.mul_one]
    generalize c * 2 ^ (q - FP.Core.b64.qmin).toNat = X at *
    have : X = 2 * FP.Core.zmag FP.Core.b64 (FP.Core.val64 v) := by omega
    rw [this]
    omega
  have h1 := FP.Core.zmag_roundRatio_le FP.Core.good_b64 (s := false) (A := c) (B := 2 ^ 52) (e := q + 51) (e0 := FP.Core.b64.qmin) (V := FP.Core.val64 v) (by decide) (FP.Core.val64_fits v) (okD_val.mp hv) (Int.le_refl _) (by omega) (by rw [hu]; exact Nat.le_refl _)
  have h2 := FP.Core.zmag_roundRatio_ge FP.Core.good_b64 (s := false) (A := c) (B := 2 ^ 52) (e := q + 51) (e0 := FP.Core.b64.qmin) (V := FP.Core.val64 v) (by decide) (FP.Core.val64_fits v) (Int.le_refl _) (by omega) (by rw [hu]; exact Nat.le_refl _)
  have hm : FP.Core.zmag FP.Core.b64 (FP.Core.val64 (FP.Core.ddiv b two)) = FP.Core.zmag FP.Core.b64 (FP.Core.val64 v) := by rw [hR]; omega
  have hsg : FP.Core.sgn (FP.Core.val64 (FP.Core.ddiv b two)) = false := by rw [hR, FP.Core.sgn_roundRatio]
  have : zv (FP.Core.ddiv b two) = (FP.Core.zmag FP.Core.b64 (FP.Core.val64 (FP.Core.ddiv b two)) : Int) := by
    unfold zv FP.Core.zval
    rw [hsg]
    rfl
  rw [this, hm, ← zv_abs]
  omega
