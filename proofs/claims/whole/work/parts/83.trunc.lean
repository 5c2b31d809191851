/-! whole part and rest of a floating number below 2^52 -/
abbrev O1 : Nat := FP.Core.one64
theorem O1_pos : 0 < O1 := FP.Core.one64_pos
theorem O1_e : O1 = 2 ^ 1074 := rfl
def wq (x : UInt64) : Nat := (zv x).natAbs / O1
def fq (x : UInt64) : Nat := (zv x).natAbs % O1
theorem wf (x : UInt64) : (zv x).natAbs = wq x * O1 + fq x := by
  unfold wq fq
  have := Nat.div_add_mod (zv x).natAbs O1
  rw [Nat.mul_comm] at this
  exact this.symm
theorem fq_lt (x : UInt64) : fq x < O1 := Nat.mod_lt _ O1_pos
theorem sgn_zv {x : UInt64} (h : zv x ≠ 0) : FP.Core.sgn (FP.Core.val64 x) = decide (zv x < 0) := by
  by_cases hn : zv x < 0
  · rw [sgn_neg hn, decide_eq_true hn]
  · rw [sgn_pos (by omega), decide_eq_false hn]
theorem d2l_w {x : UInt64} (h : okD x) (hw : wq x < 2 ^ 63) : FP.d2l x = zL (if zv x < 0 then -(wq x : Int) else wq x) := by
  have h1 := FP.Core.d2l_val (okD_val.mp h)
  have e : (FP.Core.zmag FP.Core.b64 (FP.Core.val64 x)) = (zv x).natAbs := by have := zv_abs (x := x); omega
  rw [e] at h1
  have e2 : FP.Core.signed (FP.Core.sgn (FP.Core.val64 x)) ((zv x).natAbs / FP.Core.one64) = if zv x < 0 then -(wq x : Int) else wq x := by
    show FP.Core.signed (FP.Core.sgn (FP.Core.val64 x)) (wq x) = _
    unfold FP.Core.signed
    by_cases hz : zv x = 0
    · have : wq x = 0 := by unfold wq; rw [hz, Int.natAbs_zero, Nat.zero_div]
      rw [this]
      split <;> split <;> rfl
    · rw [sgn_zv hz]
      by_cases hn : zv x < 0
      · rw [decide_eq_true hn, if_pos rfl, if_pos hn]
      · rw [decide_eq_false hn, if_neg (by decide), if_neg hn]
  rw [e2] at h1
  rw [← Int64.toInt_inj]
  show (FP.Core.d2l x).toInt = _
  rw [h1]
  by_cases hn : zv x < 0
  · rw [if_pos hn, zL_ti (by omega) (by omega)]; omega
  · rw [if_neg hn, zL_ti (by omega) (by omega)]; omega
theorem l2d_z {n : Int} (h : n.natAbs ≤ 2 ^ 53) : FP.Core.DFin (FP.l2d (zL n)) ∧ zv (FP.l2d (zL n)) = n * (O1 : Int) := by
  have e := zL_ti (z := n) (by omega) (by omega)
  have h1 := FP.Core.l2d_int (a := zL n) (by rw [e]; exact h)
  rw [e] at h1
  exact ⟨FP.Core.l2d_fin _, FP.Core.DInt_zval h1⟩
theorem dsub_le {a b V : UInt64} (ha : FP.Core.DFin a) (hb : FP.Core.DFin b) (hV : okD V) (h : zv a - zv b ≤ zv V) : zv (FP.Core.dsub a b) ≤ zv V := by
  have h4 := FP.Core.sum_le FP.Core.good_b64 (x := FP.Core.val64 a) (y := FP.Core.val64 (FP.dneg b)) (V := FP.Core.val64 V) ha (dneg_fin hb) (FP.Core.val64_fits a) (FP.Core.val64_fits _) (FP.Core.val64_fits V) (okD_val.mp hV) (by have := zv_neg b; unfold zv at *; omega)
  rw [← FP.Core.val64_dadd, ← dsub_neg hb.notNaN] at h4
  exact h4
theorem dsub_ge {a b V : UInt64} (ha : FP.Core.DFin a) (hb : FP.Core.DFin b) (hV : okD V) (h : zv V ≤ zv a - zv b) : zv V ≤ zv (FP.Core.dsub a b) := by
  have h4 := FP.Core.sum_ge FP.Core.good_b64 (x := FP.Core.val64 a) (y := FP.Core.val64 (FP.dneg b)) (V := FP.Core.val64 V) ha (dneg_fin hb) (FP.Core.val64_fits a) (FP.Core.val64_fits _) (FP.Core.val64_fits V) (okD_val.mp hV) (by have := zv_neg b; unfold zv at *; omega)
  rw [← FP.Core.val64_dadd, ← dsub_neg hb.notNaN] at h4
  exact h4
theorem rep_neg {v : Int} (h : rep v) : rep (-v) := by
  obtain ⟨d, hd, e⟩ := h
  exact ⟨FP.dneg d, (FP.dneg_nan d).trans hd, by rw [zv_neg, e]⟩
theorem rep_one {n : Nat} (h : n < 2 ^ 53) : rep ((n * O1 : Nat) : Int) := by
  have := rep_mk (c := n) (k := 1074) h (by decide)
  exact this
theorem rep_oneZ {n : Int} (h : n.natAbs < 2 ^ 53) : rep (n * (O1 : Int)) := by
  have h1 := rep_one h
  by_cases hn : n < 0
  · have h2 := rep_neg h1
    rw [Int.natCast_mul] at h2
    have e : n * (O1 : Int) = -((n.natAbs : Int) * (O1 : Int)) := by
      have : n = -(n.natAbs : Int) := by omega
      rw [← Int.neg_mul, ← this]
    rw [e]
    exact h2
  · rw [Int.natCast_mul] at h1
    have : (n.natAbs : Int) = n := by omega
    rw [this] at h1
    exact h1
/-- the rest of a number that isn't below 0 -/
theorem rest_pos {x : UInt64} (hx : FP.Core.DFin x) (h0 : 0 ≤ zv x) (hw : wq x < 2 ^ 53) : FP.Core.DFin (FP.Core.dsub x (FP.l2d (zL (wq x)))) ∧ zv (FP.Core.dsub x (FP.l2d (zL (wq x)))) = fq x := by
  obtain ⟨f1, f2⟩ := l2d_z (n := (wq x : Int)) (by omega)
  have e := wf x
  have hf := fq_lt x
  have ez : zv x = (wq x : Int) * (O1 : Int) + fq x := by
    have : ((zv x).natAbs : Int) = zv x := by omega
    rw [← this, e, Int.natCast_add, Int.natCast_mul]
  have hr : rep (zv x - zv (FP.l2d (zL (wq x)))) := by
    by_cases h1 : wq x = 0
    · rw [f2, h1]
      exact ⟨x, hx.notNaN, by omega⟩
    · refine rep_sub (rep_of hx h0) ⟨wq x, 1074, hw, by decide, by rw [f2, Int.natCast_mul]; rfl⟩ (by omega) ?_
      rw [f2, ez]
      have h2 : 1 * (O1 : Int) ≤ (wq x : Int) * (O1 : Int) := Int.mul_le_mul_of_nonneg_right (by omega) (by omega)
      omega
  have e2 := dsub_rep hx f1 hr
  have e3 : zv (FP.Core.dsub x (FP.l2d (zL (wq x)))) = fq x := by rw [e2, f2, ez]; omega
  have ok := FP.Core.dsub_out' hx f1.notNaN
  refine ⟨(fin_big ok).mpr ?_, e3⟩
  have hb : (O1 : Int) ≤ zv big := by decide +kernel
  unfold isInf
  rw [e3]
  omega
def hf5 : UInt64 := 4602678819172646912
theorem hf5_z : FP.Core.DFin hf5 ∧ 2 * zv hf5 = O1 := ⟨dFin_iff.mp (by decide +kernel), by decide +kernel⟩
theorem one_z : FP.Core.DFin FP.dconst1 ∧ zv FP.dconst1 = O1 := ⟨dFin_iff.mp (by decide +kernel), by decide +kernel⟩
/-- adding and taking away one -/
theorem inc_z {a : UInt64} {n : Int} (ha : FP.Core.DFin a) (e : zv a = n * (O1 : Int)) (h : (n + 1).natAbs < 2 ^ 53) : okD (FP.dadd a FP.dconst1) ∧ zv (FP.dadd a FP.dconst1) = (n + 1) * (O1 : Int) := by
  have hs : zv a + zv FP.dconst1 = (n + 1) * (O1 : Int) := by rw [e, one_z.2, Int.add_mul, Int.one_mul]
  refine ⟨FP.Core.dadd_out ha.notNaN one_z.1, ?_⟩
  show zv (FP.Core.dadd a FP.dconst1) = _
  rw [dadd_rep ha one_z.1 (by rw [hs]; exact rep_oneZ h), hs]
theorem dec_z {a : UInt64} {n : Int} (ha : FP.Core.DFin a) (e : zv a = n * (O1 : Int)) (h : (n - 1).natAbs < 2 ^ 53) : FP.Core.DFin (FP.dsub a FP.dconst1) ∧ zv (FP.dsub a FP.dconst1) = (n - 1) * (O1 : Int) := by
  have hs : zv a - zv FP.dconst1 = (n - 1) * (O1 : Int) := by rw [e, one_z.2, Int.sub_mul, Int.one_mul]
  have ez : zv (FP.Core.dsub a FP.dconst1) = (n - 1) * (O1 : Int) := by rw [dsub_rep ha one_z.1 (by rw [hs]; exact rep_oneZ h), hs]
  have ok := FP.Core.dsub_out' ha one_z.1.notNaN
  refine ⟨(fin_big ok).mpr ?_, ez⟩
  unfold isInf
  rw [ez, Int.natAbs_mul]
  have hb : (2 ^ 53 : Int) * (O1 : Int) ≤ zv big := by decide +kernel
  have : (n - 1).natAbs * O1 ≤ 2 ^ 53 * O1 := Nat.mul_le_mul_right _ (by omega)
  show ¬ _ < (((n - 1).natAbs * O1 : Nat) : Int)
  omega
/-- is it odd, as a long -/
theorem odd_L {n : Int} (h1 : -4611686018427387904 < n) (h2 : n < 4611686018427387904) : zL n - zL n / (2 : Int64) * (2 : Int64) = (0 : Int64) ↔ n % 2 = 0 := by
  rw [show (2 : Int64) = zL 2 by decide, show (0 : Int64) = zL 0 by decide, zL_div (by omega) (by omega) (by omega) (by omega), zL_mul, zL_sub]
  have e : n.tdiv 2 = if n < 0 then -((-n) / 2) else n / 2 := by
    split
    · have : n = -(-n) := by omega
      rw [this, Int.neg_tdiv, Int.tdiv_eq_ediv_of_nonneg (by omega)]
      omega
    · exact Int.tdiv_eq_ediv_of_nonneg (by omega)
  rw [e, zL_eq (by split <;> omega) (by split <;> omega) (by omega) (by omega)]
  split <;> omega
