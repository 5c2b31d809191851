/-! products and quotients between bounds; half even of a floating number -/
theorem val_fin {a : UInt64} (ha : FP.Core.DFin a) (h0 : 0 ≤ zv a) (hz : zv a ≠ 0) : ∃ c q, FP.Core.val64 a = .fin false c q ∧ FP.Core.zmag FP.Core.b64 (.fin false c q) = (zv a).natAbs := by
  have hs := sgn_pos (show 0 < zv a by omega)
  obtain ⟨s, c, q, e⟩ := ha
  rw [e] at hs
  have : s = false := hs
  subst this
  refine ⟨c, q, e, ?_⟩
  have := zv_abs (x := a)
  rw [e] at this
  omega
theorem two_O1 : 2 ^ (-FP.Core.b64.qmin).toNat = O1 := FP.Core.pow_qmin64
/-- a product of numbers above 0 -/
theorem dmul_b {a b : UInt64} (ha : FP.Core.DFin a) (hb : FP.Core.DFin b) (h0 : 0 < zv a) (h1 : 0 < zv b) : okD (FP.Core.dmul a b) ∧ 0 ≤ zv (FP.Core.dmul a b) ∧ ∀ V, okD V → 0 ≤ zv V → (((zv a).natAbs * (zv b).natAbs ≤ (zv V).natAbs * O1 → zv (FP.Core.dmul a b) ≤ zv V) ∧ ((zv V).natAbs * O1 ≤ (zv a).natAbs * (zv b).natAbs → zv V ≤ zv (FP.Core.dmul a b))) := by
  have ok : okD (FP.Core.dmul a b) := FP.Core.dmul_out ha hb
  obtain ⟨c, q, ea, ua⟩ := val_fin ha (by omega) (by omega)
  obtain ⟨d, r, eb, ub⟩ := val_fin hb (by omega) (by omega)
  have fa := FP.Core.val64_fits a
  have fb := FP.Core.val64_fits b
  rw [ea] at fa
  rw [eb] at fb
  have q1 := fa.2.1
  have r1 := fb.2.1
  have hm : FP.Core.b64.qmin = -1074 := by decide +kernel
  have eR : FP.Core.val64 (FP.Core.dmul a b) = FP.Core.roundRatio FP.Core.b64 false (c * d) 1 (q + r) := by
    rw [FP.Core.val64_dmul, ea, eb]
    rfl
  have hs : FP.Core.sgn (FP.Core.val64 (FP.Core.dmul a b)) = false := by rw [eR, FP.Core.sgn_roundRatio]
  have hz : zv (FP.Core.dmul a b) = (FP.Core.zmag FP.Core.b64 (FP.Core.val64 (FP.Core.dmul a b)) : Int) := by
    unfold zv FP.Core.zval
    rw [hs]
    rfl
  have hu : FP.Core.inUnits (c * d) (q + r) (FP.Core.b64.qmin + FP.Core.b64.qmin) = (zv a).natAbs * (zv b).natAbs := by
    rw [← ua, ← ub]
    show c * d * 2 ^ _ = (c * 2 ^ _) * (d * 2 ^ _)
    rw [show (q + r - (FP.Core.b64.qmin + FP.Core.b64.qmin)).toNat = (q - FP.Core.b64.qmin).toNat + (r - FP.Core.b64.qmin).toNat by omega, Nat.pow_add]
    ac_rfl
  have hp : (FP.Core.b64.qmin - (FP.Core.b64.qmin + FP.Core.b64.qmin)).toNat = (-FP.Core.b64.qmin).toNat := by omega
  refine ⟨ok, by omega, fun V hV hV0 => ?_⟩
  have ev := zv_abs (x := V)
  have ev2 : FP.Core.zmag FP.Core.b64 (FP.Core.val64 V) = (zv V).natAbs := by omega
  constructor
  · intro h
    have := FP.Core.zmag_roundRatio_le FP.Core.good_b64 (s := false) (A := c * d) (B := 1) (e := q + r) (e0 := FP.Core.b64.qmin + FP.Core.b64.qmin) (V := FP.Core.val64 V) (by decide) (FP.Core.val64_fits V) (okD_val.mp hV) (by omega) (by omega) (by rw [hu, hp, two_O1, ev2, Nat.mul_one]; exact h)
    rw [← eR] at this
    omega
  · intro h
    have := FP.Core.zmag_roundRatio_ge FP.Core.good_b64 (s := false) (A := c * d) (B := 1) (e := q + r) (e0 := FP.Core.b64.qmin + FP.Core.b64.qmin) (V := FP.Core.val64 V) (by decide) (FP.Core.val64_fits V) (by omega) (by omega) (by rw [hu, hp, two_O1, ev2, Nat.mul_one]; exact h)
    rw [← eR] at this
    omega
/-- a quotient of numbers above 0 -/
theorem ddiv_b {a b : UInt64} (ha : FP.Core.DFin a) (hb : FP.Core.DFin b) (h0 : 0 < zv a) (h1 : 0 < zv b) : okD (FP.Core.ddiv a b) ∧ 0 ≤ zv (FP.Core.ddiv a b) ∧ ∀ V, okD V → 0 ≤ zv V → (((zv a).natAbs * O1 ≤ (zv V).natAbs * (zv b).natAbs → zv (FP.Core.ddiv a b) ≤ zv V) ∧ ((zv V).natAbs * (zv b).natAbs ≤ (zv a).natAbs * O1 → zv V ≤ zv (FP.Core.ddiv a b))) := by
  have ok : okD (FP.Core.ddiv a b) := FP.Core.ddiv_out ha.notNaN hb (fun q => by have := (zero_zv hb.notNaN).mp q; omega)
  obtain ⟨c, q, ea, ua⟩ := val_fin ha (by omega) (by omega)
  obtain ⟨d, r, eb, ub⟩ := val_fin hb (by omega) (by omega)
  have fa := FP.Core.val64_fits a
  have fb := FP.Core.val64_fits b
  rw [ea] at fa
  rw [eb] at fb
  have q1 := fa.2.1
  have r1 := fb.2.1
  have r2 := fb.2.2.1
  have hm : FP.Core.b64.qmin = -1074 := by decide +kernel
  have hM : FP.Core.b64.qmax = 971 := by decide +kernel
  have hd : d ≠ 0 := by
    intro hd
    subst hd
    have : FP.Core.zmag FP.Core.b64 (.fin false 0 r) = 0 := by
      show 0 * _ = 0
      exact Nat.zero_mul _
    omega
  have eR : FP.Core.val64 (FP.Core.ddiv a b) = FP.Core.roundRatio FP.Core.b64 false c d (q - r) := by
    rw [FP.Core.val64_ddiv, ea, eb]
    simp only [FP.Core.quotient]
    rw [if_neg hd]
    rfl
  have hs : FP.Core.sgn (FP.Core.val64 (FP.Core.ddiv a b)) = false := by rw [eR, FP.Core.sgn_roundRatio]
  have hz : zv (FP.Core.ddiv a b) = (FP.Core.zmag FP.Core.b64 (FP.Core.val64 (FP.Core.ddiv a b)) : Int) := by
    unfold zv FP.Core.zval
    rw [hs]
    rfl
  have hP : 0 < 2 ^ (r - FP.Core.b64.qmin).toNat := Nat.two_pow_pos _
  have hQ : 0 < 2 ^ 2000 := Nat.two_pow_pos _
  have key : ∀ v : Nat, (FP.Core.inUnits c (q - r) (FP.Core.b64.qmin - 2000) * 2 ^ (r - FP.Core.b64.qmin).toNat = (zv a).natAbs * O1 * 2 ^ 2000) ∧ (v * 2 ^ (FP.Core.b64.qmin - (FP.Core.b64.qmin - 2000)).toNat * d * 2 ^ (r - FP.Core.b64.qmin).toNat = v * (zv b).natAbs * 2 ^ 2000) := by
    intro v
    constructor
    · rw [← ua, ← two_O1]
      show c * 2 ^ _ * 2 ^ _ = c * 2 ^ _ * 2 ^ _ * 2 ^ 2000
      rw [Nat.mul_assoc, ← Nat.pow_add, Nat.mul_assoc, Nat.mul_assoc, ← Nat.pow_add, ← Nat.pow_add]
      congr 2
      omega
    · rw [← ub, show (FP.Core.b64.qmin - (FP.Core.b64.qmin - 2000)).toNat = 2000 by omega]
      show v * 2 ^ 2000 * d * 2 ^ _ = v * (d * 2 ^ _) * 2 ^ 2000
      generalize 2 ^ 2000 = T
      generalize 2 ^ (r - FP.Core.b64.qmin).toNat = S
      ac_rfl
  refine ⟨ok, by omega, fun V hV hV0 => ?_⟩
  have ev := zv_abs (x := V)
  have ev2 : FP.Core.zmag FP.Core.b64 (FP.Core.val64 V) = (zv V).natAbs := by omega
  obtain ⟨k1, k2⟩ := key (zv V).natAbs
  constructor
  · intro h
    have := FP.Core.zmag_roundRatio_le FP.Core.good_b64 (s := false) (A := c) (B := d) (e := q - r) (e0 := FP.Core.b64.qmin - 2000) (V := FP.Core.val64 V) (by omega) (FP.Core.val64_fits V) (okD_val.mp hV) (by omega) (by omega) (by
      rw [ev2]
      refine Nat.le_of_mul_le_mul_right ?_ hP
      rw [k1, k2]
      exact Nat.mul_le_mul_right _ h)
    rw [← eR] at this
    omega
  · intro h
    have := FP.Core.zmag_roundRatio_ge FP.Core.good_b64 (s := false) (A := c) (B := d) (e := q - r) (e0 := FP.Core.b64.qmin - 2000) (V := FP.Core.val64 V) (by omega) (FP.Core.val64_fits V) (by omega) (by omega) (by
      rw [ev2]
      refine Nat.le_of_mul_le_mul_right ?_ hP
      rw [k1, k2]
      exact Nat.mul_le_mul_right _ h)
    rw [← eR] at this
    omega
/-- n is x, half even -/
def ev (x : UInt64) (n : Int) : Prop := (upc 5 (rsE x) (flo x) ∧ n = flo x + 1) ∨ (¬ upc 5 (rsE x) (flo x) ∧ n = flo x)
theorem ev_1 {x : UInt64} {n n' : Int} (h : ev x n) (h' : ev x n') : n = n' := by
  unfold ev at *
  generalize upc 5 (rsE x) (flo x) = U at *
  grind
theorem ev_neg {x y : UInt64} {n n' : Int} (e : zv y = ((zv x).natAbs : Int)) (h : ev x n) (h' : ev y n') : n = if zv x < 0 then -n' else n' := by
  have ew : wq y = wq x := by unfold wq; rw [e]; rfl
  have ef : fq y = fq x := by unfold fq; rw [e]; rfl
  have hO := O1_pos
  have hf := fq_lt x
  have hU : ∀ z : UInt64, upc 5 (rsE z) (flo z) = ((O1 : Int) < 2 * rsE z ∨ (2 * rsE z = O1 ∧ ¬ flo z % 2 = 0)) := fun _ => rfl
  unfold ev at h h'
  rw [hU] at h h'
  have hy : ¬ zv y < 0 := by omega
  have fy : flo y = (wq x : Int) := by unfold flo; rw [if_neg hy, ew]
  have ry : rsE y = fq x := by unfold rsE; rw [if_neg hy, ef]
  rw [fy, ry] at h'
  by_cases hx : zv x < 0
  · rw [if_pos hx]
    by_cases h0 : fq x = 0
    · have fx : flo x = -(wq x : Int) := by unfold flo; rw [if_pos hx, if_pos h0]
      have rx : rsE x = 0 := by unfold rsE; rw [if_pos hx, if_pos h0]
      rw [fx, rx] at h
      omega
    · have fx : flo x = -(wq x : Int) - 1 := by unfold flo; rw [if_pos hx, if_neg h0]
      have rx : rsE x = (O1 : Int) - fq x := by unfold rsE; rw [if_pos hx, if_neg h0]
      rw [fx, rx] at h
      omega
  · rw [if_neg hx]
    have fx : flo x = (wq x : Int) := by unfold flo; rw [if_neg hx]
    have rx : rsE x = fq x := by unfold rsE; rw [if_neg hx]
    rw [fx, rx] at h
    omega
theorem d2l_flo {x f : UInt64} (hw : wq x < 2 ^ 52) (hf : FP.Core.DFin f) (ef : zv f = flo x * (O1 : Int)) : FP.d2l f = zL (flo x) := by
  have hfl := flo_ab hw
  have ew : wq f = (flo x).natAbs := by
    unfold wq
    rw [ef, Int.natAbs_mul]
    exact Nat.mul_div_cancel _ O1_pos
  rw [d2l_w hf.notNaN (by omega), ew]
  have hs : zv f < 0 ↔ flo x < 0 := by
    rw [ef]
    have hO : (0 : Int) < (O1 : Int) := by have := O1_pos; omega
    constructor
    · intro q
      refine Int.lt_of_not_ge fun r => ?_
      have := Int.mul_nonneg r (Int.le_of_lt hO)
      omega
    · intro q
      exact Int.mul_neg_of_neg_of_pos q hO
  congr 1
  split <;> omega
theorem s_M_even {x : UInt64} {M : nf_M} {post : Int64 → nf_M → Prop} (hx : okD x) (hw : wq x < 2 ^ 52) (k : ∀ n, ev x n → post (zL n) M) : P_M_even x M post := by
  unfold P_M_even B_M_even_43 B_M_even_50 B_M_even_52
  refine s_M_floor hx hw (fun f hf ef => ?_)
  obtain ⟨r1, r2, r3, r4⟩ := rest_ok hx hw hf ef
  have h5 := hf5_z
  have c5 := h5.1.notNaN
  have e5 : (4602678819172646912 : UInt64) = hf5 := rfl
  have hfl := flo_ab hw
  have hU : upc 5 (rsE x) (flo x) = ((O1 : Int) < 2 * rsE x ∨ (2 * rsE x = O1 ∧ ¬ flo x % 2 = 0)) := rfl
  have hup : ((O1 : Int) < 2 * rsE x ∨ (2 * rsE x = O1 ∧ ¬ flo x % 2 = 0)) → post (zL (flo x) + (1 : Int64)) M := fun u => by
    rw [show (1 : Int64) = zL 1 by decide, zL_add]
    exact k _ (Or.inl ⟨by rw [hU]; exact u, rfl⟩)
  have hno : ¬ ((O1 : Int) < 2 * rsE x ∨ (2 * rsE x = O1 ∧ ¬ flo x % 2 = 0)) → post (zL (flo x)) M := fun u => k _ (Or.inr ⟨by rw [hU]; exact u, rfl⟩)
  refine ⟨(n64 _).mpr r1, fun t4 e4 t5 et => ?_⟩
  rw [e4, et, d2l_flo hw hf ef, e5]
  have g1 := dgt_z r1 c5
  have g2 := deq_z r1 c5
  show (nf_dgt (FP.Core.dsub x f) hf5 → _) ∧ (¬ nf_dgt (FP.Core.dsub x f) hf5 → (nf_deq (FP.Core.dsub x f) hf5 → _) ∧ (¬ nf_deq (FP.Core.dsub x f) hf5 → _))
  rw [g1, g2, odd_L (by omega) (by omega)]
  refine ⟨fun q => hup ?_, fun q => ⟨fun q2 => ⟨fun q3 => hno ?_, fun q3 => hup ?_⟩, fun q2 => hno ?_⟩⟩ <;> rcases r4 with r4 | r4 <;> omega
theorem s_F_nearestEven {x : UInt64} {M : nf_M} {post : Int64 → nf_M → Prop} (hx : okD x) (h0 : 0 ≤ zv x) (hw : wq x < 2 ^ 52) (k : ∀ n : Nat, ev x n → post (zL n) M) : P_F_nearestEven x M post := by
  have hfin := fin_w hx (by omega)
  have hr := rest_pos hfin h0 (by omega)
  have fx : flo x = (wq x : Int) := by unfold flo; rw [if_neg (by omega)]
  have rx : rsE x = fq x := by unfold rsE; rw [if_neg (by omega)]
  have hU : upc 5 (rsE x) (flo x) = ((O1 : Int) < 2 * rsE x ∨ (2 * rsE x = O1 ∧ ¬ flo x % 2 = 0)) := rfl
  unfold P_F_nearestEven B_F_nearestEven_21
  intro t1 e1
  rw [d2l_w hx (by omega), if_neg (by omega)] at e1
  rw [e1]
  refine ⟨(n64 _).mpr hr.1.notNaN, s_F_isHalfEvenUp (by omega) hr.1.notNaN (fun u => ⟨fun q => absurd q (by decide), fun _ => ?_⟩) (fun u => ⟨fun _ => ?_, fun q => absurd rfl q⟩)⟩
  · rw [el1, zLadd]
    refine k (wq x + 1) (Or.inl ⟨?_, by rw [fx]; rfl⟩)
    rw [hU, rx, fx]
    rw [hr.2] at u
    omega
  · refine k (wq x) (Or.inr ⟨?_, by rw [fx]⟩)
    rw [hU, rx, fx]
    rw [hr.2] at u
    omega
