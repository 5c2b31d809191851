/-! what Java reckons is no NaN where the document has an answer -/
theorem inf_val {x : UInt64} (h : okD x) : isInf x ↔ ∃ s, FP.Core.val64 x = .inf s := by
  have hf := fin_big h
  have hn := okD_val.mp h
  constructor
  · intro hi
    cases hv : FP.Core.val64 x with
    | nan => exact absurd hv hn
    | inf s => exact ⟨s, rfl⟩
    | fin s c q => exact absurd hi (hf.mp ⟨s, c, q, hv⟩)
  · rintro ⟨s, hv⟩
    refine Classical.byContradiction fun q => ?_
    obtain ⟨t, c, r, e⟩ := hf.mpr q
    rw [hv] at e
    exact FP.Core.Datum.noConfusion e
theorem pos_inf {x : UInt64} {s : Bool} (h : FP.Core.val64 x = .inf s) : 0 < zv x ↔ s = false := by
  have e : zv x = FP.Core.signed s (FP.Core.zmag FP.Core.b64 (.inf s)) := by unfold zv FP.Core.zval; rw [h]; rfl
  have ht : 0 < FP.Core.zmag FP.Core.b64 (.inf s) := Nat.mul_pos (Nat.two_pow_pos _) (Nat.two_pow_pos _)
  rw [e]
  unfold FP.Core.signed
  cases s
  · exact ⟨fun _ => rfl, fun _ => by rw [if_neg (by decide)]; omega⟩
  · exact ⟨fun q => by rw [if_pos rfl] at q; omega, fun q => absurd q (by decide)⟩
abbrev okS (X : UInt32) : Prop := FP.Core.fIsNaN X = false
theorem okS_val {X : UInt32} : okS X ↔ FP.Core.val32 X ≠ .nan := by
  unfold okS
  rw [← Bool.not_eq_true, FP.Core.fIsNaN_iff]
theorem f2d_v {X : UInt32} (h : okS X) : FP.Core.val64 (FP.f2d X) = FP.Core.round FP.Core.b64 (FP.Core.val32 X) := by
  rw [FP.f2d_core (a := X) h, FP.Core.val64_f2d]
theorem f2d_inf {X : UInt32} {s : Bool} (h : FP.Core.val32 X = .inf s) : FP.Core.val64 (FP.f2d X) = .inf s := by
  rw [f2d_v (okS_val.mpr (by rw [h]; exact FP.Core.Datum.noConfusion)), h]
  rfl
theorem f2d_fi {X : UInt32} {s : Bool} {c : Nat} {q : Int} (h : FP.Core.val32 X = .fin s c q) : ∃ c' q', FP.Core.val64 (FP.f2d X) = .fin s c' q' ∧ FP.Core.inUnits c' q' FP.Core.b64.qmin = FP.Core.inUnits c q FP.Core.b64.qmin := by
  have hf := FP.Core.val32_fits X
  rw [h] at hf
  have e1 : FP.Core.b64.qmin = -1074 := by decide +kernel
  have e2 : FP.Core.b64.qmax = 971 := by decide +kernel
  have e3 : FP.Core.b32.qmin = -149 := by decide +kernel
  have e4 : FP.Core.b32.qmax = 104 := by decide +kernel
  have e5 : FP.Core.b32.p = 24 := by decide +kernel
  have e6 : FP.Core.b64.p = 53 := by decide +kernel
  obtain ⟨f1, f2, f3, -⟩ := hf
  rw [f2d_v (okS_val.mpr (by rw [h]; exact FP.Core.Datum.noConfusion)), h]
  refine FP.Core.round_exact FP.Core.good_b64 s ?_ (by omega) (by omega)
  rw [e5] at f1
  rw [e6]
  exact Nat.lt_of_lt_of_le f1 (by decide)
theorem okS_D {X : UInt32} (h : okS X) : okD (FP.f2d X) := (n64 _).mp (f2d_n h)
theorem isInf_f {X : UInt32} (h : okS X) : isInf (FP.f2d X) ↔ ∃ s, FP.Core.val32 X = .inf s := by
  rw [inf_val (okS_D h)]
  constructor
  · rintro ⟨s, e⟩
    cases hv : FP.Core.val32 X with
    | nan => exact absurd hv (okS_val.mp h)
    | inf t => exact ⟨t, rfl⟩
    | fin t c q =>
      obtain ⟨c', q', e', -⟩ := f2d_fi hv
      rw [e] at e'
      exact FP.Core.Datum.noConfusion e'
  · rintro ⟨s, e⟩
    exact ⟨s, f2d_inf e⟩
/-- a float's amount, in the units of a double -/
theorem mag_f {X : UInt32} (h : FP.Core.FFin X) : (zv (FP.f2d X)).natAbs = FP.Core.zmag FP.Core.b32 (FP.Core.val32 X) * 2 ^ 925 ∧ FP.Core.sgn (FP.Core.val64 (FP.f2d X)) = FP.Core.sgn (FP.Core.val32 X) := by
  have hf := FP.Core.val32_fits X
  obtain ⟨s, c, q, e⟩ := h
  obtain ⟨c', q', e', eu⟩ := f2d_fi e
  have e1 : FP.Core.b64.qmin = -1074 := by decide +kernel
  have e3 : FP.Core.b32.qmin = -149 := by decide +kernel
  rw [e] at hf
  have f2 := hf.2.1
  have ea := zv_abs (x := FP.f2d X)
  rw [e'] at ea
  have e5 : FP.Core.zmag FP.Core.b64 (.fin s c' q') = FP.Core.inUnits c' q' FP.Core.b64.qmin := rfl
  have e6 : FP.Core.zmag FP.Core.b32 (.fin s c q) = FP.Core.inUnits c q FP.Core.b32.qmin := rfl
  constructor
  · rw [e, e6]
    have e7 : FP.Core.inUnits c q FP.Core.b64.qmin = FP.Core.inUnits c q FP.Core.b32.qmin * 2 ^ 925 := by
      unfold FP.Core.inUnits
      rw [show (q - FP.Core.b64.qmin).toNat = (q - FP.Core.b32.qmin).toNat + 925 by omega, Nat.pow_add, Nat.mul_assoc]
    rw [← e7, ← eu, ← e5]
    omega
  · rw [e', e]
    rfl
theorem zero_f {X : UInt32} (h : okS X) : zv (FP.f2d X) = 0 ↔ FP.Core.FZero X := by
  have hn := okS_val.mp h
  constructor
  · intro hz
    have hi : ¬ isInf (FP.f2d X) := fun q => by
      have := zvbig0
      unfold isInf at q
      omega
    rw [isInf_f h] at hi
    cases hv : FP.Core.val32 X with
    | nan => exact absurd hv hn
    | inf t => exact absurd ⟨t, hv⟩ hi
    | fin t c q =>
      obtain ⟨c', q', e', eu⟩ := f2d_fi hv
      have hz2 := (zero_zv (okS_D h)).mpr hz
      obtain ⟨s0, q0, e0⟩ := hz2
      rw [e'] at e0
      injection e0 with _ hc _
      rw [hc] at eu
      unfold FP.Core.inUnits at eu
      rw [Nat.zero_mul] at eu
      have : c = 0 := by
        rcases Nat.mul_eq_zero.mp eu.symm with q | q
        · exact q
        · exact absurd q (Nat.ne_of_gt (Nat.two_pow_pos _))
      subst this
      exact ⟨t, q, hv⟩
  · rintro ⟨s, q, e⟩
    have h1 := (mag_f ⟨s, 0, q, e⟩).1
    rw [e] at h1
    have : FP.Core.zmag FP.Core.b32 (.fin s 0 q) = 0 := by
      show 0 * _ = 0
      exact Nat.zero_mul _
    rw [this, Nat.zero_mul] at h1
    omega
/-- Java's operations, and which they are -/
def opD (op : Nat) (x y : UInt64) : UInt64 := match op with
  | 0 => FP.dadd x y
  | 1 => FP.dsub x y
  | 2 => FP.dmul x y
  | 3 => FP.ddiv x y
  | 4 => FP.ddiv x y
  | _ => FP.drem x y
def opS (op : Nat) (x y : UInt32) : UInt32 := match op with
  | 0 => FP.fadd x y
  | 1 => FP.fsub x y
  | 2 => FP.fmul x y
  | 3 => FP.fdiv x y
  | 4 => FP.fdiv x y
  | _ => FP.frem x y
theorem nt {b : Bool} {P : Prop} (h : b = true ↔ P) (n : ¬ P) : b = false := by
  cases b
  · rfl
  · exact absurd (h.mp rfl) n
theorem opD_ok {op : Nat} {x y : UInt64} (hx : okD x) (hy : okD y) (h : ¬ odd op x y) : okD (opD op x y) := by
  have nx := okD_val.mp hx
  have ny := okD_val.mp hy
  have ix := inf_val hx
  have iy := inf_val hy
  have zx := zero_zv hx
  have zy := zero_zv hy
  have hq : (¬ (isInf x ∧ isInf y) ∧ ¬ (zv x = 0 ∧ zv y = 0)) → FP.Core.dIsNaN (FP.Core.ddiv x y) = false := by
    intro hh
    refine nt (FP.Core.ddiv_nan_iff x y) ?_
    rintro (q | q | ⟨s, t, q, q'⟩ | ⟨q, q'⟩)
    · exact nx q
    · exact ny q
    · exact hh.1 ⟨ix.mpr ⟨s, q⟩, iy.mpr ⟨t, q'⟩⟩
    · exact hh.2 ⟨zx.mp q, zy.mp q'⟩
  match op with
  | 0 =>
    refine nt (FP.Core.dadd_nan_iff x y) ?_
    rintro (q | q | ⟨s, q, q'⟩)
    · exact nx q
    · exact ny q
    · have a := pos_inf q
      have b := pos_inf q'
      refine h ⟨ix.mpr ⟨_, q⟩, iy.mpr ⟨_, q'⟩, ?_⟩
      rw [a, b]
      cases s <;> decide
  | 1 =>
    refine nt (FP.Core.dsub_nan_iff x y) ?_
    rintro (q | q | ⟨s, q, q'⟩)
    · exact nx q
    · exact ny q
    · have a := pos_inf q
      have b := pos_inf q'
      refine h ⟨ix.mpr ⟨_, q⟩, iy.mpr ⟨_, q'⟩, ?_⟩
      rw [a, b]
  | 2 =>
    refine nt (FP.Core.dmul_nan_iff x y) ?_
    rintro (q | q | ⟨s, q, q'⟩ | ⟨s, q, q'⟩)
    · exact nx q
    · exact ny q
    · exact h (Or.inr ⟨ix.mpr ⟨_, q⟩, zy.mp q'⟩)
    · exact h (Or.inl ⟨zx.mp q, iy.mpr ⟨_, q'⟩⟩)
  | 3 => exact hq ⟨fun q => h (Or.inl q), fun q => h (Or.inr q)⟩
  | 4 => exact hq ⟨fun q => h (Or.inl q), fun q => h (Or.inr q.2)⟩
  | n + 5 =>
    refine nt (FP.Core.drem_nan_iff x y) ?_
    rintro (q | q | q | q)
    · exact nx q
    · exact ny q
    · exact h (Or.inl (ix.mpr q))
    · exact h (Or.inr (zy.mp q))
theorem opS_ok {op : Nat} {x y : UInt32} (hx : okS x) (hy : okS y) (h : ¬ odd op (FP.f2d x) (FP.f2d y)) : okS (opS op x y) := by
  have nx := okS_val.mp hx
  have ny := okS_val.mp hy
  have ix := isInf_f hx
  have iy := isInf_f hy
  have zx := zero_f hx
  have zy := zero_f hy
  have hq : (¬ (isInf (FP.f2d x) ∧ isInf (FP.f2d y)) ∧ ¬ (zv (FP.f2d x) = 0 ∧ zv (FP.f2d y) = 0)) → FP.Core.fIsNaN (FP.Core.fdiv x y) = false := by
    intro hh
    refine nt (FP.Core.fdiv_nan_iff x y) ?_
    rintro (q | q | ⟨s, t, q, q'⟩ | ⟨q, q'⟩)
    · exact nx q
    · exact ny q
    · exact hh.1 ⟨ix.mpr ⟨s, q⟩, iy.mpr ⟨t, q'⟩⟩
    · exact hh.2 ⟨zx.mpr q, zy.mpr q'⟩
  match op with
  | 0 =>
    refine nt (FP.Core.fadd_nan_iff x y) ?_
    rintro (q | q | ⟨s, q, q'⟩)
    · exact nx q
    · exact ny q
    · have a := pos_inf (f2d_inf q)
      have b := pos_inf (f2d_inf q')
      refine h ⟨ix.mpr ⟨_, q⟩, iy.mpr ⟨_, q'⟩, ?_⟩
      rw [a, b]
      cases s <;> decide
  | 1 =>
    refine nt (FP.Core.fsub_nan_iff x y) ?_
    rintro (q | q | ⟨s, q, q'⟩)
    · exact nx q
    · exact ny q
    · have a := pos_inf (f2d_inf q)
      have b := pos_inf (f2d_inf q')
      refine h ⟨ix.mpr ⟨_, q⟩, iy.mpr ⟨_, q'⟩, ?_⟩
      rw [a, b]
  | 2 =>
    refine nt (FP.Core.fmul_nan_iff x y) ?_
    rintro (q | q | ⟨s, q, q'⟩ | ⟨s, q, q'⟩)
    · exact nx q
    · exact ny q
    · exact h (Or.inr ⟨ix.mpr ⟨_, q⟩, zy.mpr q'⟩)
    · exact h (Or.inl ⟨zx.mpr q, iy.mpr ⟨_, q'⟩⟩)
  | 3 => exact hq ⟨fun q => h (Or.inl q), fun q => h (Or.inr q)⟩
  | 4 => exact hq ⟨fun q => h (Or.inl q), fun q => h (Or.inr q.2)⟩
  | n + 5 =>
    refine nt (FP.Core.frem_nan_iff x y) ?_
    rintro (q | q | q | q)
    · exact nx q
    · exact ny q
    · exact h (Or.inl (ix.mpr q))
    · exact h (Or.inr (zy.mpr q))
/-- the rest of floats is the rest of what they are as doubles -/
theorem frem_d {x y : UInt32} (hx : okS x) (hy : okS y) (h : ¬ odd 5 (FP.f2d x) (FP.f2d y)) : FP.f2d (FP.frem x y) = FP.Core.drem (FP.f2d x) (dab (FP.f2d y)) := by
  have nx := okS_val.mp hx
  have ny := okS_val.mp hy
  have hix : ¬ isInf (FP.f2d x) := fun q => h (Or.inl q)
  have hzy : ¬ zv (FP.f2d y) = 0 := fun q => h (Or.inr q)
  have hxf : FP.Core.FFin x := by
    cases hv : FP.Core.val32 x with
    | nan => exact absurd hv nx
    | inf s => exact absurd ((isInf_f hx).mpr ⟨s, hv⟩) hix
    | fin s c q => exact ⟨s, c, q, hv⟩
  have hyz : ¬ FP.Core.FZero y := fun q => hzy ((zero_f hy).mpr q)
  have hr := FP.Core.frem_zval hxf ny hyz
  have hrf : FP.Core.FFin (FP.Core.frem x y) := by
    cases hv : FP.Core.val32 (FP.Core.frem x y) with
    | nan => exact absurd hv hr.1
    | inf s =>
      exfalso
      have h1 := hr.2.2
      have h2 := hxf.zval_lt
      have h3 := Nat.mod_le (FP.Core.zmag FP.Core.b32 (FP.Core.val32 x)) (FP.Core.zmag FP.Core.b32 (FP.Core.val32 y))
      rw [hv] at h1
      have h4 : FP.Core.zmag FP.Core.b32 (.inf s) = FP.Core.b32.tails * 2 ^ (FP.Core.b32.exps - 2) := rfl
      rw [h4] at h1
      omega
    | fin s c q => exact ⟨s, c, q, hv⟩
  have hxd : FP.Core.DFin (FP.f2d x) := (fin_big (okS_D hx)).mpr hix
  have hab := dab_ok (okS_D hy)
  have hd := drem_mag hxd hab.1 (by rw [hab.2]; omega)
  have m1 := mag_f hxf
  have m2 := mag_f hrf
  refine d_ext2 (okS_D (okS_val.mpr hr.1)) hd.1 ?_ ?_
  · show (zv (FP.f2d (FP.Core.frem x y))).natAbs = _
    rw [m2.1, hd.2.2, m1.1, hr.2.2, hab.2]
    show _ = _ % (zv (FP.f2d y)).natAbs
    cases hv : FP.Core.val32 y with
    | nan => exact absurd hv ny
    | inf s =>
      have h2 := hxf.zval_lt
      have h4 : FP.Core.zmag FP.Core.b32 (.inf s) = FP.Core.b32.tails * 2 ^ (FP.Core.b32.exps - 2) := rfl
      rw [h4, Nat.mod_eq_of_lt h2]
      have hi : isInf (FP.f2d y) := (isInf_f hy).mpr ⟨s, hv⟩
      have h5 := m1.1
      unfold isInf at hi hix
      rw [Nat.mod_eq_of_lt (by omega)]
    | fin s c q =>
      have m3 := mag_f ⟨s, c, q, hv⟩
      rw [hv] at m3
      rw [m3.1, Nat.mul_mod_mul_right]
  · show FP.Core.sgn (FP.Core.val64 (FP.f2d (FP.Core.frem x y))) = _
    rw [m2.2, hr.2.1, hd.2.1, m1.2]
theorem drem_ab {x y : UInt64} (hx : okD x) (hy : okD y) (h : ¬ odd 5 x y) : FP.Core.drem x (dab y) = FP.Core.drem x y := by
  have hix : ¬ isInf x := fun q => h (Or.inl q)
  have hzy : ¬ zv y = 0 := fun q => h (Or.inr q)
  have hxd : FP.Core.DFin x := (fin_big hx).mpr hix
  have hab := dab_ok hy
  have h1 := drem_mag hxd hab.1 (by rw [hab.2]; omega)
  have h2 := drem_mag hxd hy hzy
  refine d_ext2 h1.1 h2.1 ?_ (by rw [h1.2.1, h2.2.1])
  rw [h1.2.2, h2.2.2, hab.2]
  rfl
