/-! floating amounts; the infinite ones -/
theorem dc0 : FP.dconst0 = (0 : UInt64) := rfl
theorem ok0 : okD (0 : UInt64) := by decide +kernel
theorem zv0 : zv 0 = 0 := FP.Core.zval64_zero
theorem zv_neg (x : UInt64) : zv (FP.dneg x) = -zv x := by
  unfold zv
  rw [FP.val64_dneg, FP.Core.zval_negate]
theorem dsub0 {x : UInt64} (h : okD x) (hx : x ≠ 0) : FP.Core.dsub (0 : UInt64) x = FP.dneg x := by
  rw [FP.Core.dsub_eq, FP.Core.dadd_comm, ← FP.dneg_core (a := x) h]
  refine FP.Core.dadd_zero ?_ (fun z => hx ?_)
  · rw [← okD_val]
    have := FP.dneg_nan x
    exact this.trans h
  · have h1 : FP.dneg (FP.dneg x) = FP.dneg FP.Core.dzeroNeg := congrArg FP.dneg z
    have h2 : FP.dneg (FP.dneg x) = x := by
      unfold FP.dneg
      rw [UInt64.xor_assoc, UInt64.xor_self, UInt64.xor_zero]
    rw [h2] at h1
    rw [h1]
    decide +kernel
theorem zv_sub0 {x : UInt64} (h : okD x) : zv (FP.Core.dsub (0 : UInt64) x) = -zv x ∧ okD (FP.Core.dsub (0 : UInt64) x) := by
  by_cases hx : x = 0
  · subst hx
    have e : FP.Core.dsub (0 : UInt64) 0 = 0 := by decide +kernel
    rw [e, zv0]
    exact ⟨rfl, ok0⟩
  · rw [dsub0 h hx]
    exact ⟨zv_neg x, (FP.dneg_nan x).trans h⟩
def dab (x : UInt64) : UInt64 := if zv x ≤ 0 then FP.Core.dsub (0 : UInt64) x else x
theorem dab_ok {x : UInt64} (h : okD x) : okD (dab x) ∧ zv (dab x) = ((zv x).natAbs : Int) := by
  unfold dab
  have := zv_sub0 h
  split
  · exact ⟨this.2, by rw [this.1]; omega⟩
  · exact ⟨h, by omega⟩
theorem s_F_amount {x : UInt64} {M : nf_M} {post : UInt64 → nf_M → Prop} (h : okD x) (k : post (dab x) M) : P_F_amount x M post := by
  unfold P_F_amount B_F_amount_13
  rw [dc0, dle_z h ok0, zv0]
  unfold dab at k
  refine ⟨fun z => ?_, fun z => ?_⟩
  · rw [if_pos z] at k
    exact ⟨(n64 _).mpr (zv_sub0 h).2, k⟩
  · rw [if_neg z] at k
    exact k
def big : UInt64 := 9218868437227405311
def isInf (x : UInt64) : Prop := zv big < ((zv x).natAbs : Int)
theorem okbig : okD big ∧ okD (18442240474082181119 : UInt64) := by decide +kernel
theorem zvbig : zv (18442240474082181119 : UInt64) = -zv big := by
  have e : (18442240474082181119 : UInt64) = FP.dneg big := by decide +kernel
  rw [e, zv_neg]
theorem zvbig0 : 0 < zv big := by decide +kernel
theorem s_F_isInfinite {x : UInt64} {M : nf_M} {post : Int32 → nf_M → Prop} (h : okD x) (k1 : isInf x → post 1 M) (k0 : ¬ isInf x → post 0 M) : P_F_isInfinite x M post := by
  unfold P_F_isInfinite B_F_isInfinite_16
  refine s_F_amount h ?_
  have hd := dab_ok h
  have e := dgt_z hd.1 okbig.1
  unfold big at e
  rw [e, hd.2]
  exact ⟨fun z => ⟨rfl, k1 z⟩, fun z => ⟨rfl, k0 z⟩⟩
theorem s_M_isInfinite {x : UInt64} {M : nf_M} {post : Int32 → nf_M → Prop} (h : okD x) (k1 : isInf x → post 1 M) (k0 : ¬ isInf x → post 0 M) : P_M_isInfinite x M post := by
  unfold P_M_isInfinite B_M_isInfinite_16 B_M_isInfinite_21
  have e1 := dgt_z h okbig.1
  have e2 := dlt_z h okbig.2
  have h0 := zvbig0
  rw [zvbig] at e2
  unfold isInf at k1 k0
  unfold big at e1 e2 k1 k0 h0
  rw [e1, e2]
  exact ⟨fun z => ⟨rfl, k1 (by omega)⟩, fun z => ⟨fun z2 => ⟨rfl, k1 (by omega)⟩, fun z2 => ⟨rfl, k0 (by omega)⟩⟩⟩
