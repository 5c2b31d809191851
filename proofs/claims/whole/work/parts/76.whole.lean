/-! the whole part of a floating number, both sides -/
def m15 : UInt64 := 4831355200913801216
def lo15 (x : UInt64) : Prop := ((zv x).natAbs : Int) < zv m15
theorem ok15 : okD m15 ∧ okD (14054727237768577024 : UInt64) := by decide +kernel
theorem zv15 : zv (14054727237768577024 : UInt64) = -zv m15 := by
  have e : (14054727237768577024 : UInt64) = FP.dneg m15 := by decide +kernel
  rw [e, zv_neg]
theorem zv15p : 0 < zv m15 := by decide +kernel
theorem s_F_wholeBelowLimit {x : UInt64} {M : nf_M} {post : Int64 → nf_M → Prop} {ex : Nat → nf_M → Prop} (h : okD x) (k1 : lo15 x → post (FP.d2l x) M) (k0 : ¬ lo15 x → ex 4 M) : P_F_wholeBelowLimit x M post ex := by
  unfold P_F_wholeBelowLimit
  refine s_F_amount h ?_
  have hd := dab_ok h
  have e := dge_z hd.1 ok15.1
  unfold m15 at e
  rw [e, hd.2]
  exact ⟨fun z => k0 (fun q => absurd q (Int.not_lt.mpr z)), fun z => k1 (Int.not_le.mp z)⟩
theorem s_F_wholePartOf {x : UInt64} {M : nf_M} {post : Unit → nf_M → Prop} {ex : Nat → nf_M → Prop} (h : okD x) (k3 : isInf x → ex 3 M) (k4 : ¬ isInf x → ¬ lo15 x → ex 4 M) (k1 : ¬ isInf x → lo15 x → ∀ M', kZ 0 (1, FP.d2l x, 0, 0) M M' → post () M') : P_F_wholePartOf x M post ex := by
  unfold P_F_wholePartOf
  refine s_F_isInfinite h (fun z => ⟨fun q => absurd q (by decide), fun _ => k3 z⟩) (fun z => ⟨fun _ => s_F_wholeBelowLimit h (fun q => s_V_becomeUnits (fun M' hk => k1 z q M' ⟨M, kD.rf M, hk⟩)) (fun q => k4 z q), fun q => absurd rfl q⟩)
theorem s_M_wholePart {x : UInt64} {M : nf_M} {post : Unit → nf_M → Prop} (h : okD x) (k3 : isInf x → post () (ms_I M 19 9 4)) (k4 : ¬ isInf x → ¬ lo15 x → post () (ms_I M 19 9 5)) (k1 : ¬ isInf x → lo15 x → post () (ms_I (ms_L M 19 10 (FP.d2l x)) 19 11 0)) : P_M_wholePart x M post := by
  have e1 := dge_z h ok15.1
  have e2 := dle_z h ok15.2
  have h0 := zv15p
  rw [zv15] at e2
  unfold P_M_wholePart B_M_wholePart_31 B_M_wholePart_50
  unfold lo15 at k4 k1
  unfold m15 at e1 e2 h0 k4 k1
  rw [e1, e2]
  refine s_M_isInfinite h (fun z => ⟨fun q => absurd q (by decide), fun _ M6 e6 => by rw [e6]; exact k3 z⟩) (fun z => ⟨fun _ => ⟨fun q M1 em => by rw [em]; exact k4 z (by omega), fun q => ⟨fun q2 M1 em => by rw [em]; exact k4 z (by omega), fun q2 t3 e3 M4 e4 M5 e5 => by rw [e5, e4, e3]; exact k1 z (by omega)⟩⟩, fun q => absurd rfl q⟩)
