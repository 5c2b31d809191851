/-! exact, type -/
theorem i32_pos {x : Int32} (h : 0 ≤ x.toInt) : x = zI (x.toInt.toNat : Nat) := by rw [Int.toNat_of_nonneg h, zI_to]
theorem s_V_holdsUnits {v : Fin 9} {M : nf_M} {post : Int32 → nf_M → Prop} (h1 : 0 ≤ (mg_T M v).toInt ∧ (mg_T M v).toInt < 8 → post 1 M) (h0 : ¬ (0 ≤ (mg_T M v).toInt ∧ (mg_T M v).toInt < 8) → post 0 M) : P_V_holdsUnits v M post := by
  have e0 : (0 : Int32).toInt = 0 := by decide
  have e8 : (8 : Int32).toInt = 8 := by decide
  unfold P_V_holdsUnits B_V_holdsUnits_20 B_V_holdsUnits_21
  simp only [i32_lt, e0, e8]
  exact ⟨fun h => ⟨rfl, h0 (by omega)⟩, fun h => ⟨fun h2 => ⟨rfl, h1 (by omega)⟩, fun h2 => ⟨rfl, h0 (by omega)⟩⟩⟩
/-- the parts of a register's content -/
theorem okV_T {c : nf_V} (h : okV c) : (c.1.toInt = -1 ∧ c = (-1, 0, 0, 0)) ∨ (0 ≤ c.1.toInt ∧ c.1.toInt < 8 ∧ ∃ (u : Int) (s : Nat), okE c.1.toInt.toNat u s ∧ c = (zI c.1.toInt.toNat, zL u, zI s, 0)) ∨ (8 ≤ c.1.toInt ∧ c.1.toInt ≤ 9 ∧ c.2.1 = 0 ∧ c.2.2.1 = 0 ∧ vf_n64 c.2.2.2 ∧ (c.1.toInt = 8 → isF c.2.2.2)) := by
  rcases h with h | ⟨t, u, s, hE, h⟩ | ⟨x, hx, h | ⟨h, hF⟩⟩
  · exact Or.inl ⟨by rw [h]; decide, h⟩
  · have e : c.1.toInt = t := by rw [h]; exact z_of (by have := hE.1; omega)
    refine Or.inr (Or.inl ⟨by omega, by have := hE.1; omega, u, s, ?_, ?_⟩)
    · rw [e]; exact hE
    · rw [e]; exact h
  · refine Or.inr (Or.inr ?_)
    rw [h]
    exact ⟨(by decide : (8 : Int) ≤ (9 : Int32).toInt), (by decide : (9 : Int32).toInt ≤ 9), rfl, rfl, hx, fun z => absurd z (by decide : ¬ (9 : Int32).toInt = 8)⟩
  · refine Or.inr (Or.inr ?_)
    rw [h]
    exact ⟨(by decide : (8 : Int) ≤ (8 : Int32).toInt), (by decide : (8 : Int32).toInt ≤ 9), rfl, rfl, hx, fun _ => hF⟩
theorem nf_arm10 (x1 x2 : Int32) (M : nf_M) (h : iv_I M) : P_arm10 x1 x2 M iv_I := by
  obtain ⟨n, tx, m, ou, rg, hI⟩ := h
  have e0 : (0 : Int32).toInt = 0 := by decide
  have e1 : (1 : Int32).toInt = 1 := by decide
  have hfin : ∀ v : Int32, iv_I (ms_I M 19 0 v) := fun v => ⟨n, tx, m, ou, rg, iv_scr hI v⟩
  have hM : ∀ (v : Int64), (¬ (0 ≤ x1.toInt ∧ x1.toInt < 8) → v = 0) → (x2.toInt < 0 ∨ 1 < x2.toInt → v = 0) → (∀ r : Nat, r < 8 → x1 = zI (r : Int) → x2.toInt = 0 → v = (rg r).2.1) → (∀ r : Nat, r < 8 → x1 = zI (r : Int) → x2.toInt = 1 → v = (rg r).2.2.1.toInt64) → P_M_exact x1 x2 M (fun r3 M4 => (v = r3 → iv_I M4) ∧ (¬ v = r3 → False)) := by
    intro v h1 h2 h3 h4
    unfold P_M_exact B_M_exact_21 B_M_exact_45
    intro M1 em
    have hf : iv_I M1 := by rw [em]; exact hfin 0
    refine s_M_isRegister (fun hr => ?_) (fun hr => ?_)
    · refine ⟨fun z => absurd z (by decide), fun _ => ?_⟩
      obtain ⟨r, hr8, hx, eg, ec⟩ := rg_n hr
      have hv := (hI.2.2.2.2.2.2 r hr8).2.1
      have hu : mg_L M1 23 r = (rg r).2.1 := by rw [em]; exact congrArg (fun c : nf_V => c.2.1) hv
      have hs : mg_I M1 24 r = (rg r).2.2.1 := by rw [em]; exact congrArg (fun c : nf_V => c.2.2.1) hv
      rw [ec, hu, hs]
      simp only [i32_lt, e0, e1]
      refine ⟨fun z => ⟨fun _ => hf, fun q => q (h2 (Or.inl z))⟩, fun z => ⟨fun z2 => ⟨fun _ => hf, fun q => q (h2 (Or.inr z2))⟩, fun z2 => ⟨fun z3 => ⟨vp_in_iff.mpr hr, fun _ => hf, fun q => q (h3 r hr8 hx (by rw [z3]; exact e0))⟩, fun z3 => ⟨vp_in_iff.mpr hr, fun _ => hf, fun q => q (h4 r hr8 hx ?_)⟩⟩⟩⟩
      have : x2.toInt ≠ 0 := fun q => z3 (Int32.toInt_inj.mp (q.trans e0.symm))
      omega
    · exact ⟨fun _ => ⟨fun _ => hf, fun q => q (h1 hr)⟩, fun z => absurd rfl z⟩
  unfold P_arm10 P_F_exact B_F_exact_20 B_F_exact_57
  refine s_F_isRegister (fun hr => ?_) (fun hr => ?_)
  · refine ⟨fun z => absurd z (by decide), fun _ => ⟨vp_in_iff.mpr hr, ?_⟩⟩
    obtain ⟨r, hr8, hx, eg, ec⟩ := rg_n hr
    obtain ⟨hok, -, hv⟩ := hI.2.2.2.2.2.2 r hr8
    have ht : mg_T M (rgn r) = (rg r).1 := congrArg (fun c : nf_V => c.1) hv
    have hu : mg_U M (rgn r) = (rg r).2.1 := congrArg (fun c : nf_V => c.2.1) hv
    have hs : mg_S M (rgn r) = (rg r).2.2.1 := congrArg (fun c : nf_V => c.2.2.1) hv
    have hinj : ∀ r' : Nat, r' < 8 → x1 = zI (r' : Int) → r' = r := fun r' hr' e => by
      have h9 := congrArg Int32.toInt (hx.symm.trans e)
      rw [z_of (by omega), z_of (by omega)] at h9
      omega
    rw [eg]
    refine s_V_holdsUnits (fun hh => ?_) (fun hh => ?_)
    · refine ⟨fun z => absurd z (by decide), fun _ => ⟨fun z => ⟨vp_in_iff.mpr hr, ?_⟩, fun z => ⟨fun z2 => ⟨vp_in_iff.mpr hr, ?_⟩, fun z2 => ?_⟩⟩⟩
      · refine hM _ (fun q => absurd hr q) (fun q => ?_) (fun r' h8 e _ => ?_) (fun r' h8 e q => ?_)
        · rw [z, e0] at q; omega
        · rw [hinj r' h8 e]; exact hu
        · rw [z, e0] at q; omega
      · refine hM _ (fun q => absurd hr q) (fun q => ?_) (fun r' h8 e q => ?_) (fun r' h8 e q => ?_)
        · rw [z2, e1] at q; omega
        · rw [z2, e1] at q; omega
        · rw [hinj r' h8 e, hs]
      · refine hM _ (fun q => absurd hr q) (fun q => rfl) (fun r' h8 e q => ?_) (fun r' h8 e q => ?_)
        · exact absurd (Int32.toInt_inj.mp (q.trans e0.symm)) z
        · exact absurd (Int32.toInt_inj.mp (q.trans e1.symm)) z2
    · refine ⟨fun _ => ?_, fun z => absurd rfl z⟩
      have hz : (rg r).2.1 = 0 ∧ (rg r).2.2.1 = 0 := by
        rw [ht] at hh
        rcases okV_T hok with h | h | h
        · rw [h.2]; exact ⟨rfl, rfl⟩
        · exact absurd ⟨h.1, h.2.1⟩ hh
        · exact ⟨h.2.2.1, h.2.2.2.1⟩
      refine hM _ (fun q => absurd hr q) (fun q => rfl) (fun r' h8 e q => ?_) (fun r' h8 e q => ?_)
      · rw [hinj r' h8 e, hz.1]
      · rw [hinj r' h8 e, hz.2]; decide
  · refine ⟨fun _ => ?_, fun z => absurd rfl z⟩
    refine hM _ (fun _ => rfl) (fun _ => rfl) (fun r h8 e _ => ?_) (fun r h8 e _ => ?_)
    · exact absurd (by rw [e, z_of (by omega)]; omega) hr
    · exact absurd (by rw [e, z_of (by omega)]; omega) hr
/-- the byte of a long that counts 256^k -/
def by8 (x : Int64) (k : Nat) : Nat := x.toBitVec.toNat / 2 ^ (8 * k) % 256
theorem lo8 (y : Int64) : y.toInt32 &&& 255 = zI (y.toBitVec.toNat % 256 : Nat) := by
  rw [← nI_z]
  apply Int32.toBitVec_inj.mp
  apply BitVec.eq_of_toNat_eq
  show (y.toInt32.toBitVec &&& 255#32).toNat = (BitVec.ofNat 32 (y.toBitVec.toNat % 256)).toNat
  rw [BitVec.toNat_and, show (255#32).toNat = 2 ^ 8 - 1 from by decide, Nat.and_two_pow_sub_one_eq_mod, BitVec.toNat_ofNat, Int64.toBitVec_toInt32, BitVec.signExtend_eq_setWidth_of_le _ (by decide), BitVec.toNat_setWidth]
  omega
theorem by8_u (x : Int64) {k : Nat} (hk : k < 8) : ((x.toUInt64 >>> ((zI (8 * k : Nat)).toInt64.toUInt64 &&& Int64.toUInt64 63)).toInt64).toInt32 &&& 255 = zI (by8 x k) := by
  rw [lo8]
  have h : ((zI (8 * k : Nat)).toInt64.toUInt64 &&& Int64.toUInt64 63).toNat % 64 = 8 * k := by
    rcases (show k = 0 ∨ k = 1 ∨ k = 2 ∨ k = 3 ∨ k = 4 ∨ k = 5 ∨ k = 6 ∨ k = 7 by omega) with rfl | rfl | rfl | rfl | rfl | rfl | rfl | rfl <;> decide
  have e : (x.toUInt64 >>> ((zI (8 * k : Nat)).toInt64.toUInt64 &&& Int64.toUInt64 63)).toInt64.toBitVec.toNat = x.toBitVec.toNat / 2 ^ (8 * k) := by
    show (x.toUInt64 >>> ((zI (8 * k : Nat)).toInt64.toUInt64 &&& Int64.toUInt64 63)).toNat = _
    rw [UInt64.toNat_shiftRight, h, Nat.shiftRight_eq_div_pow]
    rfl
  rw [e]
  rfl
theorem by8_s (x : Int64) {k : Nat} (hk : k < 8) : (x >>> (((8 : Int32) * zI k).toInt64 &&& 63)).toInt32 &&& 255 = zI (by8 x k) := by
  rw [lo8]
  have h : ((((8 : Int32) * zI k).toInt64 &&& 63).toBitVec.smod 64).toNat = 8 * k := by
    rcases (show k = 0 ∨ k = 1 ∨ k = 2 ∨ k = 3 ∨ k = 4 ∨ k = 5 ∨ k = 6 ∨ k = 7 by omega) with rfl | rfl | rfl | rfl | rfl | rfl | rfl | rfl <;> decide
  have e : (x >>> (((8 : Int32) * zI k).toInt64 &&& 63)).toInt = x.toInt >>> (8 * k) := by
    rw [← h]
    exact BitVec.toInt_sshiftRight ..
  have q : ∀ y : Int64, ((y.toBitVec.toNat : Int) = y.toInt ∨ (y.toBitVec.toNat : Int) = y.toInt + 18446744073709551616) ∧ y.toBitVec.toNat < 18446744073709551616 := fun y => by
    have h1 : y.toInt = if 2 * y.toBitVec.toNat < 18446744073709551616 then (y.toBitVec.toNat : Int) else (y.toBitVec.toNat : Int) - 18446744073709551616 := BitVec.toInt_eq_toNat_cond _
    have h2 : y.toBitVec.toNat < 2 ^ 64 := y.toBitVec.isLt
    refine ⟨?_, by omega⟩
    split at h1 <;> omega
  have q1 := q x
  have q2 := q (x >>> (((8 : Int32) * zI k).toInt64 &&& 63))
  rw [e, Int.shiftRight_eq_div_pow] at q2
  unfold by8
  generalize (x >>> (((8 : Int32) * zI k).toInt64 &&& 63)).toBitVec.toNat = a at q2 ⊢
  generalize x.toBitVec.toNat = b at q1 ⊢
  congr 2
  rcases (show k = 0 ∨ k = 1 ∨ k = 2 ∨ k = 3 ∨ k = 4 ∨ k = 5 ∨ k = 6 ∨ k = 7 by omega) with rfl | rfl | rfl | rfl | rfl | rfl | rfl | rfl <;> simp at q2 ⊢ <;> omega
