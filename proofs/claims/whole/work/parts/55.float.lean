/-! floating numbers: no NaN, powers of ten, the value of a register as a double -/
abbrev okD (a : UInt64) : Prop := FP.Core.dIsNaN a = false
theorem n64 (a : UInt64) : vf_n64 a ↔ okD a := by
  unfold vf_n64 okD
  rw [← Bool.not_eq_true, FP.Core.isNaN_bits, UInt64.le_iff_toNat_le, UInt64.toNat_and]
  have e1 : (0x7fffffffffffffff : UInt64).toNat = 2 ^ 63 - 1 := by decide
  have e2 : (0x7ff0000000000000 : UInt64).toNat = 9218868437227405312 := by decide
  rw [e1, e2, Nat.and_two_pow_sub_one_eq_mod]
  omega
theorem n32 (a : UInt32) : vf_n32 a ↔ FP.Core.fIsNaN a = false := by
  unfold vf_n32
  rw [← Bool.not_eq_true, FP.Core.isNaN_bits32, UInt32.le_iff_toNat_le, UInt32.toNat_and]
  have e1 : (0x7fffffff : UInt32).toNat = 2 ^ 31 - 1 := by decide
  have e2 : (0x7f800000 : UInt32).toNat = 2139095040 := by decide
  rw [e1, e2, Nat.and_two_pow_sub_one_eq_mod]
  omega
theorem okD_val {a : UInt64} : okD a ↔ FP.Core.val64 a ≠ .nan := by
  unfold okD
  rw [← Bool.not_eq_true, FP.Core.dIsNaN_iff]
theorem d2f_n {a : UInt64} (h : okD a) : vf_n32 (FP.d2f a) := by
  rw [n32]
  have h2 := FP.d2f_nan a
  have h3 : FP.dIsNaN a = false := h
  rw [h3] at h2
  exact h2
theorem f2d_n {a : UInt32} (h : FP.Core.fIsNaN a = false) : vf_n64 (FP.f2d a) := by
  rw [n64]
  have h2 := FP.f2d_nan a
  have h3 : FP.fIsNaN a = false := h
  rw [h3] at h2
  exact h2
def dFin (a : UInt64) : Bool := decide (a.toNat % 2 ^ 63 < 9218868437227405312)
theorem dFin_iff {a : UInt64} : dFin a = true ↔ FP.Core.DFin a := by
  unfold dFin
  rw [decide_eq_true_iff, FP.Core.fin_bits]
/-- ten to the n-th, as it is multiplied up -/
def tn : Nat → UInt64
  | 0 => FP.dconst1
  | n + 1 => FP.dmul (tn n) 4621819117588971520
theorem tn_fin : ∀ n, n < 23 → dFin (tn n) = true ∧ (tn n).toNat % 2 ^ 63 ≠ 0 := by decide +kernel
theorem tn_l2d : ∀ n, n < 19 → FP.l2d (lN (10 ^ n)) = tn n := by decide +kernel
theorem tn_big : ∀ n, n < 4 → FP.dmul (FP.l2d (lN (10 ^ (n + 8)))) 4771362005757984768 = tn (n + 19) := by decide +kernel
theorem DZ_bits (a : UInt64) : FP.Core.DZero a ↔ a.toNat % 2 ^ 63 = 0 := FP.Core.zero_bits2 a
theorem tn_F {n : Nat} (h : n < 23) : FP.Core.DFin (tn n) := dFin_iff.mp (tn_fin n h).1
theorem tn_Z {n : Nat} (h : n < 23) : ¬ FP.Core.DZero (tn n) := fun z => (tn_fin n h).2 ((DZ_bits _).mp z)
theorem okF {a : UInt64} (h : FP.Core.DFin a) : okD a := h.notNaN
theorem s_F_ten {n : Nat} {M : nf_M} {post : UInt64 → nf_M → Prop} (hn : n < 23) (k : post (tn n) M) : P_F_ten (zI n) M post := by
  have key : ∀ r i : Nat, i + r = n → B_F_ten_4 post (r + 1) (zI n) (tn i) (zI i) M := by
    intro r
    have e22 : (22 : Int32) = zI (22 : Nat) := by decide
    have e1 : (1 : Int32) = zI (1 : Nat) := by decide
    induction r with
    | zero =>
      intro i hi
      have : i = n := by omega
      subst this
      unfold B_F_ten_4 B_F_ten_27
      exact ⟨fun h => absurd h (by rw [zlt (by omega) (by omega)]; omega), fun _ => k⟩
    | succ r ih =>
      intro i hi
      unfold B_F_ten_4
      rw [zlt (by omega) (by omega), e22, zlt (by omega) (by omega)]
      refine ⟨fun _ => ⟨fun _ => ⟨(n64 _).mpr (okF (tn_F (n := i + 1) (by omega))), fun t2 e2 => ?_⟩, fun h => absurd (by omega) h⟩, fun h => absurd (by omega) h⟩
      rw [e1, zI_add, show (i : Int) + (1 : Nat) = ((i + 1 : Nat) : Int) by omega, e2]
      exact ih (i + 1) (by omega)
  exact ⟨n + 1, key n 0 (by omega)⟩
theorem s_M_power {n : Nat} {M : nf_M} {post : Int64 → nf_M → Prop} (hn : n < 19) (k : post (lN (10 ^ n)) M) : P_M_power (zI n) M post := by
  have key : ∀ r i : Nat, i + r = n → B_M_power_4 post (r + 1) (zI n) (lN (10 ^ i)) (zI i) M := by
    intro r
    have e18 : (18 : Int32) = zI (18 : Nat) := by decide
    have e1 : (1 : Int32) = zI (1 : Nat) := by decide
    induction r with
    | zero =>
      intro i hi
      have : i = n := by omega
      subst this
      unfold B_M_power_4 B_M_power_27
      exact ⟨fun h => absurd h (by rw [zlt (by omega) (by omega)]; omega), fun _ => k⟩
    | succ r ih =>
      intro i hi
      unfold B_M_power_4
      rw [zlt (by omega) (by omega), e18, zlt (by omega) (by omega)]
      refine ⟨fun _ => ⟨fun _ t2 e2 => ?_, fun h => absurd (by omega) h⟩, fun h => absurd (by omega) h⟩
      rw [e1, zI_add, show (i : Int) + (1 : Nat) = ((i + 1 : Nat) : Int) by omega, e2]
      have e3 : lN (10 ^ i) * (10 : Int64) = lN (10 ^ (i + 1)) := by
        rw [show (10 : Int64) = zL (10 : Nat) by decide, lN_z, lN_z, zL_mul, Nat.pow_succ]
        rfl
      rw [e3]
      exact ih (i + 1) (by omega)
  exact ⟨n + 1, key n 0 (by omega)⟩
theorem s_M_ten {n : Nat} {M : nf_M} {post : UInt64 → nf_M → Prop} (hn : n < 23) (k : post (tn n) M) : P_M_ten (zI n) M post := by
  have e19 : (19 : Int32) = zI (19 : Nat) := by decide
  unfold P_M_ten B_M_ten_26
  rw [e19, zlt (by omega) (by omega)]
  refine ⟨fun h => s_M_power h ?_, fun h => ?_⟩
  · rw [tn_l2d n h]; exact k
  · have e11 : zI n - (11 : Int32) = zI (n - 11 : Nat) := by
      rw [show (11 : Int32) = zI (11 : Nat) by decide, zI_sub]
      congr 1
      omega
    rw [e11]
    refine s_M_power (by omega) ?_
    obtain ⟨m, rfl⟩ : ∃ m, n = m + 19 := ⟨n - 19, by omega⟩
    rw [show m + 19 - 11 = m + 8 by omega, tn_big m (by omega)]
    exact ⟨(n64 _).mpr (okF (tn_F (by omega))), k⟩
theorem z_neg (n : Nat) : -(zI n) = zI (-(n : Int)) := zI_neg _
/-- x times ten to the k-th -/
def tms (x : UInt64) (k : Int) : UInt64 := if k < 0 then FP.ddiv x (tn (-k).toNat) else FP.dmul x (tn k.toNat)
theorem tms_ok {x : UInt64} {k : Int} (hx : okD x) (h1 : -23 < k) (h2 : k < 23) : okD (tms x k) := by
  unfold tms
  split
  · exact FP.Core.ddiv_out hx (tn_F (by omega)) (tn_Z (by omega))
  · exact FP.Core.dmul_out' hx (tn_F (by omega)) (tn_Z (by omega))
theorem s_F_timesTen {x : UInt64} {k : Int} {M : nf_M} {post : UInt64 → nf_M → Prop} (hx : okD x) (h1 : -23 < k) (h2 : k < 23) (h : post (tms x k) M) : P_F_timesTen x (zI k) M post := by
  have e0 : (0 : Int32).toInt = 0 := by decide
  have hok := tms_ok hx h1 h2
  unfold P_F_timesTen B_F_timesTen_20
  rw [i32_lt, zI_ti (by omega) (by omega), e0]
  refine ⟨fun hk => ?_, fun hk => ?_⟩
  · rw [zI_neg, show -k = ((-k).toNat : Int) by omega]
    refine s_F_ten (by omega) ?_
    unfold tms at h hok
    rw [if_pos hk] at h hok
    exact ⟨(n64 _).mpr hok, h⟩
  · rw [show k = (k.toNat : Int) by omega]
    refine s_F_ten (by omega) ?_
    unfold tms at h hok
    rw [if_neg hk] at h hok
    exact ⟨(n64 _).mpr hok, h⟩
