/-! rows, type and wipe, exact and output -/
def up (tx : Nat → Nat) (n c : Nat) : Nat → Nat := fun i => if i = n then c else tx i
/-- all but the row b is kept -/
def kR (b : Bool) (M M' : nf_M) : Prop := M'.1 = M.1 ∧ M'.2.1 = M.2.1 ∧ M'.2.2.1 = M.2.2.1 ∧ mg_T M' = mg_T M ∧ mg_U M' = mg_U M ∧ mg_S M' = mg_S M ∧ mg_R M' = mg_R M ∧ mg_N M' (!b) = mg_N M (!b) ∧ mg_C M' (!b) = mg_C M (!b)
theorem kR.rf (b : Bool) (M : nf_M) : kR b M M := ⟨rfl, rfl, rfl, rfl, rfl, rfl, rfl, rfl, rfl⟩
theorem kR.tr {b : Bool} {A B C : nf_M} (h1 : kR b A B) (h2 : kR b B C) : kR b A C := by
  obtain ⟨a1, a2, a3, a4, a5, a6, a7, a8, a9⟩ := h1
  obtain ⟨b1, b2, b3, b4, b5, b6, b7, b8, b9⟩ := h2
  exact ⟨b1.trans a1, b2.trans a2, b3.trans a3, b4.trans a4, b5.trans a5, b6.trans a6, b7.trans a7, b8.trans a8, b9.trans a9⟩
theorem kR.kF {b : Bool} {M M' : nf_M} (h : kR b M M') : kF M M' := fun o _ _ => ⟨by unfold mg_I; rw [h.1], by unfold mg_L; rw [h.2.1], by unfold mg_D; rw [h.2.2.1]⟩
theorem kR.rg {b : Bool} {M M' : nf_M} (h : kR b M M') (v : Fin 9) : rgF M' v = rgF M v := by
  unfold rgF
  rw [h.2.2.2.1, h.2.2.2.2.1, h.2.2.2.2.2.1, h.2.2.2.2.2.2.1]
theorem kR.row {b : Bool} {M M' : nf_M} (h : kR b M M') {n : Nat} {tx : Nat → Nat} (hr : rowF M (!b) n tx) : rowF M' (!b) n tx := by
  unfold rowF at *
  rw [h.2.2.2.2.2.2.2.1, h.2.2.2.2.2.2.2.2]
  exact hr
theorem iv_text {M M' : nf_M} {n m n' : Nat} {tx ou tx' : Nat → Nat} {rg : Nat → nf_V} (h : iv_1 M n tx m ou rg) (k : kR false M M') (h1 : okT n' tx') (h2 : rowF M' false n' tx') (h3 : txM M' n' tx') : iv_1 M' n' tx' m ou rg :=
  ⟨h1, h2, h3, h.2.2.2.1, k.row (b := false) h.2.2.2.2.1, kF_ou k.kF h.2.2.2.2.2.1, fun r hr => ⟨(h.2.2.2.2.2.2 r hr).1, (kF_rg k.kF r).trans (h.2.2.2.2.2.2 r hr).2.1, (k.rg _).trans (h.2.2.2.2.2.2 r hr).2.2⟩⟩
theorem cap_le (b : Bool) : nf_cap b ≤ 128 := by cases b <;> decide
theorem z_of {n : Nat} (h : n < 2147483648) : (zI n).toInt = n := zI_ti (by omega) (by omega)
theorem z_cl {n : Nat} (h : n < 2147483648) : (zI n).toNatClampNeg = n := by rw [← nI_z]; exact nI_clamp (by omega)
theorem z_in {k n : Nat} (h : k < n) (hn : n < 2147483648) : vp_in (zI k) n := vp_in_iff.mpr (by rw [z_of (by omega)]; omega)
theorem z_ch {c : Nat} (h : c < 65536) : vp_nar .char (zI c) = zI c := by
  rw [← nI_z, vp_nar_char]
  apply Int32.toBitVec_inj.mp
  show (((nI c).toUInt32.toUInt16).toUInt32).toBitVec = BitVec.ofNat 32 c
  apply BitVec.eq_of_toNat_eq
  show ((nI c).toUInt32.toUInt16).toUInt32.toNat = _
  rw [UInt16.toNat_toUInt32, UInt32.toNat_toUInt16, BitVec.toNat_ofNat]
  have e : (nI c).toUInt32.toNat = c % 2 ^ 32 := rfl
  rw [e]
  omega
theorem s_R_add {b : Bool} {n c : Nat} {tx : Nat → Nat} {M : nf_M} {post : Unit → nf_M → Prop} (h : rowF M b n tx) (hn : n < nf_cap b) (hc : c < 65536) (k : ∀ M' : nf_M, kR b M M' → rowF M' b (n + 1) (up tx n c) → post () M') : P_R_add b (zI c) M post := by
  have hcap := cap_le b
  have e0 : (0 : Int32).toInt = 0 := by decide
  have e1 : (1 : Int32) = zI 1 := by decide
  unfold P_R_add B_R_add_39
  rw [h.1]
  refine ⟨fun h1 => ?_, fun _ => ⟨fun _ => ⟨z_in hn (by omega), ?_⟩, fun h1 => ?_⟩⟩
  · rw [i32_lt, z_of (by omega), e0] at h1
    omega
  · intro M2 e2 t3 e3 M4 e4
    rw [z_cl (by omega), z_ch hc] at e2
    have e5 : mg_N M2 b = zI n := by rw [e2]; exact h.1
    rw [e5, e1, zI_add] at e3
    subst e2 e3 e4
    refine k _ ⟨rfl, rfl, rfl, rfl, rfl, rfl, rfl, ?_, ?_⟩ ⟨?_, fun i hi => ?_⟩
    · cases b <;> rfl
    · cases b <;> rfl
    · cases b <;> rfl
    · have e6 : mg_C (ms_N (ms_C M b n (zI c)) b (zI ((n : Int) + 1))) b i = if i = n then zI c else mg_C M b i := by cases b <;> rfl
      rw [e6]
      unfold up
      by_cases hin : i = n
      · rw [if_pos hin, if_pos hin]
      · rw [if_neg hin, if_neg hin]
        exact h.2 i (by omega)
  · exact absurd (show zI n < nI (nf_cap b) by rw [i32_lt, nI_z, z_of (by omega), z_of (by omega)]; omega) h1
theorem s_R_at {b : Bool} {n : Nat} {tx : Nat → Nat} {M : nf_M} {x : Int32} {post : Int32 → nf_M → Prop} (h : rowF M b n tx) (hn : n ≤ nf_cap b) (hc : ∀ i, i < n → tx i < 65536) (k1 : ∀ i : Nat, i < n → x = zI i → post (zI (tx i)) M) (k0 : ¬ (0 ≤ x.toInt ∧ x.toInt < n) → post 0 M) : P_R_at b x M post := by
  have hcap := cap_le b
  have e0 : (0 : Int32).toInt = 0 := by decide
  unfold P_R_at B_R_at_30 B_R_at_31
  rw [h.1]
  simp only [i32_lt, e0, nI_z]
  rw [z_of (by omega), z_of (by omega)]
  refine ⟨fun h1 => ⟨rfl, k0 (by omega)⟩, fun h1 => ⟨fun h2 => ⟨fun h3 => ?_, fun h3 => by omega⟩, fun h2 => ⟨rfl, k0 (by omega)⟩⟩⟩
  have ex : x = zI (x.toInt.toNat : Nat) := by rw [Int.toNat_of_nonneg (by omega), zI_to]
  have hi : x.toInt.toNat < n := by omega
  refine ⟨vp_in_iff.mpr (by omega), ?_⟩
  have ec : x.toNatClampNeg = x.toInt.toNat := rfl
  rw [ec, h.2 _ hi]
  have hcc := hc _ hi
  refine ⟨?_, k1 _ hi ex⟩
  have := z_ch hcc
  rw [vp_nar] at this
  have e2 : narrow .char (.int (zI (tx x.toInt.toNat))) = .int (vp_nar .char (zI (tx x.toInt.toNat))) := rfl
  rw [e2, z_ch hcc]
theorem nf_arm1 (M : nf_M) (h : iv_I M) : P_arm1 M iv_I := by
  obtain ⟨n, tx, m, ou, rg, hI⟩ := h
  unfold P_arm1 P_F_wipe P_R_clear P_M_wipe
  intro M1 e1 M2 e2 M3 e3
  subst e1 e2 e3
  refine ⟨0, tx, m, ou, rg, ⟨by omega, fun i hi => absurd hi (Nat.not_lt_zero _)⟩, ⟨rfl, fun i hi => absurd hi (Nat.not_lt_zero _)⟩, ⟨rfl, fun i hi => absurd hi (Nat.not_lt_zero _)⟩, hI.2.2.2.1, hI.2.2.2.2.1, hI.2.2.2.2.2.1, hI.2.2.2.2.2.2⟩
theorem nf_arm14 (x1 : Int32) (M : nf_M) (h : iv_I M) : P_arm14 x1 M iv_I := by
  obtain ⟨n, tx, m, ou, rg, hI⟩ := h
  have e0 : (0 : Int32).toInt = 0 := by decide
  obtain ⟨-, -, -, ⟨hm, hch⟩, hr, ho, -⟩ := id hI
  have hfin : ∀ v : Int32, iv_I (ms_I M 19 0 v) := fun v => ⟨n, tx, m, ou, rg, iv_scr hI v⟩
  unfold P_arm14 P_F_output B_F_output_39 B_F_output_40
  rw [hr.1]
  have hM : ∀ (v : Int32), (x1 = -1 → v = zI m) → (¬ x1 = -1 → ¬ (0 ≤ x1.toInt ∧ x1.toInt < m) → v = -1) → (∀ i : Nat, i < m → x1 = zI i → v = zI (ou i)) → P_M_output x1 M (fun r3 M4 => (v = r3 → iv_I M4) ∧ (¬ v = r3 → False)) := by
    intro v h1 h2 h3
    unfold P_M_output B_M_output_29 B_M_output_39
    intro M1 e1
    have e3 : mg_I M1 19 3 = zI m := by rw [e1]; exact ho.1
    have e4 : mg_I M1 21 = mg_I M 21 := by rw [e1]; rfl
    rw [e3, e4]
    have hf : iv_I M1 := by rw [e1]; exact hfin 0
    simp only [i32_lt, e0]
    rw [z_of (by omega)]
    refine ⟨fun q => ⟨fun _ => hf, fun z => z (h1 q)⟩, fun q => ⟨fun z1 => ⟨fun _ => hf, fun z => z (h2 q (by omega))⟩, fun z1 => ⟨fun z2 => ⟨vp_in_iff.mpr (by omega), fun _ => hf, fun z => z ?_⟩, fun z2 => ⟨fun _ => hf, fun z => z (h2 q (by omega))⟩⟩⟩⟩
    have ex : x1 = zI (x1.toInt.toNat : Nat) := by rw [Int.toNat_of_nonneg (by omega), zI_to]
    have hi : x1.toInt.toNat < m := by omega
    have ec : x1.toNatClampNeg = x1.toInt.toNat := rfl
    rw [h3 _ hi ex, ec, ho.2 _ hi]
  have en : (-1 : Int32).toInt = -1 := by decide
  refine ⟨fun q => hM _ (fun _ => rfl) (fun z => absurd q z) (fun i hi z => ?_), fun q => ⟨fun q2 => hM _ (fun z => absurd z q) (fun _ _ => rfl) (fun i hi z => ?_), fun q2 => ⟨fun q3 => ?_, fun q3 => hM _ (fun z => absurd z q) (fun _ _ => rfl) (fun i hi z => ?_)⟩⟩⟩
  · rw [q] at z
    have := congrArg Int32.toInt z
    rw [en, z_of (by omega)] at this
    omega
  · rw [i32_lt, e0, z, z_of (by omega)] at q2
    omega
  · refine s_R_at hr hm (fun i hi => by have := hch i hi; omega) (fun i hi ex => hM _ (fun z => absurd z q) (fun _ z => ?_) (fun j hj ej => ?_)) (fun z => ?_)
    · rw [ex, z_of (by omega)] at z
      omega
    · rw [ex] at ej
      have := congrArg Int32.toInt ej
      rw [z_of (by omega), z_of (by omega)] at this
      rw [show i = j by omega]
    · rw [i32_lt, e0] at q2
      rw [i32_lt, z_of (by omega)] at q3
      omega
  · rw [i32_lt, z, z_of (by omega), z_of (by omega)] at q3
    omega
