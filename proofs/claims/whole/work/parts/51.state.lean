/-! the two halves of the state, and what ties them -/
abbrev nf_V : Type := Int32 × Int64 × Int32 × UInt64
def rgF (M : nf_M) (v : Fin 9) : nf_V := (mg_T M v, mg_U M v, mg_S M v, mg_R M v)
def rgM (M : nf_M) (r : Nat) : nf_V := (mg_I M 22 r, mg_L M 23 r, mg_I M 24 r, mg_D M 25 r)
def rgn (r : Nat) : Fin 9 := ⟨1 + r % 8, by omega⟩
def isF (x : UInt64) : Prop := ∃ y : UInt32, vf_n32 y ∧ x = FP.f2d y
/-- what a register may hold -/
def okE (t : Nat) (u : Int) (s : Nat) : Prop := t < 8 ∧ -1000000000000000 < u ∧ u < 1000000000000000 ∧ s ≤ 6 ∧ (s = 0 ∨ u % 10 ≠ 0) ∧ (0 < t → s = 0)
def okV (c : nf_V) : Prop := c = (-1, 0, 0, 0) ∨ (∃ (t : Nat) (u : Int) (s : Nat), okE t u s ∧ c = (zI t, zL u, zI s, 0)) ∨ ∃ x : UInt64, vf_n64 x ∧ (c = (9, 0, 0, x) ∨ (c = (8, 0, 0, x) ∧ isF x))
def okT (n : Nat) (tx : Nat → Nat) : Prop := n ≤ 40 ∧ ∀ i, i < n → 32 ≤ tx i ∧ tx i ≤ 126
def rowF (M : nf_M) (b : Bool) (n : Nat) (tx : Nat → Nat) : Prop := mg_N M b = zI n ∧ ∀ i, i < n → mg_C M b i = zI (tx i)
def txM (M : nf_M) (n : Nat) (tx : Nat → Nat) : Prop := mg_I M 19 1 = zI n ∧ ∀ i, i < n → mg_I M 20 i = zI (tx i)
def ouM (M : nf_M) (n : Nat) (tx : Nat → Nat) : Prop := mg_I M 19 3 = zI n ∧ ∀ i, i < n → mg_I M 21 i = zI (tx i)
def iv_1 (M : nf_M) (n : Nat) (tx : Nat → Nat) (m : Nat) (ou : Nat → Nat) (rg : Nat → nf_V) : Prop :=
  okT n tx ∧ rowF M false n tx ∧ txM M n tx ∧ (m ≤ 128 ∧ ∀ i, i < m → ou i ≤ 126) ∧ rowF M true m ou ∧ ouM M m ou ∧ ∀ r, r < 8 → okV (rg r) ∧ rgM M r = rg r ∧ rgF M (rgn r) = rg r
def iv_I (M : nf_M) : Prop := ∃ (n : Nat) (tx : Nat → Nat) (m : Nat) (ou : Nat → Nat) (rg : Nat → nf_V), iv_1 M n tx m ou rg
/-- a method of the system leaves the reference alone; a method of the reference the system -/
def kF (M M' : nf_M) : Prop := ∀ o, (o = 7 ∨ 19 ≤ o) → o < 27 → mg_I M' o = mg_I M o ∧ mg_L M' o = mg_L M o ∧ mg_D M' o = mg_D M o
def kM (M M' : nf_M) : Prop := M'.2.2.2 = M.2.2.2 ∧ mg_L M' 27 = mg_L M 27 ∧ mg_D M' 28 = mg_D M 28
theorem kF.rf (M : nf_M) : kF M M := fun _ _ _ => ⟨rfl, rfl, rfl⟩
theorem kM.rf (M : nf_M) : kM M M := ⟨rfl, rfl, rfl⟩
theorem kF.tr {A B C : nf_M} (h1 : kF A B) (h2 : kF B C) : kF A C := fun o ho h => ⟨(h2 o ho h).1.trans (h1 o ho h).1, (h2 o ho h).2.1.trans (h1 o ho h).2.1, (h2 o ho h).2.2.trans (h1 o ho h).2.2⟩
theorem kM.tr {A B C : nf_M} (h1 : kM A B) (h2 : kM B C) : kM A C := ⟨h2.1.trans h1.1, h2.2.1.trans h1.2.1, h2.2.2.trans h1.2.2⟩
theorem kF_tx {M M' : nf_M} (h : kF M M') {n : Nat} {tx : Nat → Nat} (hx : txM M n tx) : txM M' n tx := by
  unfold txM at *
  rw [(h 19 (by omega) (by omega)).1, (h 20 (by omega) (by omega)).1]
  exact hx
theorem kF_ou {M M' : nf_M} (h : kF M M') {n : Nat} {tx : Nat → Nat} (hx : ouM M n tx) : ouM M' n tx := by
  unfold ouM at *
  rw [(h 19 (by omega) (by omega)).1, (h 21 (by omega) (by omega)).1]
  exact hx
theorem kF_rg {M M' : nf_M} (h : kF M M') (r : Nat) : rgM M' r = rgM M r := by
  unfold rgM
  rw [(h 22 (by omega) (by omega)).1, (h 23 (by omega) (by omega)).2.1, (h 24 (by omega) (by omega)).1, (h 25 (by omega) (by omega)).2.2]
theorem i32_lt (x y : Int32) : x < y ↔ x.toInt < y.toInt := Int32.lt_iff_toInt_lt
theorem i64_lt (x y : Int64) : x < y ↔ x.toInt < y.toInt := Int64.lt_iff_toInt_lt
theorem rg_n {x : Int32} (h : 0 ≤ x.toInt ∧ x.toInt < 8) : ∃ r : Nat, r < 8 ∧ x = zI (r : Int) ∧ nf_rg x = rgn r ∧ x.toNatClampNeg = r := by
  have e : x.toNatClampNeg = x.toInt.toNat := rfl
  refine ⟨x.toInt.toNat, by omega, ?_, ?_, e⟩
  · rw [Int.toNat_of_nonneg h.1, zI_to]
  · unfold nf_rg rgn
    rw [Fin.mk.injEq, e]
/-! the small methods -/
theorem s_F_isRegister {x : Int32} {M : nf_M} {post : Int32 → nf_M → Prop} (h1 : 0 ≤ x.toInt ∧ x.toInt < 8 → post 1 M) (h0 : ¬ (0 ≤ x.toInt ∧ x.toInt < 8) → post 0 M) : P_F_isRegister x M post := by
  have e0 : (0 : Int32).toInt = 0 := by decide
  have e8 : (8 : Int32).toInt = 8 := by decide
  unfold P_F_isRegister B_F_isRegister_17 B_F_isRegister_18
  simp only [i32_lt, e0, e8]
  exact ⟨fun h => ⟨rfl, h0 (by omega)⟩, fun h => ⟨fun h2 => ⟨rfl, h1 (by omega)⟩, fun h2 => ⟨rfl, h0 (by omega)⟩⟩⟩
theorem s_M_isRegister {x : Int32} {M : nf_M} {post : Int32 → nf_M → Prop} (h1 : 0 ≤ x.toInt ∧ x.toInt < 8 → post 1 M) (h0 : ¬ (0 ≤ x.toInt ∧ x.toInt < 8) → post 0 M) : P_M_isRegister x M post := by
  have e0 : (0 : Int32).toInt = 0 := by decide
  have e8 : (8 : Int32).toInt = 8 := by decide
  unfold P_M_isRegister B_M_isRegister_14 B_M_isRegister_15
  simp only [i32_lt, e0, e8]
  exact ⟨fun h => ⟨rfl, h0 (by omega)⟩, fun h => ⟨fun h2 => ⟨rfl, h1 (by omega)⟩, fun h2 => ⟨rfl, h0 (by omega)⟩⟩⟩
theorem s_F_kind {x : Int32} {M : nf_M} {post : Int32 → nf_M → Prop} (h1 : 0 ≤ x.toInt ∧ x.toInt < 8 → post (mg_T M (nf_rg x)) M) (h0 : ¬ (0 ≤ x.toInt ∧ x.toInt < 8) → post (-1) M) : P_F_kind x M post := by
  unfold P_F_kind
  refine s_F_isRegister (fun h => ?_) (fun h => ?_)
  · exact ⟨fun h' => absurd h' (by decide), fun _ => ⟨vp_in_iff.mpr h, h1 h⟩⟩
  · exact ⟨fun _ => h0 h, fun h' => absurd rfl h'⟩
theorem s_M_kind {x : Int32} {M : nf_M} {post : Int32 → nf_M → Prop} (h1 : 0 ≤ x.toInt ∧ x.toInt < 8 → post (mg_I M 22 x.toNatClampNeg) (ms_I M 19 0 0)) (h0 : ¬ (0 ≤ x.toInt ∧ x.toInt < 8) → post (-1) (ms_I M 19 0 0)) : P_M_kind x M post := by
  unfold P_M_kind
  intro M1 e1
  subst e1
  refine s_M_isRegister (fun h => ?_) (fun h => ?_)
  · exact ⟨fun h' => absurd h' (by decide), fun _ => ⟨vp_in_iff.mpr h, h1 h⟩⟩
  · exact ⟨fun _ => h0 h, fun h' => absurd rfl h'⟩
/-- the reference's note of a throw, and its scratch, are no part of what ties -/
theorem iv_scr {M : nf_M} {n m : Nat} {tx ou : Nat → Nat} {rg : Nat → nf_V} (h : iv_1 M n tx m ou rg) (v : Int32) : iv_1 (ms_I M 19 0 v) n tx m ou rg := h
theorem nf_arm8 (x1 : Int32) (M : nf_M) (h : iv_I M) : P_arm8 x1 M iv_I := by
  obtain ⟨n, tx, m, ou, rg, hI⟩ := h
  unfold P_arm8
  refine s_F_kind (fun h => ?_) (fun h => ?_)
  · refine s_M_kind (fun _ => ?_) (fun h' => absurd h h')
    obtain ⟨r, hr, hx, e1, e2⟩ := rg_n h
    refine ⟨fun _ => ⟨n, tx, m, ou, rg, iv_scr hI 0⟩, fun hne => absurd ?_ hne⟩
    obtain ⟨-, a, b⟩ := hI.2.2.2.2.2.2 r hr
    rw [e1, e2]
    exact (congrArg (·.1) b).trans (congrArg (·.1) a).symm
  · refine s_M_kind (fun h' => absurd h' h) (fun _ => ?_)
    exact ⟨fun _ => ⟨n, tx, m, ou, rg, iv_scr hI 0⟩, fun hne => absurd rfl hne⟩
