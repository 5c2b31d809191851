/-! registers: looking them up, their values as doubles; real, put -/
def cv (M : nf_M) (rg : Nat → nf_V) : Prop := ∀ r, r < 8 → rgF M (rgn r) = rg r
def mv (M : nf_M) (rg : Nat → nf_V) : Prop := ∀ r, r < 8 → rgM M r = rg r
def okR (rg : Nat → nf_V) : Prop := ∀ r, r < 8 → okV (rg r)
abbrev inR (x : Int32) : Prop := 0 ≤ x.toInt ∧ x.toInt < 8
theorem in_z {r : Nat} (h : r < 8) : inR (zI r) := by
  show 0 ≤ (zI r).toInt ∧ (zI r).toInt < 8
  rw [z_of (by omega)]
  omega
theorem z_inj {x : Int32} {r r' : Nat} (h : r < 8) (h' : r' < 8) (e : x = zI r) (e' : x = zI r') : r' = r := by
  have h9 := congrArg Int32.toInt (e.symm.trans e')
  rw [z_of (by omega), z_of (by omega)] at h9
  omega
theorem t0 : (0 : Int32).toInt = 0 := by decide
theorem t8 : (8 : Int32).toInt = 8 := by decide
theorem s_F_register {x : Int32} {M : nf_M} {post : Fin 9 → nf_M → Prop} {ex : Nat → nf_M → Prop} (h1 : ∀ r : Nat, r < 8 → x = zI r → post (rgn r) M) (h0 : ¬ inR x → ex 0 M) : P_F_register x M post ex := by
  unfold P_F_register B_F_register_13
  simp only [i32_lt, t0, t8]
  refine ⟨fun h => h0 (by omega), fun h => ⟨fun h2 => ⟨vp_in_iff.mpr (by omega), ?_⟩, fun h2 => h0 (by omega)⟩⟩
  obtain ⟨r, hr, hx, e1, -⟩ := rg_n (x := x) (by omega)
  rw [e1]
  exact h1 r hr hx
theorem s_F_checkFull {v : Fin 9} {M : nf_M} {c : nf_V} {post : Unit → nf_M → Prop} {ex : Nat → nf_M → Prop} (hc : rgF M v = c) (hv : okV c) (h1 : 0 ≤ c.1.toInt → post () M) (h0 : c.1.toInt = -1 → ex 2 M) : P_F_checkFull v M post ex := by
  unfold P_F_checkFull
  have e : mg_T M v = c.1 := congrArg (fun c : nf_V => c.1) hc
  rw [e]
  refine ⟨fun h => h0 (by rw [h]; decide), fun h => h1 ?_⟩
  rcases okV_T hv with q | q | q
  · exact absurd (by rw [q.2]) h
  · exact q.1
  · omega
theorem s_F_checkIndex {x : Int32} {n : Nat} {M : nf_M} {post : Unit → nf_M → Prop} {ex : Nat → nf_M → Prop} (hn : n < 1000) (h1 : ∀ r : Nat, r < n → x = zI r → post () M) (h0 : ¬ (0 ≤ x.toInt ∧ x.toInt < n) → ex 0 M) : P_F_checkIndex x (zI n) M post ex := by
  unfold P_F_checkIndex B_F_checkIndex_9
  simp only [i32_lt, t0]
  rw [z_of (by omega)]
  refine ⟨fun h => h0 (by omega), fun h => ⟨fun h2 => ?_, fun h2 => h0 (by omega)⟩⟩
  exact h1 x.toInt.toNat (by omega) (i32_pos (by omega))
theorem s_V_isFloating {v : Fin 9} {M : nf_M} {c : nf_V} {post : Int32 → nf_M → Prop} (hc : rgF M v = c) (h1 : 8 ≤ c.1.toInt → post 1 M) (h0 : c.1.toInt < 8 → post 0 M) : P_V_isFloating v M post := by
  unfold P_V_isFloating B_V_isFloating_14
  have e : mg_T M v = c.1 := congrArg (fun c : nf_V => c.1) hc
  rw [e]
  simp only [i32_lt, t8]
  exact ⟨fun h => ⟨rfl, h0 h⟩, fun h => ⟨rfl, h1 (by omega)⟩⟩
theorem s_M_isExact {x : Int32} {M : nf_M} {post : Int32 → nf_M → Prop} (h1 : 0 ≤ x.toInt ∧ x.toInt < 8 → post 1 M) (h0 : ¬ (0 ≤ x.toInt ∧ x.toInt < 8) → post 0 M) : P_M_isExact x M post := by
  unfold P_M_isExact B_M_isExact_14 B_M_isExact_15
  simp only [i32_lt, t0, t8]
  exact ⟨fun h => ⟨rfl, h0 (by omega)⟩, fun h => ⟨fun h2 => ⟨rfl, h1 (by omega)⟩, fun h2 => ⟨rfl, h0 (by omega)⟩⟩⟩
/-- what a register holds, as a double -/
def dbl (c : nf_V) : UInt64 := if c.1.toInt < 8 then FP.ddiv (FP.l2d c.2.1) (tn c.2.2.1.toInt.toNat) else c.2.2.2
theorem tms_down {x : UInt64} (hx : okD x) (s : Nat) : tms x (-(s : Int)) = FP.ddiv x (tn s) := by
  unfold tms
  by_cases h : s = 0
  · rw [if_neg (by omega), h]
    have e1 : FP.dmul x (tn 0) = x := FP.Core.dmul_one (okD_val.mp hx)
    have e2 : FP.ddiv x (tn 0) = x := FP.Core.ddiv_one (okD_val.mp hx)
    exact e1.trans e2.symm
  · rw [if_pos (by omega), show (-(-(s : Int))).toNat = s by omega]
theorem dbl_ok {c : nf_V} (hv : okV c) (hf : 0 ≤ c.1.toInt) : okD (dbl c) := by
  unfold dbl
  rcases okV_T hv with q | ⟨q1, q2, u, s, q4, q5⟩ | q
  · omega
  · rw [if_pos q2]
    have hs : c.2.2.1.toInt.toNat = s := by rw [q5]; show (zI s).toInt.toNat = s; rw [z_of (by have := q4.2.2.2.1; omega)]; rfl
    rw [hs]
    exact FP.Core.ddiv_out (okF (FP.Core.l2d_fin _)) (tn_F (by have := q4.2.2.2.1; omega)) (tn_Z (by have := q4.2.2.2.1; omega))
  · rw [if_neg (by omega)]
    exact (n64 _).mp q.2.2.2.2.1
theorem s_V_asDouble {v : Fin 9} {M : nf_M} {c : nf_V} {post : UInt64 → nf_M → Prop} (hc : rgF M v = c) (hv : okV c) (hf : 0 ≤ c.1.toInt) (k : post (dbl c) M) : P_V_asDouble v M post := by
  unfold P_V_asDouble B_V_asDouble_27
  have eu : mg_U M v = c.2.1 := congrArg (fun c : nf_V => c.2.1) hc
  have es : mg_S M v = c.2.2.1 := congrArg (fun c : nf_V => c.2.2.1) hc
  have er : mg_R M v = c.2.2.2 := congrArg (fun c : nf_V => c.2.2.2) hc
  refine s_V_isFloating hc (fun h => ⟨fun z => absurd z (by decide), fun _ => ?_⟩) (fun h => ⟨fun _ => ?_, fun z => absurd rfl z⟩)
  · rw [er]
    unfold dbl at k
    rw [if_neg (by omega)] at k
    exact k
  · rcases okV_T hv with q | ⟨q1, q2, u, s, q4, q5⟩ | q
    · omega
    · have h6 := q4.2.2.2.1
      have hs : c.2.2.1 = zI s := by rw [q5]
      rw [eu, es, hs, zI_neg]
      refine s_F_timesTen (okF (FP.Core.l2d_fin _)) (by omega) (by omega) ?_
      rw [tms_down (okF (FP.Core.l2d_fin _))]
      unfold dbl at k
      rw [if_pos q2, hs, z_of (by omega)] at k
      exact k
    · omega
theorem s_V_asFloat {v : Fin 9} {M : nf_M} {c : nf_V} {post : UInt32 → nf_M → Prop} (hc : rgF M v = c) (hv : okV c) (hf : 0 ≤ c.1.toInt) (k : post (FP.d2f (dbl c)) M) : P_V_asFloat v M post := by
  unfold P_V_asFloat
  exact s_V_asDouble hc hv hf ⟨d2f_n (dbl_ok hv hf), k⟩
theorem s_M_asDouble {r : Nat} {M : nf_M} {c : nf_V} {post : UInt64 → nf_M → Prop} (hr : r < 8) (hc : rgM M r = c) (hv : okV c) (hf : 0 ≤ c.1.toInt) (k : post (dbl c) M) : P_M_asDouble (zI r) M post := by
  unfold P_M_asDouble B_M_asDouble_38
  have et : mg_I M 22 r = c.1 := congrArg (fun c : nf_V => c.1) hc
  have eu : mg_L M 23 r = c.2.1 := congrArg (fun c : nf_V => c.2.1) hc
  have es : mg_I M 24 r = c.2.2.1 := congrArg (fun c : nf_V => c.2.2.1) hc
  have er : mg_D M 25 r = c.2.2.2 := congrArg (fun c : nf_V => c.2.2.2) hc
  have hin := z_in hr (by omega)
  refine ⟨hin, ?_⟩
  rw [z_cl (by omega), et]
  refine s_M_isExact (fun h => ⟨fun z => absurd z (by decide), fun _ => ⟨hin, hin, ?_⟩⟩) (fun h => ⟨fun _ => ⟨hin, ?_⟩, fun z => absurd rfl z⟩)
  · rcases okV_T hv with q | ⟨q1, q2, u, s, q4, q5⟩ | q
    · omega
    · have h6 := q4.2.2.2.1
      have hs : c.2.2.1 = zI s := by rw [q5]
      rw [es, hs]
      refine s_M_ten (by omega) ?_
      rw [eu]
      have hok := dbl_ok hv hf
      unfold dbl at k hok
      rw [if_pos q2, hs, z_of (by omega)] at k hok
      exact ⟨(n64 _).mpr hok, k⟩
    · omega
  · rw [er]
    unfold dbl at k
    rw [if_neg (by omega)] at k
    exact k
theorem iv_cv {M : nf_M} {n m : Nat} {tx ou : Nat → Nat} {rg : Nat → nf_V} (h : iv_1 M n tx m ou rg) : cv M rg := fun r hr => (h.2.2.2.2.2.2 r hr).2.2
theorem iv_mv {M : nf_M} {n m : Nat} {tx ou : Nat → Nat} {rg : Nat → nf_V} (h : iv_1 M n tx m ou rg) : mv M rg := fun r hr => (h.2.2.2.2.2.2 r hr).2.1
theorem iv_ok {M : nf_M} {n m : Nat} {tx ou : Nat → Nat} {rg : Nat → nf_V} (h : iv_1 M n tx m ou rg) : okR rg := fun r hr => (h.2.2.2.2.2.2 r hr).1
theorem iv_out {M : nf_M} {n m : Nat} {tx ou : Nat → Nat} {rg : Nat → nf_V} (h : iv_1 M n tx m ou rg) (k : Nat) (v : UInt64) : iv_1 (ms_D M 28 k v) n tx m ou rg := h
theorem iv_outL {M : nf_M} {n m : Nat} {tx ou : Nat → Nat} {rg : Nat → nf_V} (h : iv_1 M n tx m ou rg) (k : Nat) (v : Int64) : iv_1 (ms_L M 27 k v) n tx m ou rg := h
theorem c_0 {post : Int32 → nf_M → Prop} {M : nf_M} {k : Nat} {ks : List Nat} (j : Nat) (hk : ks[j]? = some k) (h : post (nI (j + 1)) M) : nf_cat (fun j => nI (j + 1)) ks post k M := ⟨j, hk, h⟩
theorem nf_arm9 (x1 : Int32) (M : nf_M) (h : iv_I M) : P_arm9 x1 M iv_I := by
  obtain ⟨n, tx, m, ou, rg, hI⟩ := h
  have hv0 : vp_in (0 : Int32) 1 := by rw [vp_in_iff]; decide
  have hR : ∀ (k : Nat) (M0 : nf_M), iv_1 M0 n tx m ou rg → k < 3 → (¬ inR x1 → k = 1) → (∀ r : Nat, r < 8 → x1 = zI r → (rg r).1.toInt < 0 → k = 2) → (∀ r : Nat, r < 8 → x1 = zI r → 0 ≤ (rg r).1.toInt → k = 0 ∧ mg_D M0 28 0 = dbl (rg r)) →
      P_M_real x1 M0 (fun r3 M4 => P_M_thrown M4 (fun r5 M6 => (r5 = zI k → (zI k = (0 : Int32) → (vp_in (0 : Int32) 1) ∧ ((nf_deq (mg_D M6 28 (0 : Int32).toNatClampNeg) r3 → iv_I M6) ∧ (¬ nf_deq (mg_D M6 28 (0 : Int32).toNatClampNeg) r3 → (vp_in (0 : Int32) 1) ∧ ((vp_in (0 : Int32) 1) ∧ ((nf_deq (mg_D M6 28 (0 : Int32).toNatClampNeg) (mg_D M6 28 (0 : Int32).toNatClampNeg) → False) ∧ (¬ nf_deq (mg_D M6 28 (0 : Int32).toNatClampNeg) (mg_D M6 28 (0 : Int32).toNatClampNeg) → (nf_deq r3 r3 → False) ∧ (¬ nf_deq r3 r3 → iv_I M6))))))) ∧ (¬ zI k = (0 : Int32) → iv_I M6)) ∧ (¬ r5 = zI k → False))) := by
    intro k M0 hI0 hk3 h1 h2 h3
    have hfin : ∀ v : Int32, iv_I (ms_I M0 19 0 v) := fun v => ⟨n, tx, m, ou, rg, iv_scr hI0 v⟩
    unfold P_M_real B_M_real_26 B_M_real_45 P_M_thrown
    refine s_M_isRegister (fun hr => ⟨fun z => absurd z (by decide), fun _ => ⟨vp_in_iff.mpr hr, ?_⟩⟩) (fun hr => ⟨fun _ => ?_, fun z => absurd rfl z⟩)
    · obtain ⟨r, hr8, hx, -, ec⟩ := rg_n hr
      have et : mg_I M0 22 r = (rg r).1 := congrArg (fun c : nf_V => c.1) (iv_mv hI0 r hr8)
      rw [ec, et, i32_lt, t0]
      refine ⟨fun hz M1 e1 => ?_, fun hz M1 e1 => ?_⟩
      · have ek := h2 r hr8 hx hz
        subst ek e1
        refine ⟨fun _ => ⟨fun _ => ⟨fun z => absurd z (by decide), fun _ => hfin 2⟩, fun z => z (show (2 : Int32) = zI (2 : Nat) by decide)⟩, fun z => absurd (show (0 : Int32) < 2 by decide) z⟩
      · obtain ⟨ek, ed⟩ := h3 r hr8 hx (by omega)
        subst ek
        refine ⟨fun z => ?_, fun _ => ?_⟩
        · rw [e1] at z
          exact absurd z (show ¬ (0 : Int32) < 0 by decide)
        · rw [hx]
          have hI1 : iv_1 M1 n tx m ou rg := by rw [e1]; exact iv_scr hI0 0
          refine s_M_asDouble hr8 (iv_mv hI1 r hr8) (iv_ok hI1 r hr8) (by omega) ?_
          have e6 : mg_I M1 19 0 = 0 := by rw [e1]; rfl
          have e7 : mg_D M1 28 0 = dbl (rg r) := by rw [e1]; exact ed
          dsimp only
          rw [e6]
          refine ⟨fun _ => ⟨fun _ => ⟨hv0, ?_⟩, fun z => absurd (show zI (0 : Nat) = 0 by decide) z⟩, fun z => z (by decide)⟩
          have e8 : (0 : Int32).toNatClampNeg = 0 := by decide
          rw [e8, e7]
          have hs : nf_deq (dbl (rg r)) (dbl (rg r)) := FP.Core.dcmp_self (okD_val.mp (dbl_ok (iv_ok hI1 r hr8) (by omega)))
          exact ⟨fun _ => ⟨n, tx, m, ou, rg, hI1⟩, fun z => absurd hs z⟩
    · have ek := h1 hr
      subst ek
      intro M1 e1
      subst e1
      refine ⟨fun _ => ⟨fun _ => ⟨fun z => absurd z (by decide), fun _ => hfin 1⟩, fun z => z (show (1 : Int32) = zI (1 : Nat) by decide)⟩, fun z => absurd (show (0 : Int32) < 1 by decide) z⟩
  unfold P_arm9 P_L_real P_F_real
  refine s_F_register (fun r hr hx => ?_) (fun hr => ?_)
  · refine s_F_checkFull (iv_cv hI r hr) (iv_ok hI r hr) (fun hf => ?_) (fun hf => ?_)
    · refine s_V_asDouble (iv_cv hI r hr) (iv_ok hI r hr) hf ⟨hv0, fun M4 e4 => ?_⟩
      refine hR 0 M4 (by rw [e4]; exact iv_out hI _ _) (by omega) (fun z => absurd (by rw [hx]; exact in_z hr) z) (fun r' h8 e z => ?_) (fun r' h8 e z => ⟨rfl, ?_⟩)
      · have : r' = r := by
          have h9 := congrArg Int32.toInt (hx.symm.trans e)
          rw [z_of (by omega), z_of (by omega)] at h9
          omega
        subst this
        omega
      · have : r' = r := by
          have h9 := congrArg Int32.toInt (hx.symm.trans e)
          rw [z_of (by omega), z_of (by omega)] at h9
          omega
        subst this
        rw [e4]; rfl
    · refine c_0 1 rfl ?_
      rw [nI_z]
      refine hR 2 M hI (by omega) (fun z => absurd (by rw [hx]; exact in_z hr) z) (fun _ _ _ _ => rfl) (fun r' h8 e z => ?_)
      have : r' = r := by
        have h9 := congrArg Int32.toInt (hx.symm.trans e)
        rw [z_of (by omega), z_of (by omega)] at h9
        omega
      subst this
      omega
  · refine c_0 0 rfl ?_
    rw [nI_z]
    refine hR 1 M hI (by omega) (fun _ => rfl) (fun r h8 e z => ?_) (fun r h8 e z => ?_)
    · exact absurd (by rw [e]; exact in_z h8) hr
    · exact absurd (by rw [e]; exact in_z h8) hr
