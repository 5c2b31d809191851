/-! what a call does to the registers, on both sides; put -/
def rows (M M' : nf_M) : Prop := mg_N M' = mg_N M ∧ mg_C M' = mg_C M
def kC (r : Nat) (c : nf_V) (M M' : nf_M) : Prop := kF M M' ∧ rows M M' ∧ rgF M' (rgn r) = c ∧ ∀ r', r' < 8 → r' ≠ r → rgF M' (rgn r') = rgF M (rgn r')
def kD (M M' : nf_M) : Prop := kF M M' ∧ rows M M' ∧ ∀ r', r' < 8 → rgF M' (rgn r') = rgF M (rgn r')
/-- the reference's text and output are kept -/
def kX (M M' : nf_M) : Prop := M'.2.2.2 = M.2.2.2 ∧ mg_I M' 19 1 = mg_I M 19 1 ∧ (mg_I M' 19 3, mg_I M' 19 17, mg_I M' 19 18) = (mg_I M 19 3, mg_I M 19 17, mg_I M 19 18) ∧ mg_I M' 20 = mg_I M 20 ∧ mg_I M' 21 = mg_I M 21 ∧ mg_L M' 27 = mg_L M 27
def kN (r : Nat) (c : nf_V) (M M' : nf_M) : Prop := kX M M' ∧ rgM M' r = c ∧ ∀ r', r' < 8 → r' ≠ r → rgM M' r' = rgM M r'
def kO (M M' : nf_M) : Prop := kX M M' ∧ ∀ r', r' < 8 → rgM M' r' = rgM M r'
theorem rows.rf (M : nf_M) : rows M M := ⟨rfl, rfl⟩
theorem kX.rf (M : nf_M) : kX M M := ⟨rfl, rfl, rfl, rfl, rfl, rfl⟩
theorem kX.tr {A B C : nf_M} (h1 : kX A B) (h2 : kX B C) : kX A C := ⟨h2.1.trans h1.1, h2.2.1.trans h1.2.1, h2.2.2.1.trans h1.2.2.1, h2.2.2.2.1.trans h1.2.2.2.1, h2.2.2.2.2.1.trans h1.2.2.2.2.1, h2.2.2.2.2.2.trans h1.2.2.2.2.2⟩
theorem rows.tr {A B C : nf_M} (h1 : rows A B) (h2 : rows B C) : rows A C := ⟨h2.1.trans h1.1, h2.2.trans h1.2⟩
theorem kD.rf (M : nf_M) : kD M M := ⟨kF.rf M, rows.rf M, fun _ _ => rfl⟩
theorem kO.rf (M : nf_M) : kO M M := ⟨kX.rf M, fun _ _ => rfl⟩
theorem kD.tr {A B C : nf_M} (h1 : kD A B) (h2 : kD B C) : kD A C := ⟨h1.1.tr h2.1, h1.2.1.tr h2.2.1, fun r hr => (h2.2.2 r hr).trans (h1.2.2 r hr)⟩
theorem kO.tr {A B C : nf_M} (h1 : kO A B) (h2 : kO B C) : kO A C := ⟨h1.1.tr h2.1, fun r hr => (h2.2 r hr).trans (h1.2 r hr)⟩
theorem kD.C {A B C : nf_M} {r : Nat} {c : nf_V} (h1 : kD A B) (h2 : kC r c B C) : kC r c A C := ⟨h1.1.tr h2.1, h1.2.1.tr h2.2.1, h2.2.2.1, fun r' hr hn => (h2.2.2.2 r' hr hn).trans (h1.2.2 r' hr)⟩
theorem kO.N {A B C : nf_M} {r : Nat} {c : nf_V} (h1 : kO A B) (h2 : kN r c B C) : kN r c A C := ⟨h1.1.tr h2.1, h2.2.1, fun r' hr hn => (h2.2.2 r' hr hn).trans (h1.2 r' hr)⟩
theorem kX_rgF {M M' : nf_M} (h : kX M M') (v : Fin 9) : rgF M' v = rgF M v := by
  have h1 := h.1
  unfold rgF mg_T mg_U mg_S mg_R
  rw [h1]
theorem kX.row {M M' : nf_M} (h : kX M M') {b : Bool} {n : Nat} {tx : Nat → Nat} (hr : rowF M b n tx) : rowF M' b n tx := by
  unfold rowF mg_N mg_C at *
  rw [h.1]
  exact hr
theorem kX.txm {M M' : nf_M} (h : kX M M') {n : Nat} {tx : Nat → Nat} (hr : txM M n tx) : txM M' n tx := by
  unfold txM at *
  rw [h.2.1, h.2.2.2.1]
  exact hr
theorem kX.oum {M M' : nf_M} (h : kX M M') {n : Nat} {tx : Nat → Nat} (hr : ouM M n tx) : ouM M' n tx := by
  unfold ouM at *
  have e3 : mg_I M' 19 3 = mg_I M 19 3 := congrArg (fun c : Int32 × Int32 × Int32 => c.1) h.2.2.1
  rw [e3, h.2.2.2.2.1]
  exact hr
theorem rows.row {M M' : nf_M} (h : rows M M') {b : Bool} {n : Nat} {tx : Nat → Nat} (hr : rowF M b n tx) : rowF M' b n tx := by
  unfold rowF at *
  rw [h.1, h.2]
  exact hr
/-- after a call that throws -/
theorem iv_no {M M1 M2 : nf_M} {n m : Nat} {tx ou : Nat → Nat} {rg : Nat → nf_V} (h : iv_1 M n tx m ou rg) (h1 : kD M M1) (h2 : kO M1 M2) : iv_1 M2 n tx m ou rg :=
  ⟨h.1, h2.1.row (h1.2.1.row h.2.1), h2.1.txm (kF_tx h1.1 h.2.2.1), h.2.2.2.1, h2.1.row (h1.2.1.row h.2.2.2.2.1), h2.1.oum (kF_ou h1.1 h.2.2.2.2.2.1), fun r hr => ⟨(h.2.2.2.2.2.2 r hr).1, ((h2.2 r hr).trans (kF_rg h1.1 r)).trans (h.2.2.2.2.2.2 r hr).2.1, ((kX_rgF h2.1 _).trans (h1.2.2 r hr)).trans (h.2.2.2.2.2.2 r hr).2.2⟩⟩
def upv (rg : Nat → nf_V) (r : Nat) (c : nf_V) : Nat → nf_V := fun i => if i = r then c else rg i
/-- after a call that fills the register r -/
theorem iv_set {M M1 M2 : nf_M} {n m r : Nat} {tx ou : Nat → Nat} {rg : Nat → nf_V} {c : nf_V} (h : iv_1 M n tx m ou rg) (hc : okV c) (h1 : kC r c M M1) (h2 : kN r c M1 M2) : iv_1 M2 n tx m ou (upv rg r c) := by
  refine ⟨h.1, h2.1.row (h1.2.1.row h.2.1), h2.1.txm (kF_tx h1.1 h.2.2.1), h.2.2.2.1, h2.1.row (h1.2.1.row h.2.2.2.2.1), h2.1.oum (kF_ou h1.1 h.2.2.2.2.2.1), fun r' hr => ?_⟩
  unfold upv
  by_cases e : r' = r
  · rw [if_pos e, e]
    exact ⟨hc, h2.2.1, (kX_rgF h2.1 _).trans h1.2.2.1⟩
  · rw [if_neg e]
    exact ⟨(h.2.2.2.2.2.2 r' hr).1, ((h2.2.2 r' hr e).trans (kF_rg h1.1 r')).trans (h.2.2.2.2.2.2 r' hr).2.1, ((kX_rgF h2.1 _).trans (h1.2.2.2 r' hr e)).trans (h.2.2.2.2.2.2 r' hr).2.2⟩
/-- one Value of the system is written -/
def kW (v : Fin 9) (c : nf_V) (M M' : nf_M) : Prop := M'.1 = M.1 ∧ M'.2.1 = M.2.1 ∧ M'.2.2.1 = M.2.2.1 ∧ rows M M' ∧ rgF M' v = c ∧ ∀ w, w ≠ v → rgF M' w = rgF M w
theorem kW.kF {v : Fin 9} {c : nf_V} {M M' : nf_M} (h : kW v c M M') : kF M M' := fun o _ _ => ⟨by unfold mg_I; rw [h.1], by unfold mg_L; rw [h.2.1], by unfold mg_D; rw [h.2.2.1]⟩
theorem rgn_inj {r r' : Nat} (h : r < 8) (h' : r' < 8) (hn : r' ≠ r) : rgn r' ≠ rgn r := fun e => by
  have h1 : 1 + r' % 8 = 1 + r % 8 := congrArg Fin.val e
  omega
theorem rgn_0 (r : Nat) : rgn r ≠ 0 := fun e => by
  have h1 : 1 + r % 8 = 0 := congrArg Fin.val e
  omega
theorem kW.C {r : Nat} {c : nf_V} {M M' : nf_M} (hr : r < 8) (h : kW (rgn r) c M M') : kC r c M M' := ⟨h.kF, h.2.2.2.1, h.2.2.2.2.1, fun _ hr' hn => h.2.2.2.2.2 _ (rgn_inj hr hr' hn)⟩
theorem kW.D {c : nf_V} {M M' : nf_M} (h : kW 0 c M M') : kD M M' := ⟨h.kF, h.2.2.2.1, fun r' _ => h.2.2.2.2.2 _ (rgn_0 r')⟩
theorem kW_mk (v : Fin 9) (t : Int32) (u : Int64) (s : Int32) (x : UInt64) (M : nf_M) : kW v (t, u, s, x) M (ms_R (ms_S (ms_U (ms_T M v t) v u) v s) v x) := by
  refine ⟨rfl, rfl, rfl, ⟨rfl, rfl⟩, ?_, fun w hw => ?_⟩
  · show (nf_u1 (mg_T M) v t v, nf_u1 (mg_U M) v u v, nf_u1 (mg_S M) v s v, nf_u1 (mg_R M) v x v) = _
    unfold nf_u1
    simp only [if_true]
  · show (nf_u1 (mg_T M) v t w, nf_u1 (mg_U M) v u w, nf_u1 (mg_S M) v s w, nf_u1 (mg_R M) v x w) = _
    unfold nf_u1
    simp only [if_neg hw]
    rfl
/-- the content that a floating number makes -/
def flt (t : Nat) (x : UInt64) : nf_V := if t = 8 then (8, 0, 0, FP.f2d (FP.d2f x)) else (zI t, 0, 0, x)
theorem d2f_ok {x : UInt64} (h : okD x) : FP.Core.fIsNaN (FP.d2f x) = false := (n32 _).mp (d2f_n h)
theorem flt_ok {t : Nat} {x : UInt64} (ht : t = 8 ∨ t = 9) (h : okD x) : okV (flt t x) := by
  unfold flt
  rcases ht with rfl | rfl
  · rw [if_pos rfl]
    exact Or.inr (Or.inr ⟨_, f2d_n (d2f_ok h), Or.inr ⟨rfl, FP.d2f x, d2f_n h, rfl⟩⟩)
  · rw [if_neg (by decide)]
    exact Or.inr (Or.inr ⟨x, (n64 _).mpr h, Or.inl rfl⟩)
theorem s_V_becomeFloating {v : Fin 9} {t : Nat} {x : UInt64} {M : nf_M} {post : Unit → nf_M → Prop} (ht : t = 8 ∨ t = 9) (h : okD x) (k : ∀ M', kW v (flt t x) M M' → post () M') : P_V_becomeFloating v (zI t) x M post := by
  have e8 : (8 : Int32) = zI (8 : Nat) := by decide
  unfold P_V_becomeFloating B_V_becomeFloating_29
  intro M1 e1 M2 e2 M3 e3
  subst e1 e2 e3
  rw [e8, zeq (by omega) (by omega)]
  unfold flt at k
  refine ⟨fun z => ⟨d2f_n h, f2d_n (d2f_ok h), fun M4 e4 => ?_⟩, fun z M4 e4 => ?_⟩
  · subst e4
    rw [if_pos z] at k
    rw [z]
    exact k _ (kW_mk v _ _ _ _ M)
  · subst e4
    rw [if_neg z] at k
    exact k _ (kW_mk v _ _ _ _ M)
theorem s_V_becomeUnits {v : Fin 9} {t : Int32} {u : Int64} {s : Int32} {M : nf_M} {post : Unit → nf_M → Prop} (k : ∀ M', kW v (t, u, s, 0) M M' → post () M') : P_V_becomeUnits v t u s M post := by
  unfold P_V_becomeUnits
  intro M1 e1 M2 e2 M3 e3 M4 e4
  subst e1 e2 e3 e4
  exact k _ (kW_mk v _ _ _ _ M)
theorem s_V_become {v w : Fin 9} {M : nf_M} {post : Unit → nf_M → Prop} (hvw : w ≠ v) (k : ∀ M', kW v (rgF M w) M M' → post () M') : P_V_become v w M post := by
  unfold P_V_become
  intro t1 e1 M2 e2 t3 e3 M4 e4 t5 e5 M6 e6 t7 e7 M8 e8
  subst e1 e2 e3 e4 e5 e6 e7 e8
  exact k _ (kW_mk v _ _ _ _ M)
/-- one register of the reference is written -/
theorem kN_mk {r : Nat} (hr : r < 8) (t : Int32) (u : Int64) (s : Int32) (x : UInt64) (M : nf_M) : kN r (t, u, s, x) M (ms_D (ms_I (ms_L (ms_I M 22 r t) 23 r u) 24 r s) 25 r x) := by
  refine ⟨⟨rfl, rfl, rfl, rfl, rfl, rfl⟩, ?_, fun r' hr' hn => ?_⟩
  · show ((if r = r then t else _), (if r = r then u else _), (if r = r then s else _), (if r = r then x else _)) = _
    simp only [if_true]
  · show ((if r' = r then t else mg_I M 22 r'), (if r' = r then u else mg_L M 23 r'), (if r' = r then s else mg_I M 24 r'), (if r' = r then x else mg_D M 25 r')) = _
    simp only [if_neg hn]
    rfl
def sto (M : nf_M) (t : Int32) : nf_V := if 0 ≤ t.toInt ∧ t.toInt < 8 then (t, mg_L M 19 10, mg_I M 19 11, 0) else (t, 0, 0, mg_D M 19 12)
theorem s_M_store {r : Nat} {t : Int32} {M : nf_M} {post : Unit → nf_M → Prop} (hr : r < 8) (k : ∀ M', kN r (sto M t) M M' → mg_I M' 19 0 = mg_I M 19 0 → post () M') : P_M_store (zI r) t M post := by
  have hin := z_in hr (by omega)
  have ec : (zI r).toNatClampNeg = r := z_cl (by omega)
  unfold P_M_store B_M_store_27 B_M_store_48 B_M_store_69
  rw [ec]
  unfold sto at k
  by_cases ht : 0 ≤ t.toInt ∧ t.toInt < 8
  · rw [if_pos ht] at k
    refine ⟨hin, fun M2 e2 => s_M_isExact (fun _ => ⟨fun z => absurd z (by decide), fun _ => ⟨hin, fun M3 e3 => s_M_isExact (fun _ => ⟨fun z => absurd z (by decide), fun _ => ⟨hin, fun M4 e4 => s_M_isExact (fun _ => ⟨fun z => absurd z (by decide), fun _ => ⟨hin, fun M5 e5 => ?_⟩⟩) (fun z => absurd ht z)⟩⟩) (fun z => absurd ht z)⟩⟩) (fun z => absurd ht z)⟩
    subst e2 e3 e4 e5
    exact k _ (kN_mk hr _ _ _ _ M) rfl
  · rw [if_neg ht] at k
    refine ⟨hin, fun M2 e2 => s_M_isExact (fun z => absurd z ht) (fun _ => ⟨fun _ => ⟨hin, fun M3 e3 => s_M_isExact (fun z => absurd z ht) (fun _ => ⟨fun _ => ⟨hin, fun M4 e4 => s_M_isExact (fun z => absurd z ht) (fun _ => ⟨fun _ => ⟨hin, fun M5 e5 => ?_⟩, fun z => absurd rfl z⟩)⟩, fun z => absurd rfl z⟩)⟩, fun z => absurd rfl z⟩)⟩
    subst e2 e3 e4 e5
    exact k _ (kN_mk hr _ _ _ _ M) rfl
theorem kO_19 (M : nf_M) (k : Nat) (v : Int32) (h1 : k ≠ 1) (h3 : k ≠ 3 ∧ k ≠ 17 ∧ k ≠ 18) : kO M (ms_I M 19 k v) := by
  refine ⟨⟨rfl, ?_, ?_, rfl, rfl, rfl⟩, fun _ _ => rfl⟩
  · show (if 1 = k then v else mg_I M 19 1) = _
    rw [if_neg (Ne.symm h1)]
  · show ((if 3 = k then v else mg_I M 19 3), (if 17 = k then v else mg_I M 19 17), (if 18 = k then v else mg_I M 19 18)) = _
    rw [if_neg (Ne.symm h3.1), if_neg (Ne.symm h3.2.1), if_neg (Ne.symm h3.2.2)]
theorem kO_L (M : nf_M) (k : Nat) (v : Int64) : kO M (ms_L M 19 k v) := ⟨⟨rfl, rfl, rfl, rfl, rfl, rfl⟩, fun _ _ => rfl⟩
theorem kO_D (M : nf_M) (k : Nat) (v : UInt64) : kO M (ms_D M 19 k v) := ⟨⟨rfl, rfl, rfl, rfl, rfl, rfl⟩, fun _ _ => rfl⟩
theorem kO_26 (M : nf_M) (k : Nat) (v : Int32) : kO M (ms_I M 26 k v) := ⟨⟨rfl, rfl, rfl, rfl, rfl, rfl⟩, fun _ _ => rfl⟩
theorem s_M_put {x1 x4 : Int32} {x : UInt64} {M : nf_M} {post : Unit → nf_M → Prop} (hx : okD x) (h0 : ¬ inR x1 → ∀ M', kO M M' → mg_I M' 19 0 = 1 → post () M') (h1 : ∀ r : Nat, r < 8 → x1 = zI r → ∀ M', kN r (flt (if x4 = 0 then 9 else 8) x) M M' → mg_I M' 19 0 = 0 → post () M') : P_M_put x1 x x4 M post := by
  unfold P_M_put B_M_put_13 B_M_put_36 B_M_put_53 B_M_put_56
  refine s_M_isRegister (fun hr => ⟨fun z => absurd z (by decide), fun _ M1 e1 => ⟨fun _ => ?_, fun z => absurd (by rw [e1]; rfl) z⟩⟩) (fun hr => ⟨fun _ M1 e1 => ⟨fun z => ?_, fun _ => ?_⟩, fun z => absurd rfl z⟩)
  · obtain ⟨r, hr8, ex, -, -⟩ := rg_n hr
    have h2 := h1 r hr8 ex
    rw [ex]
    refine ⟨fun z M2 e2 => ⟨fun _ => ?_, fun q => absurd z q⟩, fun z => ⟨d2f_n hx, f2d_n (d2f_ok hx), fun M2 e2 => ⟨fun q => absurd q z, fun _ => ?_⟩⟩⟩
    · rw [if_pos z] at h2
      refine s_M_store hr8 (fun M' hk h19 => h2 M' ?_ (h19.trans (by rw [e2, e1]; rfl)))
      have hs : sto M2 9 = flt 9 x := by rw [e2]; rfl
      rw [hs] at hk
      have hM2 : kO M M2 := by
        rw [e2, e1]
        exact (kO_19 M 0 0 (by decide) (by decide)).tr (kO_D _ _ _)
      exact hM2.N hk
    · rw [if_neg z] at h2
      refine s_M_store hr8 (fun M' hk h19 => h2 M' ?_ (h19.trans (by rw [e2, e1]; rfl)))
      have hs : sto M2 8 = flt 8 x := by rw [e2]; rfl
      rw [hs] at hk
      have hM2 : kO M M2 := by
        rw [e2, e1]
        exact (kO_19 M 0 0 (by decide) (by decide)).tr (kO_D _ _ _)
      exact hM2.N hk
  · rw [e1] at z
    exact absurd z (show ¬ (1 : Int32) = 0 by decide)
  · exact h0 hr M1 (by rw [e1]; exact kO_19 M 0 1 (by decide) (by decide)) (by rw [e1]; rfl)
theorem s_F_put {x1 x4 : Int32} {x : UInt64} {M : nf_M} {post : Unit → nf_M → Prop} {ex : Nat → nf_M → Prop} (hx : okD x) (h0 : ¬ inR x1 → ex 0 M) (h1 : ∀ r : Nat, r < 8 → x1 = zI r → ∀ M', kC r (flt (if x4 = 0 then 9 else 8) x) M M' → post () M') : P_F_put x1 x x4 M post ex := by
  unfold P_F_put B_F_put_27 B_F_put_31
  refine s_F_register (fun r hr hx1 => ⟨fun _ => ⟨fun z => ?_, fun z => ?_⟩, fun z => absurd (FP.Core.dcmp_self (okD_val.mp hx)) z⟩) h0
  · have h2 := h1 r hr hx1
    rw [if_pos z] at h2
    exact s_V_becomeFloating (t := 9) (Or.inr rfl) hx (fun M' hk => h2 M' (kW.C hr hk))
  · have h2 := h1 r hr hx1
    rw [if_neg z] at h2
    exact s_V_becomeFloating (t := 8) (Or.inl rfl) hx (fun M' hk => h2 M' (kW.C hr hk))
theorem nf_arm3 (x1 x2 x3 : Int32) (M : nf_M) (h : iv_I M) : P_arm3 x1 x2 x3 M iv_I := by
  obtain ⟨n, tx, m, ou, rg, hI⟩ := h
  have hx : okD (FP.dmul (FP.i2d x2) 4593671619917905920) := FP.Core.dmul_out (FP.Core.i2d_fin x2) (dFin_iff.mp (by decide +kernel))
  unfold P_arm3
  generalize FP.dmul (FP.i2d x2) 4593671619917905920 = x at hx ⊢
  have hn : vf_n64 x := (n64 _).mpr hx
  have key : ∀ (x4 : Int32) (F : Int32 → nf_M → Prop), (∀ r2 M3, P_M_put x1 x x4 M3 (fun _ M6 => P_M_thrown M6 (fun r7 M8 => (r7 = r2 → iv_I M8) ∧ (¬ r7 = r2 → False))) → F r2 M3) → P_L_put x1 x x4 M F := by
    intro x4 F hF
    have hok : okV (flt (if x4 = 0 then 9 else 8) x) := flt_ok (by split <;> omega) hx
    unfold P_L_put
    refine s_F_put hx (fun hr => c_0 0 rfl (hF _ _ (s_M_put hx (fun _ M' hk e => ?_) (fun r h8 e => absurd (by rw [e]; exact in_z h8) hr)))) (fun r h8 e M' hk => hF _ _ (s_M_put hx (fun hr => absurd (by rw [e]; exact in_z h8) hr) (fun r' h8' e' M2 hk2 e0 => ?_)))
    · unfold P_M_thrown
      rw [e]
      exact ⟨fun _ => ⟨n, tx, m, ou, rg, iv_no hI (kD.rf M) hk⟩, fun z => z (by decide)⟩
    · have er := z_inj h8 h8' e e'
      subst er
      unfold P_M_thrown
      rw [e0]
      exact ⟨fun _ => ⟨n, tx, m, ou, _, iv_set hI hok hk hk2⟩, fun z => z rfl⟩
  exact ⟨hn, fun z => key 0 _ (fun r2 M3 hp => ⟨hn, fun _ => hp, fun q => absurd z q⟩), fun z => key 1 _ (fun r2 M3 hp => ⟨hn, fun q => absurd q z, fun _ => hp⟩)⟩
