/-! floating reckoning, both sides to one -/
theorem df {X : UInt32} (h : okS X) : FP.d2f (FP.f2d X) = X := by
  rw [FP.f2d_core (a := X) h]
  have h2 : FP.dIsNaN (FP.Core.f2d X) = false := by rw [← FP.f2d_core (a := X) h]; exact okS_D h
  rw [FP.d2f_core h2]
  exact FP.Core.d2f_f2d (okS_val.mp h)
theorem dS {x : UInt64} (h : okD x) : okS (FP.d2f x) := d2f_ok h
def fx (t : Nat) (c : nf_V) : UInt64 := if t = 9 then dbl c else sng (dbl c)
def fop (t op : Nat) (x y : UInt64) : UInt64 := if t = 9 then opD op x y else FP.f2d (opS op (FP.d2f x) (FP.d2f y))
/-- in a float's reckoning both sides are floats -/
def fin8 (t : Nat) (x y : UInt64) : Prop := t = 9 ∨ (t = 8 ∧ ∃ X Y : UInt32, okS X ∧ okS Y ∧ x = FP.f2d X ∧ y = FP.f2d Y)
theorem fop_ok {t op : Nat} {x y : UInt64} (hf : fin8 t x y) (hx : okD x) (hy : okD y) (h : ¬ odd op x y) : okD (fop t op x y) := by
  unfold fop
  rcases hf with e | ⟨e, X, Y, hX, hY, eX, eY⟩
  · rw [if_pos e]
    exact opD_ok hx hy h
  · rw [if_neg (by omega), eX, eY, df hX, df hY]
    rw [eX, eY] at h
    exact okS_D (opS_ok hX hY h)
theorem s_F_doubleAnswer {op : Nat} {x y : UInt64} {M : nf_M} {post : UInt64 → nf_M → Prop} (hop : op < 4) (hx : okD x) (hy : okD y) (h : ¬ odd op x y) (k : post (opD op x y) M) : P_F_doubleAnswer (zI op) x y M post := by
  have ok := (n64 _).mpr (opD_ok hx hy h)
  unfold P_F_doubleAnswer
  rw [zeqI 0 0 (by decide) (by omega) (by omega), zeqI 1 1 (by decide) (by omega) (by omega), zeqI 2 2 (by decide) (by omega) (by omega)]
  have hc : op = 0 ∨ op = 1 ∨ op = 2 ∨ op = 3 := by omega
  rcases hc with rfl | rfl | rfl | rfl
  · exact ⟨fun _ => ⟨ok, k⟩, fun z => absurd rfl z⟩
  · exact ⟨fun z => absurd z (by decide), fun _ => ⟨fun _ => ⟨ok, k⟩, fun z => absurd rfl z⟩⟩
  · exact ⟨fun z => absurd z (by decide), fun _ => ⟨fun z => absurd z (by decide), fun _ => ⟨fun _ => ⟨ok, k⟩, fun z => absurd rfl z⟩⟩⟩
  · exact ⟨fun z => absurd z (by decide), fun _ => ⟨fun z => absurd z (by decide), fun _ => ⟨fun z => absurd z (by decide), fun _ => ⟨ok, k⟩⟩⟩⟩
theorem s_F_floatAnswer {op : Nat} {x y : UInt32} {M : nf_M} {post : UInt32 → nf_M → Prop} (hop : op < 4) (hx : okS x) (hy : okS y) (h : ¬ odd op (FP.f2d x) (FP.f2d y)) (k : post (opS op x y) M) : P_F_floatAnswer (zI op) x y M post := by
  have ok := (n32 _).mpr (opS_ok hx hy h)
  unfold P_F_floatAnswer
  rw [zeqI 0 0 (by decide) (by omega) (by omega), zeqI 1 1 (by decide) (by omega) (by omega), zeqI 2 2 (by decide) (by omega) (by omega)]
  have hc : op = 0 ∨ op = 1 ∨ op = 2 ∨ op = 3 := by omega
  rcases hc with rfl | rfl | rfl | rfl
  · exact ⟨fun _ => ⟨ok, k⟩, fun z => absurd rfl z⟩
  · exact ⟨fun z => absurd z (by decide), fun _ => ⟨fun _ => ⟨ok, k⟩, fun z => absurd rfl z⟩⟩
  · exact ⟨fun z => absurd z (by decide), fun _ => ⟨fun z => absurd z (by decide), fun _ => ⟨fun _ => ⟨ok, k⟩, fun z => absurd rfl z⟩⟩⟩
  · exact ⟨fun z => absurd z (by decide), fun _ => ⟨fun z => absurd z (by decide), fun _ => ⟨fun z => absurd z (by decide), fun _ => ⟨ok, k⟩⟩⟩⟩
theorem s_F_fl67 {t op : Nat} {x y : UInt64} {M : nf_M} {post : Unit → nf_M → Prop} {ex : Nat → nf_M → Prop} (hop : op < 6) (hf : fin8 t x y) (hx : okD x) (hy : okD y) (k3 : odd op x y → ex 3 M) (k4 : ¬ odd op x y → op = 4 → isInf (fop t 4 x y) → ex 3 M) (k5 : ¬ odd op x y → op = 4 → ¬ isInf (fop t 4 x y) → ¬ lo15 (fop t 4 x y) → ex 4 M) (k6 : ¬ odd op x y → op = 4 → ¬ isInf (fop t 4 x y) → lo15 (fop t 4 x y) → ∀ M', kZ 0 (1, FP.d2l (fop t 4 x y), 0, 0) M M' → post () M') (k : ¬ odd op x y → op ≠ 4 → ∀ M', kZ 0 (zI t, 0, 0, fop t op x y) M M' → post () M') : B_F_reckonFloating_67 post ex (zI op) (zI t) x y M := by
  have h89 : t = 8 ∨ t = 9 := by rcases hf with e | e <;> omega
  unfold B_F_reckonFloating_67
  refine s_F_isNoNumber hop hx hy (fun o => ⟨fun z => absurd z (by decide), fun _ => k3 o⟩) (fun o => ⟨fun _ => ?_, fun z => absurd rfl z⟩)
  have hfop := fop_ok hf hx hy o
  rw [zeqI 4 4 (by decide) (by omega) (by omega), zeqI 5 5 (by decide) (by omega) (by omega), zeqI 9 9 (by decide) (by omega) (by omega)]
  have hkZ : ∀ {r : UInt64} {M' : nf_M}, okD r → flt t r = (zI t, 0, 0, fop t op x y) → kW 0 (flt t r) M M' → kZ 0 (zI t, 0, 0, fop t op x y) M M' := fun _ e hk => ⟨M, kD.rf M, by rw [← e]; exact hk⟩
  unfold B_F_reckonFloating_200 B_F_reckonFloating_120
  refine ⟨fun z4 => ?_, fun n4 => ⟨fun z5 => ?_, fun n5 => ⟨fun z9 => ?_, fun n9 => ?_⟩⟩⟩
  · subst z4
    have hw := s_F_wholePartOf (post := post) (ex := ex) (M := M) hfop (k4 o rfl) (k5 o rfl) (k6 o rfl)
    refine ⟨fun z9 => ?_, fun n9 => ?_⟩
    · subst z9
      exact ⟨(n64 _).mpr hfop, hw⟩
    · obtain ⟨e8, X, Y, hX, hY, eX, eY⟩ : t = 8 ∧ ∃ X Y : UInt32, okS X ∧ okS Y ∧ x = FP.f2d X ∧ y = FP.f2d Y := hf.resolve_left n9
      subst e8
      have n1 : okS (FP.fdiv (FP.d2f x) (FP.d2f y)) := by
        rw [eX, eY, df hX, df hY]
        rw [eX, eY] at o
        exact opS_ok (op := 4) hX hY o
      exact ⟨d2f_n hx, d2f_n hy, (n32 _).mpr n1, f2d_n n1, hw⟩
  · subst z5
    have hix : ¬ isInf x := fun q => o (Or.inl q)
    have hzy : ¬ zv y = 0 := fun q => o (Or.inr q)
    have hab := dab_ok hy
    have e := drem_ab hx hy o
    refine s_F_amount hy (s_F_floatingRest ((fin_big hx).mpr hix) hab.1 (by rw [hab.2]; omega) ?_)
    have hrok : okD (FP.Core.drem x (dab y)) := by rw [e]; exact opD_ok (op := 5) hx hy o
    refine s_V_becomeFloating h89 hrok (fun M' hk => k o (by omega) M' (hkZ hrok ?_ hk))
    unfold flt
    rcases hf with e9 | ⟨e8, X, Y, hX, hY, eX, eY⟩
    · rw [if_neg (by omega), e]
      unfold fop
      rw [if_pos e9]
      rfl
    · rw [if_pos e8, e8]
      unfold fop
      rw [if_neg (by omega), eX, eY, df hX, df hY]
      rw [eX, eY] at o
      have e3 : FP.d2f (FP.f2d (FP.frem X Y)) = FP.frem X Y := df (opS_ok (op := 5) hX hY o)
      rw [← frem_d hX hY o, e3]
      rfl
  · subst z9
    refine s_F_doubleAnswer (by omega) hx hy o (s_V_becomeFloating (Or.inr rfl) (opD_ok hx hy o) (fun M' hk => k o n4 M' (hkZ (opD_ok hx hy o) ?_ hk)))
    unfold flt fop
    rw [if_neg (by omega), if_pos rfl]
  · obtain ⟨e8, X, Y, hX, hY, eX, eY⟩ : t = 8 ∧ ∃ X Y : UInt32, okS X ∧ okS Y ∧ x = FP.f2d X ∧ y = FP.f2d Y := hf.resolve_left n9
    subst e8
    have o2 : ¬ odd op (FP.f2d (FP.d2f x)) (FP.f2d (FP.d2f y)) := by
      rw [eX, eY, df hX, df hY, ← eX, ← eY]
      exact o
    have ok2 := opS_ok (dS hx) (dS hy) o2
    refine ⟨d2f_n hx, d2f_n hy, s_F_floatAnswer (by omega) (dS hx) (dS hy) o2 ⟨f2d_n ok2, s_V_becomeFloating (Or.inl rfl) (okS_D ok2) (fun M' hk => k o n4 M' (hkZ (okS_D ok2) ?_ hk))⟩⟩
    unfold flt fop
    rw [if_pos rfl, if_neg (by omega), df ok2]
    rfl
theorem fx8 {t : Nat} {c d : nf_V} (h89 : t = 8 ∨ t = 9) (hc : okD (dbl c)) (hd : okD (dbl d)) : fin8 t (fx t c) (fx t d) ∧ okD (fx t c) ∧ okD (fx t d) := by
  rcases h89 with rfl | rfl
  · refine ⟨Or.inr ⟨rfl, _, _, dS hc, dS hd, ?_, ?_⟩, ?_, ?_⟩
    · rfl
    · rfl
    · exact okS_D (dS hc)
    · exact okS_D (dS hd)
  · exact ⟨Or.inl rfl, hc, hd⟩
theorem s_F_reckonFloating {t op : Nat} {v w : Fin 9} {c d : nf_V} {M : nf_M} {post : Unit → nf_M → Prop} {ex : Nat → nf_M → Prop} (hop : op < 6) (hc : rgF M v = c) (hd : rgF M w = d) (vc : okV c) (vd : okV d) (fc : 0 ≤ c.1.toInt) (fd : 0 ≤ d.1.toInt) (ht : (t = 9 ∧ (c.1.toInt = 9 ∨ d.1.toInt = 9)) ∨ (t = 8 ∧ ¬ (c.1.toInt = 9 ∨ d.1.toInt = 9))) (k3 : odd op (fx t c) (fx t d) → ex 3 M) (k4 : ¬ odd op (fx t c) (fx t d) → op = 4 → isInf (fop t 4 (fx t c) (fx t d)) → ex 3 M) (k5 : ¬ odd op (fx t c) (fx t d) → op = 4 → ¬ isInf (fop t 4 (fx t c) (fx t d)) → ¬ lo15 (fop t 4 (fx t c) (fx t d)) → ex 4 M) (k6 : ¬ odd op (fx t c) (fx t d) → op = 4 → ¬ isInf (fop t 4 (fx t c) (fx t d)) → lo15 (fop t 4 (fx t c) (fx t d)) → ∀ M', kZ 0 (1, FP.d2l (fop t 4 (fx t c) (fx t d)), 0, 0) M M' → post () M') (k : ¬ odd op (fx t c) (fx t d) → op ≠ 4 → ∀ M', kZ 0 (zI t, 0, 0, fop t op (fx t c) (fx t d)) M M' → post () M') : P_F_reckonFloating (zI op) v w M post ex := by
  have hcd := dbl_ok vc fc
  have hdd := dbl_ok vd fd
  have h89 : t = 8 ∨ t = 9 := by omega
  obtain ⟨f1, f2, f3⟩ := fx8 h89 hcd hdd
  have h67 := s_F_fl67 hop f1 f2 f3 k3 k4 k5 k6 k
  have tc : mg_T M v = c.1 := congrArg (fun c : nf_V => c.1) hc
  have td : mg_T M w = d.1 := congrArg (fun c : nf_V => c.1) hd
  have i9 : ∀ y : Int32, y = 9 ↔ y.toInt = 9 := fun y => ⟨fun z => by rw [z]; decide, fun z => (i32_of z).trans (by decide)⟩
  unfold P_F_reckonFloating
  rw [tc, td, i9, i9]
  have h18 : t = 9 → B_F_reckonFloating_18 post ex (zI op) v w M := fun z => by
    subst z
    unfold B_F_reckonFloating_18 B_F_reckonFloating_25 B_F_reckonFloating_46
    exact ⟨fun _ => s_V_asDouble hc vc fc ⟨fun _ => s_V_asDouble hd vd fd h67, fun z => absurd rfl z⟩, fun z => absurd rfl z⟩
  refine ⟨fun z => h18 (by omega), fun z => ⟨fun z2 => h18 (by omega), fun z2 => ?_⟩⟩
  have e8 : t = 8 := by omega
  subst e8
  unfold B_F_reckonFloating_25 B_F_reckonFloating_46
  exact ⟨fun z => absurd z (by decide), fun _ => s_V_asFloat hc vc fc ⟨sng_n hcd, fun z => absurd z (by decide), fun _ => s_V_asFloat hd vd fd ⟨sng_n hdd, h67⟩⟩⟩
theorem s_M_reckonDouble {op : Nat} {x y : UInt64} {M : nf_M} {post : Unit → nf_M → Prop} (hop : op < 6) (hx : okD x) (hy : okD y) (k3 : odd op x y → post () (ms_I M 19 9 4)) (k4 : ¬ odd op x y → op = 4 → isInf (fop 9 4 x y) → post () (ms_I M 19 9 4)) (k5 : ¬ odd op x y → op = 4 → ¬ isInf (fop 9 4 x y) → ¬ lo15 (fop 9 4 x y) → post () (ms_I M 19 9 5)) (k6 : ¬ odd op x y → op = 4 → ¬ isInf (fop 9 4 x y) → lo15 (fop 9 4 x y) → post () (ms_I (ms_L M 19 10 (FP.d2l (fop 9 4 x y))) 19 11 0)) (k : ¬ odd op x y → op ≠ 4 → post () (ms_D M 19 12 (fop 9 op x y))) : P_M_reckonDouble (zI op) x y M post := by
  unfold P_M_reckonDouble B_M_reckonDouble_86 B_M_reckonDouble_89
  refine s_M_isOdd hop hx hy (fun o => ⟨fun z => absurd z (by decide), fun _ M1 e1 => by rw [e1]; exact k3 o⟩) (fun o => ⟨fun _ => ?_, fun z => absurd rfl z⟩)
  have ok := opD_ok hx hy o
  have nk := (n64 _).mpr ok
  have k := k o
  rw [zeqI 4 4 (by decide) (by omega) (by omega), zeqI 0 0 (by decide) (by omega) (by omega), zeqI 1 1 (by decide) (by omega) (by omega), zeqI 2 2 (by decide) (by omega) (by omega), zeqI 3 3 (by decide) (by omega) (by omega)]
  refine ⟨fun z => ?_, fun n4 => ⟨fun z => ?_, fun n0 => ⟨fun z => ?_, fun n1 => ⟨fun z => ?_, fun n2 => ⟨fun z => ?_, fun n3 => ?_⟩⟩⟩⟩⟩
  · subst z
    exact ⟨nk, s_M_wholePart ok (k4 o rfl) (k5 o rfl) (k6 o rfl)⟩
  · subst z
    exact ⟨nk, fun M1 e1 => by rw [e1]; exact k n4⟩
  · subst z
    exact ⟨nk, fun M1 e1 => by rw [e1]; exact k n4⟩
  · subst z
    exact ⟨nk, fun M1 e1 => by rw [e1]; exact k n4⟩
  · subst z
    exact ⟨nk, fun M1 e1 => by rw [e1]; exact k n4⟩
  · have : op = 5 := by omega
    subst this
    exact ⟨nk, fun M1 e1 => by rw [e1]; exact k n4⟩
theorem s_M_reckonFloat {op : Nat} {X Y : UInt32} {x y : UInt64} {M : nf_M} {post : Unit → nf_M → Prop} (hop : op < 6) (hX : okS X) (hY : okS Y) (ex : x = FP.f2d X) (ey : y = FP.f2d Y) (k3 : odd op x y → post () (ms_I M 19 9 4)) (k4 : ¬ odd op x y → op = 4 → isInf (fop 8 4 x y) → post () (ms_I M 19 9 4)) (k5 : ¬ odd op x y → op = 4 → ¬ isInf (fop 8 4 x y) → ¬ lo15 (fop 8 4 x y) → post () (ms_I M 19 9 5)) (k6 : ¬ odd op x y → op = 4 → ¬ isInf (fop 8 4 x y) → lo15 (fop 8 4 x y) → post () (ms_I (ms_L M 19 10 (FP.d2l (fop 8 4 x y))) 19 11 0)) (k : ¬ odd op x y → op ≠ 4 → post () (ms_D M 19 12 (fop 8 op x y))) : P_M_reckonFloat (zI op) X Y M post := by
  have hx := okS_D hX
  have hy := okS_D hY
  subst ex ey
  unfold P_M_reckonFloat B_M_reckonFloat_85 B_M_reckonFloat_94
  refine ⟨f2d_n hX, f2d_n hY, s_M_isOdd hop hx hy (fun o => ⟨fun z => absurd z (by decide), fun _ M1 e1 => by rw [e1]; exact k3 o⟩) (fun o => ⟨fun _ => ?_, fun z => absurd rfl z⟩)⟩
  have ok := opS_ok hX hY o
  have nk := (n32 _).mpr ok
  have nd := f2d_n ok
  have ef : ∀ op', fop 8 op' (FP.f2d X) (FP.f2d Y) = FP.f2d (opS op' X Y) := fun op' => by
    unfold fop
    rw [if_neg (by decide), df hX, df hY]
  rw [ef] at k4 k5 k6 k
  have k := k o
  rw [zeqI 4 4 (by decide) (by omega) (by omega), zeqI 0 0 (by decide) (by omega) (by omega), zeqI 1 1 (by decide) (by omega) (by omega), zeqI 2 2 (by decide) (by omega) (by omega), zeqI 3 3 (by decide) (by omega) (by omega)]
  refine ⟨fun z => ?_, fun n4 => ⟨fun z => ?_, fun n0 => ⟨fun z => ?_, fun n1 => ⟨fun z => ?_, fun n2 => ⟨fun z => ?_, fun n3 => ?_⟩⟩⟩⟩⟩
  · subst z
    exact ⟨nk, fun t6 e6 => by rw [e6]; exact ⟨nd, s_M_wholePart (okS_D ok) (k4 o rfl) (k5 o rfl) (k6 o rfl)⟩⟩
  · subst z
    exact ⟨nk, nd, fun t2 e2 M1 e1 => by rw [e1, e2]; exact k n4⟩
  · subst z
    exact ⟨nk, nd, fun t2 e2 M1 e1 => by rw [e1, e2]; exact k n4⟩
  · subst z
    exact ⟨nk, nd, fun t2 e2 M1 e1 => by rw [e1, e2]; exact k n4⟩
  · subst z
    exact ⟨nk, nd, fun t2 e2 M1 e1 => by rw [e1, e2]; exact k n4⟩
  · have : op = 5 := by omega
    subst this
    exact ⟨nk, nd, fun t2 e2 M1 e1 => by rw [e1, e2]; exact k n4⟩
