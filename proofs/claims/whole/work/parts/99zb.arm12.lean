/-! picture: the arm -/
theorem pic1_k {A : nf_V} {np : Prop} {k s : Nat} {u : Int} (h : pic1 A np k u s) : k = 0 ∨ k = 3 ∨ k = 4 := by
  obtain ⟨k0, c, hc, h⟩ := h
  have h5 : k0 = 0 ∨ k0 = 3 ∨ k0 = 4 := by
    rcases hc with ⟨h1, h2, h3⟩ | ⟨h1, h2, h3⟩ | ⟨h1, ta, p, a, oa, eA, h⟩ | ⟨h1, ta, x, ht, hx, eA, h⟩
    · omega
    · omega
    · unfold fitOut at h; omega
    · rcases h with ⟨a1, a2⟩ | ⟨a1, a2, a3⟩ | ⟨a1, a2, a3, u, a4, a5, a6⟩ | ⟨a1, a2, a3, a4, n, a5, a6⟩
      · omega
      · omega
      · unfold fitOut at a6; omega
      · omega
  rcases h with ⟨a1, a2⟩ | ⟨a1, u0, s0, o, ec, hp⟩
  · omega
  · rcases hp with ⟨y1, y2, y3, y4⟩ | ⟨y1, y2, y3, y4, y5⟩ | ⟨y1, y2, y3⟩ <;> omega
theorem nf_arm12 (x1 : Int32) (M : nf_M) (h : iv_I M) : P_arm12 x1 M iv_I := by
  obtain ⟨n, tx, m, ou, rg, hI⟩ := h
  have hv0 : vp_in (0 : Int32) 1 := by rw [vp_in_iff]; decide
  show P_L_picture x1 M (fun r1 M2 => P_M_picture x1 M2 (fun r3 M4 => endL r1 r3 M4))
  have hT := hI.1
  have hv := iv_ok hI
  have thr : ∀ (M0 : nf_M) (v r3 : Int32), iv_1 M0 n tx m ou rg → ¬ v = 0 → endL v r3 (ms_I M0 19 0 v) := fun M0 v r3 h0 hn => end_thr ⟨n, tx, m, ou, rg, iv_scr h0 v⟩ (ms_199 M0 0 v) hn
  unfold P_L_picture
  refine s_F_picture hT hI.2.1 (iv_cv hI) hv (fun M' k7' => iv_cv (iv_7 hI k7')) (fun z => c_0 0 rfl ?_) (fun r hr8 er z => c_0 1 rfl ?_) (fun r hr8 er fa hno M6 k6 => c_0 2 rfl ?_) (fun r hr8 er fa h W a b p ok M6 k6 k u s hp => ?_)
  · rw [nI_z]
    refine s_M_picture hT hI.2.2.1 (iv_mv hI) hv (fun _ M' e => ?_) (fun r hr8 er _ => absurd (by rw [er]; exact in_z hr8) z) (fun r hr8 er _ _ => absurd (by rw [er]; exact in_z hr8) z) (fun r hr8 er _ => absurd (by rw [er]; exact in_z hr8) z)
    rw [e]
    exact thr M 1 0 hI (by decide)
  · rw [nI_z]
    refine s_M_picture hT hI.2.2.1 (iv_mv hI) hv (fun z2 => absurd (by rw [er]; exact in_z hr8) z2) (fun r' hr8' er' _ M' e => ?_) (fun r' hr8' er' fa => ?_) (fun r' hr8' er' fa => ?_)
    · rw [e]
      exact thr M 2 0 hI (by decide)
    · have q1 := z_inj hr8 hr8' er er'
      subst q1
      omega
    · have q1 := z_inj hr8 hr8' er er'
      subst q1
      omega
  · rw [nI_z]
    have hI6 := iv_7 hI k6
    refine s_M_picture hT hI6.2.2.1 (iv_mv hI6) hv (fun z2 => absurd (by rw [er]; exact in_z hr8) z2) (fun r' hr8' er' z2 => ?_) (fun r' hr8' er' fa' _ M' hk M7 e7 => ?_) (fun r' hr8' er' fa' h W a b p ok => absurd ok (hno h W a b p))
    · exfalso
      have q1 := z_inj hr8 hr8' er er'
      subst q1
      omega
    · rw [e7]
      exact thr M' 3 0 (iv_V (iv_scr hI6 0) hk) (by decide)
  · have hI6 := iv_7 hI k6
    refine ⟨fun hk0 M1 k1 => ?_, fun hk0 o M1 k1 w1 t3 e3 => ⟨hv0, fun M5 e5 => ?_⟩⟩
    · have hI1 : iv_1 M1 n tx m ou rg := iv_no hI6 k1 (kO.rf M1)
      have key : ∀ v : Int32, v = zI (k + 1 : Nat) → P_M_picture x1 M1 (fun r3 M4 => endL v r3 M4) := by
        intro v ev
        refine s_M_picture hT hI1.2.2.1 (iv_mv hI1) hv (fun z2 => absurd (by rw [er]; exact in_z hr8) z2) (fun r' hr8' er' z2 => ?_) (fun r' hr8' er' fa' hno M' hk M7 e7 => absurd ok (hno h W a b p)) (fun r' hr8' er' fa' h' W' a' b' p' ok' k' u' s' hp' => ?_)
        · exfalso
          have q1 := z_inj hr8 hr8' er er'
          subst q1
          omega
        · have q1 := z_inj hr8 hr8' er er'
          subst q1
          obtain ⟨i1, i2, i3, i4⟩ := PIc_1 p p'
          subst i1 i2 i3 i4
          obtain ⟨j1, j2⟩ := pic1_1 hp hp'
          subst j1
          refine ⟨fun _ M5 M6 hk5 hk6 M' e' => ?_, fun q => absurd q hk0⟩
          rw [e', ev]
          refine thr M6 _ 0 (iv_no (iv_V (iv_scr hI1 0) hk5) (kD.rf M5) hk6) ?_
          have := pic1_k hp
          rw [z0' (by omega)]
          omega
      rcases pic1_k hp with e | e | e
      · omega
      · subst e
        exact c_0 3 rfl (by rw [nI_z]; exact key _ rfl)
      · subst e
        exact c_0 4 rfl (by rw [nI_z]; exact key _ rfl)
    · have hok : (picF n tx h W a b u s).length ≤ 128 ∧ ∀ c ∈ picF n tx h W a b u s, c ≤ 126 := by
        obtain ⟨d1, d2, d3⟩ := dzr_ok (p := b - (h + W) - 1) o
        exact picL_ok hT p (by omega) d2
      rw [show (0 : Int32).toNatClampNeg = 0 by decide] at e5
      have m5 : mv M5 rg := fun i hi => by
        rw [e5]
        show rgM M1 i = _
        exact kE_mv hI6 k1.1 i hi
      have x5 : txM M5 n tx := by
        rw [e5]
        exact kF_tx k1.1 hI6.2.2.1
      refine s_M_picture hT x5 m5 hv (fun z2 => absurd (by rw [er]; exact in_z hr8) z2) (fun r' hr8' er' z2 => ?_) (fun r' hr8' er' fa' hno M' hk M7 e7 => absurd ok (hno h W a b p)) (fun r' hr8' er' fa' h' W' a' b' p' ok' k' u' s' hp' => ?_)
      · exfalso
        have q1 := z_inj hr8 hr8' er er'
        subst q1
        omega
      · have q1 := z_inj hr8 hr8' er er'
        subst q1
        obtain ⟨i1, i2, i3, i4⟩ := PIc_1 p p'
        subst i1 i2 i3 i4
        obtain ⟨j1, j2⟩ := pic1_1 hp hp'
        obtain ⟨j3, j4⟩ := j2 hk0
        subst j1 j3 j4
        refine ⟨fun q => absurd hk0 q, fun _ _ M' hk e0 ho => ?_⟩
        rw [e5] at hk
        refine end_ok ⟨n, tx, _, _, rg, iv_outp hI6 k1 w1 hk ho hok.1 hok.2⟩ e0 ?_
        have e27 : mg_L M' 27 = mg_L (ms_L M1 27 0 t3) 27 := hk.2.2.2.1
        rw [e27, e3]
        rfl
