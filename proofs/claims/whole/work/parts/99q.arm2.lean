/-! read: the reference's call; the arm -/
theorem s_M_read {n : Nat} {tx : Nat → Nat} {x1 x2 : Int32} {M : nf_M} {post : Unit → nf_M → Prop} (hT : okT n tx) (hx : txM M n tx) (h0 : ¬ inR x1 ∨ ¬ (0 ≤ x2.toInt ∧ x2.toInt < 10) → ∀ M', kO M M' → mg_I M' 19 0 = 1 → post () M') (h1 : ∀ t r : Nat, t < 10 → r < 8 → x2 = zI t → x1 = zI r → ∀ k c, rd1 n tx t k c → (k = 1 → ∀ M', kO M M' → mg_I M' 19 0 = 2 → post () M') ∧ (k = 4 → ∀ M', kO M M' → mg_I M' 19 0 = 3 → post () M') ∧ (k = 0 → ∀ M', kN r c M M' → mg_I M' 19 0 = 0 → post () (ms_I M' 19 1 0))) : P_M_read x1 x2 M post := by
  have hn := hT.1
  have h18 : (¬ inR x1 ∨ ¬ (0 ≤ x2.toInt ∧ x2.toInt < 10)) → B_M_read_18 post x1 x2 M := fun z => by
    unfold B_M_read_18 B_M_read_23
    intro M1 e1
    have e2 : mg_I M1 19 0 = 1 := by rw [e1]; rfl
    rw [e2]
    exact ⟨fun _ => h0 z M1 (by rw [e1]; exact kO_19 M 0 1 (by decide) (by decide)) e2, fun q => absurd (by decide) q⟩
  unfold P_M_read
  refine s_M_isRegister (fun hr => ⟨fun q => absurd q (by decide), fun _ => ?_⟩) (fun hr => ⟨fun _ => h18 (Or.inl hr), fun q => absurd rfl q⟩)
  rw [i32_lt, i32_lt, t0, show (9 : Int32).toInt = 9 by decide]
  refine ⟨fun z => h18 (Or.inr (by omega)), fun z1 => ⟨fun z => h18 (Or.inr (by omega)), fun z2 => ?_⟩⟩
  obtain ⟨t, ht, et⟩ : ∃ t : Nat, t < 10 ∧ x2 = zI t := ⟨x2.toInt.toNat, by omega, by rw [Int.toNat_of_nonneg (by omega), zI_to]⟩
  obtain ⟨r, hr8, er⟩ : ∃ r : Nat, r < 8 ∧ x1 = zI r := ⟨x1.toInt.toNat, by omega, by rw [Int.toNat_of_nonneg (by omega), zI_to]⟩
  have h := h1 t r ht hr8 et er
  subst et er
  unfold B_M_read_23
  intro Ms es
  have ks : kO M Ms := by rw [es]; exact kO_19 M 0 0 (by decide) (by decide)
  have gs : mg_I Ms 19 0 = 0 := by rw [es]; rfl
  rw [gs]
  refine ⟨fun q => absurd q (by decide), fun _ M2 e2 t3 e3 M4 e4 => ?_⟩
  -- the end
  have h206 : ∀ (v : Int32) (M3 : nf_M), kO M M3 → (v = 0 → ∀ M', kN r (sto (ms_I M3 19 0 0) (zI t)) M M' → mg_I M' 19 0 = 0 → post () (ms_I M' 19 1 0)) → (v ≠ 0 → ∀ M', kO M M' → mg_I M' 19 0 = v → post () M') → B_M_read_206 post (zI r) (zI t) v M3 := by
    intro v M3 k3 g0 g1
    unfold B_M_read_206 B_M_read_227
    intro M5 e5
    have w5 : mg_I M5 19 0 = v := by rw [e5]; rfl
    have k5 : kO M M5 := by rw [e5]; exact k3.tr (kO_19 M3 0 v (by decide) (by decide))
    rw [w5]
    refine ⟨fun q => ?_, fun q => g1 q M5 k5 w5⟩
    subst q
    exact s_M_store hr8 (fun M' hN w M6 e6 => by
      rw [e6]
      refine g0 rfl M' ?_ (w.trans w5)
      rw [e5] at hN k5
      exact k5.N hN)
  have h180 : ∀ (k : Nat) (c : nf_V) (M1 M3 : nf_M), rd1 n tx t k c → kO M M1 → rdM t k c M1 M3 → B_M_read_180 post (zI r) (zI t) M3 := by
    intro k c M1 M3 hrd k1 hM
    obtain ⟨g1, g2, g3⟩ := h k c hrd
    have k3 : kO M M3 := k1.tr hM.1.1
    unfold B_M_read_180
    rcases hM.2 with ⟨q1, q2, q3⟩ | ⟨q1, q2⟩ | ⟨q1, q2⟩
    · rw [q2]
      refine ⟨fun q => absurd q (by decide), fun _ => ⟨fun q => absurd q (by decide), fun _ => h206 0 M3 k3 (fun _ M' hN w => g3 q1 M' ?_ w) (fun q => absurd rfl q)⟩⟩
      rw [q3 0] at hN
      exact hN
    · rw [q2]
      exact ⟨fun _ => h206 2 M3 k3 (fun q => absurd q (by decide)) (fun _ M' kk w => g1 q1 M' kk w), fun q => absurd rfl q⟩
    · rw [q2]
      exact ⟨fun q => absurd q (by decide), fun _ => ⟨fun _ => h206 3 M3 k3 (fun q => absurd q (by decide)) (fun _ M' kk w => g2 q1 M' kk w), fun q => absurd rfl q⟩⟩
  have h155 : ∀ (a b : Nat) (M1 : nf_M), BL n tx a b → atM M1 a b → kO M M1 → B_M_read_155 post (zI r) (zI t) M1 := by
    intro a b M1 hB hA k1
    unfold B_M_read_155
    intro M3 e3
    have k3 : kO M M3 := by rw [e3]; exact k1.tr (kO_19 M1 9 0 (by decide) (by decide))
    have a3 : atM M3 a b := by rw [e3]; exact hA
    have w3 : mg_I M3 19 9 = 0 := by rw [e3]; rfl
    have x3 : txM M3 n tx := k3.1.txm hx
    refine s_M_isExact (fun q => ⟨fun w => absurd w (by decide), fun _ => ?_⟩) (fun q => ⟨fun _ => ?_, fun w => absurd rfl w⟩)
    · rw [z_of (by omega)] at q
      exact s_M_readExact hT x3 hB (by omega) a3 w3 (fun k c M' hrd hM => h180 k c M3 M' hrd k3 hM)
    · rw [z_of (by omega)] at q
      exact s_M_readReal hT x3 hB (by omega) ht a3 w3 (fun k c M' hrd hM => h180 k c M3 M' hrd k3 hM)
  have h100 : ∀ (d a b : Nat) (M1 : nf_M), d + a = b → b ≤ n → (∀ i, i < a → tx i = 32) → (a < n → tx a ≠ 32) → (∀ i, b ≤ i → i < n → tx i = 32) → kO M M1 → atM M1 a b → B_M_read_100 post (d + 1) (zI r) (zI t) M1 := by
    intro d
    induction d with
    | zero =>
      intro a b M1 hr1 hb b1 b2 b3 hk hA
      unfold B_M_read_100
      rw [hA.1, hA.2, zlt (by omega) (by omega)]
      exact ⟨fun q => by omega, fun _ => h155 a b M1 ⟨b1, by omega, b2, by omega, hb, b3, fun q => by omega⟩ hA hk⟩
    | succ d ih =>
      intro a b M1 hr1 hb b1 b2 b3 hk hA
      have h20 := (hk.1.txm hx).2 (b - 1) (by omega)
      have hc := hT.2 (b - 1) (by omega)
      unfold B_M_read_100 B_M_read_136
      rw [hA.1, hA.2, zlt (by omega) (by omega), e1i, zI_sub, show (b : Int) - (1 : Nat) = ((b - 1 : Nat) : Int) by omega]
      refine ⟨fun _ => ⟨fun _ => ⟨z_in (by omega) (by decide), ?_⟩, fun q => by omega⟩, fun q => by omega⟩
      rw [z_cl (by omega), h20, show (32 : Int32) = zI (32 : Nat) by decide, zeq (by omega) (by omega)]
      refine ⟨fun q t2 e2 M3 e3 => ?_, fun q => h155 a b M1 ⟨b1, by omega, b2, by omega, hb, b3, fun _ => q⟩ hA hk⟩
      refine ih a (b - 1) M3 (by omega) (by omega) b1 b2 (fun i hi hi2 => ?_) (by rw [e3]; exact hk.tr (kO_19 M1 16 t2 (by decide) (by decide))) ⟨by rw [e3]; exact hA.1, by rw [e3, e2]; rfl⟩
      by_cases c : i = b - 1
      · rw [c]; exact q
      · exact b3 i (by omega) hi2
  have h47 : ∀ (d a : Nat) (M1 : nf_M), d + a = n → (∀ i, i < a → tx i = 32) → kO M M1 → atM M1 a n → B_M_read_47 post (d + 1) (zI r) (zI t) M1 := by
    intro d
    induction d with
    | zero =>
      intro a M1 hr1 b1 hk hA
      unfold B_M_read_47
      rw [hA.1, hA.2, zlt (by omega) (by omega)]
      exact ⟨fun q => by omega, fun _ => ⟨n - a + 1, h100 (n - a) a n M1 (by omega) (Nat.le_refl _) b1 (fun q => by omega) (fun i a b => by omega) hk hA⟩⟩
    | succ d ih =>
      intro a M1 hr1 b1 hk hA
      have h20 := (hk.1.txm hx).2 a (by omega)
      have hc := hT.2 a (by omega)
      unfold B_M_read_47 B_M_read_81
      rw [hA.1, hA.2, zlt (by omega) (by omega)]
      refine ⟨fun _ => ⟨fun _ => ⟨z_in (by omega) (by decide), ?_⟩, fun q => by omega⟩, fun q => by omega⟩
      rw [z_cl (by omega), h20, show (32 : Int32) = zI (32 : Nat) by decide, zeq (by omega) (by omega), z_s]
      refine ⟨fun q t2 e2 M3 e3 => ?_, fun q => ⟨n - a + 1, h100 (n - a) a n M1 (by omega) (Nat.le_refl _) b1 (fun _ => q) (fun i a b => by omega) hk hA⟩⟩
      refine ih (a + 1) M3 (by omega) (fun i hi => ?_) (by rw [e3]; exact hk.tr (kO_19 M1 15 t2 (by decide) (by decide))) ⟨by rw [e3, e2]; rfl, by rw [e3]; exact hA.2⟩
      by_cases c : i = a
      · rw [c]; exact q
      · exact b1 i (by omega)
  have e1 : mg_I M2 19 1 = zI n := by rw [e2]; exact (ks.1.txm hx).1
  rw [e1] at e3
  refine ⟨n + 1, h47 n 0 M4 (by omega) (fun i hi => absurd hi (Nat.not_lt_zero _)) ?_ ⟨?_, ?_⟩⟩
  · rw [e4, e2]
    exact ks.tr ((kO_19 Ms 15 0 (by decide) (by decide)).tr (kO_19 _ 16 t3 (by decide) (by decide)))
  · rw [e4, e2]; rfl
  · rw [e4, e3]; rfl
theorem iv_read {M M1 M2 : nf_M} {n m r : Nat} {tx ou : Nat → Nat} {rg : Nat → nf_V} {c : nf_V} (h : iv_1 M n tx m ou rg) (hc : okV c) (h1 : kC r c M M1) (h2 : kN r c (ms_N M1 false 0) M2) : iv_1 (ms_I M2 19 1 0) 0 tx m ou (upv rg r c) := by
  have hN : ∀ b, mg_N M2 b = mg_N (ms_N M1 false 0) b := fun b => by unfold mg_N; rw [h2.1.1]
  refine ⟨⟨by omega, fun i hi => absurd hi (Nat.not_lt_zero _)⟩, ⟨(hN false).trans rfl, fun i hi => absurd hi (Nat.not_lt_zero _)⟩, ⟨rfl, fun i hi => absurd hi (Nat.not_lt_zero _)⟩, h.2.2.2.1, ?_, ?_, fun r' hr => ?_⟩
  · have q : rowF (ms_N M1 false 0) true m ou := h1.2.1.row h.2.2.2.2.1
    exact h2.1.row q
  · have q : ouM (ms_N M1 false 0) m ou := kF_ou h1.1 h.2.2.2.2.2.1
    exact h2.1.oum q
  · unfold upv
    have e1 : ∀ v, rgF M2 v = rgF M1 v := fun v => kX_rgF h2.1 v
    by_cases e : r' = r
    · rw [if_pos e, e]
      exact ⟨hc, h2.2.1, (e1 _).trans h1.2.2.1⟩
    · rw [if_neg e]
      exact ⟨(h.2.2.2.2.2.2 r' hr).1, ((h2.2.2 r' hr e).trans (kF_rg h1.1 r')).trans (h.2.2.2.2.2.2 r' hr).2.1, (e1 _).trans ((h1.2.2.2 r' hr e).trans (h.2.2.2.2.2.2 r' hr).2.2)⟩
theorem rd1_k {n t k : Nat} {tx : Nat → Nat} {c : nf_V} (h : rd1 n tx t k c) : k = 0 ∨ k = 1 ∨ k = 4 := by
  obtain ⟨a, b, hB, ⟨a1, a2, a3, a4⟩ | ⟨a1, j, pt, a2, a3⟩⟩ := h
  · omega
  · rcases a3 with ⟨a3, a4⟩ | ⟨E, a3, a4⟩
    · omega
    · rcases a4 with ⟨a1, a2, a3⟩ | ⟨a1, a2, a3, a4⟩ | ⟨a1, a2, a3, a4, a5⟩ | ⟨a1, a2, a3, a4⟩ | ⟨a1, a2, a3, a4⟩ | ⟨a1, a2, a3, a4, a5, a6, a7⟩
      · unfold fitR at a3; omega
      · omega
      · unfold fitR at a5; omega
      · omega
      · omega
      · omega
theorem nf_arm2 (x1 x2 : Int32) (M : nf_M) (h : iv_I M) : P_arm2 x1 x2 M iv_I := by
  obtain ⟨n, tx, m, ou, rg, hI⟩ := h
  show P_L_read x1 x2 M (fun r1 M2 => P_M_read x1 x2 M2 (fun _ M4 => endV r1 M4))
  have hT := hI.1
  unfold P_L_read
  refine s_F_read hT hI.2.1 (fun z => c_0 0 rfl ?_) (fun t r ht hr et er k c hrd => ?_)
  · rw [nI_z]
    refine s_M_read hT hI.2.2.1 (fun _ M' hk e => endV_ok ⟨n, tx, m, ou, rg, iv_no hI (kD.rf M) hk⟩ (e.trans (by decide))) (fun t r ht hr et er => ?_)
    exfalso
    rcases z with z | z
    · exact z (by rw [er]; exact in_z hr)
    · exact z (zin ht (by decide) et)
  · have hno : ∀ z : ¬ inR x1 ∨ ¬ (0 ≤ x2.toInt ∧ x2.toInt < 10), False := fun z => by
      rcases z with z | z
      · exact z (by rw [er]; exact in_z hr)
      · exact z (zin ht (by decide) et)
    have hbad : ∀ (M1 : nf_M) (v : Int32), k ≠ 0 → kD M M1 → (k = 1 → v = 2) → (k = 4 → v = 3) → P_M_read x1 x2 M1 (fun _ M4 => endV v M4) := by
      intro M1 v hk0 k1 v1 v2
      refine s_M_read hT (kF_tx k1.1 hI.2.2.1) (fun z => (hno z).elim) (fun t' r' ht' hr' et' er' k' c' hrd' => ?_)
      have q1 := zinj (by omega) (by omega) et et'
      subst q1
      obtain ⟨q2, q3⟩ := rd1_1 hrd hrd'
      subst q2
      exact ⟨fun q M' hk e => endV_ok ⟨n, tx, m, ou, rg, iv_no hI k1 hk⟩ (e.trans (v1 q).symm), fun q M' hk e => endV_ok ⟨n, tx, m, ou, rg, iv_no hI k1 hk⟩ (e.trans (v2 q).symm), fun q => absurd q hk0⟩
    refine ⟨fun hk0 M1 k1 => ?_, fun hk0 hc M1 k1 => ?_⟩
    · rcases rd1_k hrd with e | e | e
      · omega
      · subst e
        refine c_0 1 rfl ?_
        rw [nI_z]
        exact hbad M1 _ hk0 k1 (fun _ => by decide) (fun q => by omega)
      · subst e
        refine c_0 2 rfl ?_
        rw [nI_z]
        exact hbad M1 _ hk0 k1 (fun q => by omega) (fun _ => by decide)
    · have hx : txM (ms_N M1 false 0) n tx := kF_tx k1.1 hI.2.2.1
      refine s_M_read hT hx (fun z => (hno z).elim) (fun t' r' ht' hr' et' er' k' c' hrd' => ?_)
      have q1 := zinj (by omega) (by omega) et et'
      have q5 := z_inj hr hr' er er'
      subst q1 q5
      obtain ⟨q2, q3⟩ := rd1_1 hrd hrd'
      subst q2
      refine ⟨fun q => by omega, fun q => by omega, fun q M' hN e => endV_ok ⟨0, tx, m, ou, _, iv_read hI hc k1 ?_⟩ e⟩
      rw [q3 q]
      exact hN
