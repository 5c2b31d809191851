/-! compare -/
theorem pow_lt19 {k : Nat} (h : k < 19) : 10 ^ k ≤ 10 ^ 18 := Nat.pow_le_pow_right (by decide) (by omega)
def pw (k : Nat) : Int64 := lN (10 ^ k)
theorem pw_z (k : Nat) : pw k = zL (10 ^ k : Nat) := lN_z _
theorem pw_ti {k : Nat} (h : k < 19) : (pw k).toInt = (10 ^ k : Nat) := by
  have := pow_lt19 h
  rw [pw_z]
  generalize 10 ^ k = p at this ⊢
  rw [zL_ti (by omega) (by omega)]
theorem pw_ne {k : Nat} (h : k < 19) : ¬ pw k = 0 := fun z => by
  have h1 := congrArg Int64.toInt z
  rw [pw_ti h] at h1
  have h2 : (0 : Int64).toInt = 0 := by decide
  have h3 : 0 < 10 ^ k := Nat.pow_pos (by decide)
  omega
theorem pow_get : ∀ k, k < 16 → nf_POW.getD k 0 = pw k := by decide +kernel
theorem s_F_power {k : Nat} {M : nf_M} {post : Int64 → nf_M → Prop} (hk : k < 16) (h : post (pw k) M) : P_F_power (zI k) M post := by
  have e16 : (16 : Int32) = zI (16 : Nat) := by decide
  unfold P_F_power B_F_power_20 B_F_power_21
  rw [i32_lt, t0, z_of (by omega), e16, zlt (by omega) (by omega), z_cl (by omega), pow_get k hk]
  exact ⟨fun z => by omega, fun _ => ⟨fun _ => ⟨z_in hk (by omega), h⟩, fun z => absurd hk z⟩⟩
theorem s_F_over {a b : Int64} {M : nf_M} {post : Int64 → nf_M → Prop} (hb : ¬ b = 0) (h : post (a / b) M) : P_F_over a b M post := by
  unfold P_F_over B_F_over_13
  exact ⟨fun z => absurd z hb, fun z => ⟨z, h⟩⟩
theorem s_F_left {a b : Int64} {M : nf_M} {post : Int64 → nf_M → Prop} (hb : ¬ b = 0) (h : post (a - a / b * b) M) : P_F_left a b M post := by
  unfold P_F_left B_F_left_13
  exact ⟨fun z => absurd z hb, fun z => ⟨z, h⟩⟩
def ordL (a b : Int64) : Int32 := if a < b then -1 else if a = b then 0 else 1
theorem s_JL_compare {a b : Int64} {M : nf_M} {post : Int32 → nf_M → Prop} (h : post (ordL a b) M) : P_JL_compare a b M post := by
  unfold P_JL_compare B_JL_compare_21
  unfold ordL at h
  refine ⟨fun z => ?_, fun z => ⟨fun z2 => ?_, fun z2 => ?_⟩⟩
  · rw [if_pos z] at h; exact h
  · rw [if_neg z, if_pos z2] at h; exact h
  · rw [if_neg z, if_neg z2] at h; exact h
def ordD (a b : UInt64) : Int32 := if FP.Core.dcmp a b = some .lt then -1 else if FP.Core.dcmp a b = some .gt then 1 else 0
theorem s_F_order {a b : UInt64} {M : nf_M} {post : Int32 → nf_M → Prop} (h : post (ordD a b) M) : P_F_order a b M post := by
  unfold P_F_order B_F_order_21
  unfold ordD at h
  unfold nf_dlt nf_dgt
  refine ⟨fun z => ?_, fun z => ⟨fun z2 => ?_, fun z2 => ?_⟩⟩
  · rw [if_pos z] at h; exact h
  · rw [if_neg z, if_pos z2] at h; exact h
  · rw [if_neg z, if_neg z2] at h; exact h
def sc (c : nf_V) : Nat := c.2.2.1.toInt.toNat
def who (c : nf_V) : Int64 := c.2.1 / pw (sc c)
def fra (c : nf_V) : Int64 := (c.2.1 - c.2.1 / pw (sc c) * pw (sc c)) * pw (6 - sc c)
def ordE (a b : nf_V) : Int32 := if ordL (who a) (who b) = 0 then ordL (fra a) (fra b) else ordL (who a) (who b)
def sng (x : UInt64) : UInt64 := FP.f2d (FP.d2f x)
def isE (c : nf_V) : Prop := 0 ≤ c.1.toInt ∧ c.1.toInt < 8
theorem okV_E {c : nf_V} (hv : okV c) (h : isE c) : ∃ (u : Int) (s : Nat), okE c.1.toInt.toNat u s ∧ c.2.1 = zL u ∧ c.2.2.1 = zI s ∧ sc c = s ∧ s ≤ 6 ∧ c.2.2.2 = 0 := by
  have h1 := h.1
  have h2 := h.2
  rcases okV_T hv with q | ⟨-, -, u, s, q4, q5⟩ | q
  · omega
  · have h6 := q4.2.2.2.1
    have hs : c.2.2.1 = zI s := by rw [q5]
    refine ⟨u, s, q4, by rw [q5], hs, ?_, h6, by rw [q5]⟩
    unfold sc
    rw [hs, z_of (by omega)]
    rfl
  · omega
theorem s_F_fraction {v : Fin 9} {M : nf_M} {c : nf_V} {post : Int64 → nf_M → Prop} (hc : rgF M v = c) (hv : okV c) (hE : isE c) (h : post (fra c) M) : P_F_fraction v M post := by
  obtain ⟨u, s, -, eu, es, e3, h6, -⟩ := okV_E hv hE
  have hu : mg_U M v = c.2.1 := congrArg (fun c : nf_V => c.2.1) hc
  have hs : mg_S M v = zI s := (congrArg (fun c : nf_V => c.2.2.1) hc).trans es
  unfold P_F_fraction
  unfold fra at h
  rw [e3] at h
  rw [hs, hu]
  refine s_F_power (by omega) (s_F_left (pw_ne (by omega)) ?_)
  rw [hs, show (6 : Int32) = zI (6 : Nat) by decide, zI_sub, show ((6 : Nat) : Int) - (s : Int) = ((6 - s : Nat) : Int) by omega]
  exact s_F_power (by omega) h
theorem s_F_exactOrder {v w : Fin 9} {M : nf_M} {a b : nf_V} {post : Int32 → nf_M → Prop} (ha : rgF M v = a) (hb : rgF M w = b) (va : okV a) (vb : okV b) (hEa : isE a) (hEb : isE b) (h : post (ordE a b) M) : P_F_exactOrder v w M post := by
  obtain ⟨u, s, -, eu, es, e3, h6, -⟩ := okV_E va hEa
  obtain ⟨u', s', -, eu', es', e3', h6', -⟩ := okV_E vb hEb
  have hu : mg_U M v = a.2.1 := congrArg (fun c : nf_V => c.2.1) ha
  have hs : mg_S M v = zI s := (congrArg (fun c : nf_V => c.2.2.1) ha).trans es
  have hu' : mg_U M w = b.2.1 := congrArg (fun c : nf_V => c.2.1) hb
  have hs' : mg_S M w = zI s' := (congrArg (fun c : nf_V => c.2.2.1) hb).trans es'
  unfold P_F_exactOrder B_F_exactOrder_51
  rw [hs, hu]
  refine s_F_power (by omega) (s_F_over (pw_ne (by omega)) ?_)
  rw [hs', hu']
  refine s_F_power (by omega) (s_F_over (pw_ne (by omega)) (s_JL_compare ?_))
  unfold ordE who at h
  rw [e3, e3'] at h
  refine ⟨fun z => ?_, fun z => ?_⟩
  · rw [if_pos z] at h
    exact s_F_fraction ha va hEa (s_F_fraction hb vb hEb (s_JL_compare h))
  · rw [if_neg z] at h
    exact h
/-- what compare answers -/
def cmpV (a b : nf_V) : Int32 := if a.1.toInt = 9 ∨ b.1.toInt = 9 then ordD (dbl a) (dbl b) else if a.1.toInt = 8 ∨ b.1.toInt = 8 then ordD (sng (dbl a)) (sng (dbl b)) else ordE a b
theorem i32_of {x : Int32} {k : Int} (h : x.toInt = k) : x = zI k := by rw [← h, zI_to]
theorem sng_n {x : UInt64} (h : okD x) : vf_n64 (sng x) := f2d_n (d2f_ok h)
theorem s_F_compare {x1 x2 : Int32} {M : nf_M} {rg : Nat → nf_V} {post : Int32 → nf_M → Prop} {ex : Nat → nf_M → Prop} (hc : cv M rg) (hv : okR rg) (h0 : ¬ inR x1 ∨ ¬ inR x2 → ex 0 M) (h2 : ∀ a b : Nat, a < 8 → b < 8 → x1 = zI a → x2 = zI b → (rg a).1.toInt = -1 ∨ (rg b).1.toInt = -1 → ex 2 M) (h1 : ∀ a b : Nat, a < 8 → b < 8 → x1 = zI a → x2 = zI b → 0 ≤ (rg a).1.toInt → 0 ≤ (rg b).1.toInt → post (cmpV (rg a) (rg b)) M) : P_F_compare x1 x2 M post ex := by
  unfold P_F_compare
  refine s_F_register (fun a ha ea => s_F_register (fun b hb eb => s_F_checkFull (hc a ha) (hv a ha) (fun fa => s_F_checkFull (hc b hb) (hv b hb) (fun fb => ?_) (fun z => h2 a b ha hb ea eb (Or.inr z))) (fun z => h2 a b ha hb ea eb (Or.inl z))) (fun z => h0 (Or.inr z))) (fun z => h0 (Or.inl z))
  have h := h1 a b ha hb ea eb fa fb
  have ta : mg_T M (rgn a) = (rg a).1 := congrArg (fun c : nf_V => c.1) (hc a ha)
  have tb : mg_T M (rgn b) = (rg b).1 := congrArg (fun c : nf_V => c.1) (hc b hb)
  have i9 : ∀ y : Int32, y = 9 ↔ y.toInt = 9 := fun y => ⟨fun z => by rw [z]; decide, fun z => (i32_of z).trans (by decide)⟩
  have i8 : ∀ y : Int32, y = 8 ↔ y.toInt = 8 := fun y => ⟨fun z => by rw [z]; decide, fun z => (i32_of z).trans (by decide)⟩
  rw [ta, tb]
  simp only [i9, i8]
  unfold cmpV at h
  have va := hv a ha
  have vb := hv b hb
  have h41 : (rg a).1.toInt = 9 ∨ (rg b).1.toInt = 9 → B_F_compare_41 post ex (rgn a) (rgn b) M := fun z => by
    rw [if_pos z] at h
    unfold B_F_compare_41
    exact s_V_asDouble (hc a ha) va fa (s_V_asDouble (hc b hb) vb fb (s_F_order h))
  have h73 : ¬ ((rg a).1.toInt = 9 ∨ (rg b).1.toInt = 9) → (rg a).1.toInt = 8 ∨ (rg b).1.toInt = 8 → B_F_compare_73 post ex (rgn a) (rgn b) M := fun z z2 => by
    rw [if_neg z, if_pos z2] at h
    unfold B_F_compare_73
    exact s_V_asFloat (hc a ha) va fa ⟨sng_n (dbl_ok va fa), s_V_asFloat (hc b hb) vb fb ⟨sng_n (dbl_ok vb fb), s_F_order h⟩⟩
  refine ⟨fun z => h41 (Or.inl z), fun z => ⟨fun z2 => h41 (Or.inr z2), fun z2 => ⟨fun z3 => h73 (by omega) (Or.inl z3), fun z3 => ⟨fun z4 => h73 (by omega) (Or.inr z4), fun z4 => ?_⟩⟩⟩⟩
  rw [if_neg (by omega), if_neg (by omega)] at h
  have ra : (rg a).1.toInt ≤ 9 := by rcases okV_T va with q | q | q <;> omega
  have rb : (rg b).1.toInt ≤ 9 := by rcases okV_T vb with q | q | q <;> omega
  exact s_F_exactOrder (hc a ha) (hc b hb) va vb ⟨fa, by omega⟩ ⟨fb, by omega⟩ h
/-- the type that two registers have in common -/
def com (a b : nf_V) : Int := if a.1.toInt = 9 ∨ b.1.toInt = 9 then 9 else if a.1.toInt = 8 ∨ b.1.toInt = 8 then 8 else if 0 < a.1.toInt ∧ 0 < b.1.toInt then 1 else 0
theorem ty9 {c : nf_V} (hv : okV c) : -1 ≤ c.1.toInt ∧ c.1.toInt ≤ 9 := by rcases okV_T hv with q | q | q <;> omega
theorem s_M_common {a b : Nat} {M : nf_M} {rg : Nat → nf_V} {post : Int32 → nf_M → Prop} (hc : mv M rg) (hv : okR rg) (ha : a < 8) (hb : b < 8) (h : post (zI (com (rg a) (rg b))) M) : P_M_common (zI a) (zI b) M post := by
  have ta : mg_I M 22 a = (rg a).1 := congrArg (fun c : nf_V => c.1) (hc a ha)
  have tb : mg_I M 22 b = (rg b).1 := congrArg (fun c : nf_V => c.1) (hc b hb)
  have ia := z_in ha (by omega)
  have ib := z_in hb (by omega)
  have t7 : (7 : Int32).toInt = 7 := by decide
  have qa := ty9 (hv a ha)
  have qb := ty9 (hv b hb)
  unfold P_M_common B_M_common_30 B_M_common_63 B_M_common_64
  rw [z_cl (by omega), z_cl (by omega), ta, tb]
  simp only [i32_lt, t7, t0]
  have ea : (rg a).1 = zI (rg a).1.toInt := (zI_to _).symm
  have eb : (rg b).1 = zI (rg b).1.toInt := (zI_to _).symm
  have q1 : ∀ k : Int, com (rg a) (rg b) = k → post (zI k) M := fun k e => by rw [← e]; exact h
  have e1 : (1 : Int32) = zI 1 := by decide
  have e0 : (0 : Int32) = zI 0 := by decide
  unfold com at q1
  refine ⟨ia, ib, fun z => ⟨ia, fun z2 => ?_, fun z2 => ⟨ia, fun z3 => ⟨ib, fun z4 => ?_, fun z4 => ?_⟩, fun z3 => ?_⟩⟩, fun z => ⟨ib, fun z2 => ?_, fun z2 => ⟨ia, fun z3 => ⟨ib, fun z4 => ?_, fun z4 => ?_⟩, fun z3 => ?_⟩⟩⟩
  · rw [ea]; refine q1 _ ?_; (repeat' split) <;> omega
  · rw [e1]; refine q1 _ ?_; (repeat' split) <;> omega
  · rw [e0]; refine q1 _ ?_; (repeat' split) <;> omega
  · rw [e0]; refine q1 _ ?_; (repeat' split) <;> omega
  · rw [eb]; refine q1 _ ?_; (repeat' split) <;> omega
  · rw [e1]; refine q1 _ ?_; (repeat' split) <;> omega
  · rw [e0]; refine q1 _ ?_; (repeat' split) <;> omega
  · rw [e0]; refine q1 _ ?_; (repeat' split) <;> omega
theorem s_M_millionths {r : Nat} {M : nf_M} {c : nf_V} {post : Int64 → nf_M → Prop} (hv : okV c) (hE : isE c) (h : post (fra c) M) : P_M_millionths c.2.1 c.2.2.1 M post := by
  obtain ⟨u, s, -, eu, es, e3, h6, -⟩ := okV_E hv hE
  unfold P_M_millionths
  unfold fra at h
  rw [e3] at h
  rw [es]
  refine s_M_power (by omega) ⟨pw_ne (by omega), ?_⟩
  rw [show (6 : Int32) = zI (6 : Nat) by decide, zI_sub, show ((6 : Nat) : Int) - (s : Int) = ((6 - s : Nat) : Int) by omega]
  exact s_M_power (by omega) h
theorem com_E {a b : nf_V} (va : okV a) (vb : okV b) (fa : 0 ≤ a.1.toInt) (fb : 0 ≤ b.1.toInt) : (com a b = 9 ∧ (a.1.toInt = 9 ∨ b.1.toInt = 9)) ∨ (com a b = 8 ∧ ¬ (a.1.toInt = 9 ∨ b.1.toInt = 9) ∧ (a.1.toInt = 8 ∨ b.1.toInt = 8)) ∨ ((com a b = 0 ∨ com a b = 1) ∧ isE a ∧ isE b) := by
  have qa := ty9 va
  have qb := ty9 vb
  unfold com isE
  by_cases h1 : a.1.toInt = 9 ∨ b.1.toInt = 9
  · rw [if_pos h1]; exact Or.inl ⟨rfl, h1⟩
  · rw [if_neg h1]
    by_cases h2 : a.1.toInt = 8 ∨ b.1.toInt = 8
    · rw [if_pos h2]; exact Or.inr (Or.inl ⟨rfl, h1, h2⟩)
    · rw [if_neg h2]
      refine Or.inr (Or.inr ⟨?_, ⟨fa, by omega⟩, fb, by omega⟩)
      split
      · exact Or.inr rfl
      · exact Or.inl rfl
theorem s_M_compare {x1 x2 : Int32} {M : nf_M} {rg : Nat → nf_V} {post : Int32 → nf_M → Prop} (hc : mv M rg) (hv : okR rg) (h0 : ¬ inR x1 ∨ ¬ inR x2 → post 0 (ms_I M 19 0 1)) (h2 : ∀ a b : Nat, a < 8 → b < 8 → x1 = zI a → x2 = zI b → (rg a).1.toInt = -1 ∨ (rg b).1.toInt = -1 → post 0 (ms_I M 19 0 2)) (h1 : ∀ a b : Nat, a < 8 → b < 8 → x1 = zI a → x2 = zI b → 0 ≤ (rg a).1.toInt → 0 ≤ (rg b).1.toInt → post (cmpV (rg a) (rg b)) (ms_I M 19 0 0)) : P_M_compare x1 x2 M post := by
  have hthr : ∀ v : Int32, 0 < v → post 0 (ms_I M 19 0 v) → B_M_compare_42 post x1 x2 v M := fun v hv0 hp => by
    unfold B_M_compare_42
    intro M1 e1
    have e6 : mg_I M1 19 0 = v := by rw [e1]; rfl
    rw [e6]
    exact ⟨fun _ => by rw [e1]; exact hp, fun z => absurd hv0 z⟩
  unfold P_M_compare
  refine s_M_isRegister (fun ra => ⟨fun z => absurd z (by decide), fun _ => s_M_isRegister (fun rb => ⟨fun z => absurd z (by decide), fun _ => ?_⟩) (fun rb => ⟨fun _ => hthr 1 (by decide) (h0 (Or.inr rb)), fun z => absurd rfl z⟩)⟩) (fun ra => ⟨fun _ => hthr 1 (by decide) (h0 (Or.inl ra)), fun z => absurd rfl z⟩)
  obtain ⟨a, ha, ea, -, ca⟩ := rg_n ra
  obtain ⟨b, hb, eb, -, cb⟩ := rg_n rb
  have ta : mg_I M 22 a = (rg a).1 := congrArg (fun c : nf_V => c.1) (hc a ha)
  have tb : mg_I M 22 b = (rg b).1 := congrArg (fun c : nf_V => c.1) (hc b hb)
  have va := hv a ha
  have vb := hv b hb
  have qa := ty9 va
  have qb := ty9 vb
  have ia := vp_in_iff.mpr ra
  have ib := vp_in_iff.mpr rb
  rw [ca, cb, ta, tb]
  simp only [i32_lt, t0]
  unfold B_M_compare_37
  refine ⟨ia, fun z => hthr 2 (by decide) (h2 a b ha hb ea eb (by omega)), fun za => ⟨ib, fun z => hthr 2 (by decide) (h2 a b ha hb ea eb (by omega)), fun zb => ?_⟩⟩
  have fa : 0 ≤ (rg a).1.toInt := by omega
  have fb : 0 ≤ (rg b).1.toInt := by omega
  have h := h1 a b ha hb ea eb fa fb
  unfold B_M_compare_42
  intro M1 e1
  have e6 : mg_I M1 19 0 = 0 := by rw [e1]; rfl
  have hc1 : mv M1 rg := by rw [e1]; exact hc
  rw [← e1] at h
  rw [e6]
  refine ⟨fun z => absurd z (by decide), fun _ => ?_⟩
  rw [ea, eb]
  refine s_M_common hc1 hv ha hb ?_
  have t7 : (7 : Int32).toInt = 7 := by decide
  have i8 : ∀ k : Int, -10 < k → k < 10 → (zI k = (8 : Int32) ↔ k = 8) := fun k k1 k2 => by rw [show (8 : Int32) = zI 8 by decide, zI_eq (by omega) (by omega) (by omega) (by omega)]
  have h111 : ∀ x y : UInt64, post (ordD x y) M1 → B_M_compare_111 post x y M1 := fun x y hp => by
    unfold B_M_compare_111 B_M_compare_138
    unfold ordD at hp
    unfold nf_dlt nf_dgt
    refine ⟨fun z => ?_, fun z => ⟨fun z2 => ?_, fun z2 => ?_⟩⟩
    · rw [if_pos z] at hp; exact hp
    · rw [if_neg z, if_pos z2] at hp; exact hp
    · rw [if_neg z, if_neg z2] at hp; exact hp
  unfold B_M_compare_88
  have za' := z_in ha (show 8 < 2147483648 by decide)
  have zb' := z_in hb (show 8 < 2147483648 by decide)
  unfold cmpV at h
  rcases com_E va vb fa fb with ⟨ec, q⟩ | ⟨ec, q1, q2⟩ | ⟨ec, q1, q2⟩
  · rw [if_pos q] at h
    rw [ec, i32_lt, t7, zI_ti (by omega) (by omega), i8 9 (by omega) (by omega)]
    exact ⟨fun _ => ⟨fun z => by omega, fun _ => s_M_asDouble ha (hc1 a ha) va fa ⟨fun z => by omega, fun _ => s_M_asDouble hb (hc1 b hb) vb fb (h111 _ _ h)⟩⟩, fun z => absurd (show (7 : Int) < 9 by decide) z⟩
  · rw [if_neg q1, if_pos q2] at h
    rw [ec, i32_lt, t7, zI_ti (by omega) (by omega), i8 8 (by omega) (by omega)]
    exact ⟨fun _ => ⟨fun _ => s_M_asDouble ha (hc1 a ha) va fa ⟨d2f_n (dbl_ok va fa), sng_n (dbl_ok va fa), ⟨fun _ => s_M_asDouble hb (hc1 b hb) vb fb ⟨d2f_n (dbl_ok vb fb), sng_n (dbl_ok vb fb), h111 _ _ h⟩, fun z => absurd rfl z⟩⟩, fun z => absurd rfl z⟩, fun z => absurd (show (7 : Int) < 8 by decide) z⟩
  · have n1 := q1.2
    have n2 := q2.2
    rw [if_neg (by omega), if_neg (by omega)] at h
    obtain ⟨u, s, -, eu, es, e3, h6, -⟩ := okV_E va q1
    obtain ⟨u', s', -, eu', es', e3', h6', -⟩ := okV_E vb q2
    have hu : mg_L M1 23 a = (rg a).2.1 := congrArg (fun c : nf_V => c.2.1) (hc1 a ha)
    have hs : mg_I M1 24 a = (rg a).2.2.1 := congrArg (fun c : nf_V => c.2.2.1) (hc1 a ha)
    have hu' : mg_L M1 23 b = (rg b).2.1 := congrArg (fun c : nf_V => c.2.1) (hc1 b hb)
    have hs' : mg_I M1 24 b = (rg b).2.2.1 := congrArg (fun c : nf_V => c.2.2.1) (hc1 b hb)
    have e7 : ¬ (7 : Int32) < zI (com (rg a) (rg b)) := by rw [i32_lt, t7, zI_ti (by omega) (by omega)]; omega
    refine ⟨fun z => absurd z e7, fun _ => ⟨za', za', ?_⟩⟩
    rw [z_cl (by omega), z_cl (by omega), hu, hs, es]
    refine s_M_power (by omega) ⟨pw_ne (by omega), fun t15 e15 => ⟨zb', zb', ?_⟩⟩
    rw [hu', hs', es']
    refine s_M_power (by omega) ⟨pw_ne (by omega), fun t21 e21 => ⟨za', za', ?_⟩⟩
    rw [hu, hs]
    refine s_M_millionths (r := a) va q1 ⟨zb', zb', ?_⟩
    rw [hu', hs']
    refine s_M_millionths (r := b) vb q2 ?_
    have w1 : t15 = who (rg a) := by rw [e15]; unfold who; rw [e3]; rfl
    have w2 : t21 = who (rg b) := by rw [e21]; unfold who; rw [e3']; rfl
    unfold B_M_compare_233 B_M_compare_237 B_M_compare_253 B_M_compare_258
    unfold ordE at h
    rw [w1, w2]
    generalize who (rg a) = v at h ⊢
    generalize who (rg b) = w at h ⊢
    generalize fra (rg a) = f at h ⊢
    generalize fra (rg b) = g at h ⊢
    unfold ordL at h
    have tri : ∀ x y : Int64, ¬ x < y → ¬ x = y → y < x := fun x y p q => by
      rw [i64_lt] at p ⊢
      have : x.toInt ≠ y.toInt := fun z => q (Int64.toInt_inj.mp z)
      omega
    have asy : ∀ x y : Int64, x < y → ¬ y < x := fun x y p => by
      rw [i64_lt] at p ⊢
      omega
    have irr : ∀ x : Int64, ¬ x < x := fun x => by rw [i64_lt]; omega
    refine ⟨fun z => ?_, fun z => ⟨fun z2 => ⟨fun z3 => ?_, fun z3 => ⟨fun z4 => ?_, fun z4 => ⟨fun z5 => ?_, fun z5 => ?_⟩⟩⟩, fun z2 => ⟨fun z4 => ?_, fun z4 => ?_⟩⟩⟩
    · rw [if_pos z, if_neg (by decide)] at h; exact h
    · rw [if_neg z, if_pos z2, if_pos rfl, if_pos z3] at h; exact h
    · rw [z2] at z4; exact absurd z4 (irr _)
    · rw [if_neg z, if_pos z2, if_pos rfl, if_neg z3, if_neg (fun q => by rw [q] at z5; exact irr _ z5)] at h; exact h
    · rw [if_neg z, if_pos z2, if_pos rfl, if_neg z3, if_pos (Classical.byContradiction fun q => z5 (tri _ _ z3 q))] at h; exact h
    · rw [if_neg z, if_neg z2, if_neg (by decide)] at h; exact h
    · exact absurd (tri _ _ z z2) z4
