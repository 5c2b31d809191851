/-! exact numbers written, both sides; the end of a call that writes -/
theorem dlx_len (v k : Nat) : (dl v k).length = k := dl_len v k
theorem ch32 : ∀ d : Nat, d < 10 → (48 : Int32) + zI (d : Int) = zI ((48 + d : Nat) : Int) := by decide
theorem s_M_addNumber {v least : Nat} {L : List Nat} {M : nf_M} {post : Unit → nf_M → Prop} (hv : v < 9000000000000000000) (hl : least ≤ 19) (hL : L.length ≤ 300) (ho : oM M L) (k : ∀ M', kQ M M' → oM M' (L ++ dl v (if nd v < least then least else nd v)) → post () M') : P_M_addNumber (zL v) (zI least) M post := by
  have h47 : ∀ (p : Nat) (b : Int32), (b = 0 ∨ b = 1) → ∀ (L' : List Nat) (M1 : nf_M), p ≤ 19 → L'.length + p ≤ 350 → oM M1 L' → kQ M M1 → (b = 0 → v < 10 ^ p ∧ least ≤ p) → (∀ M', kQ M M' → oM M' (L' ++ dl v (if b = 0 then (if nd v < least then least else nd v) else p)) → post () M') → B_M_addNumber_7 post (p + 1) (zL v) (zI least) b (zI ((p : Int) - 1)) M1 := by
    intro p
    induction p with
    | zero =>
      intro b hb L' M1 hp hlen hw hk h0 k'
      unfold B_M_addNumber_7
      refine ⟨fun _ => k' M1 hk ?_, fun z => absurd (show zI ((0 : Nat) - 1) < (0 : Int32) by decide) z⟩
      have e : dl v (if b = 0 then (if nd v < least then least else nd v) else 0) = [] := by
        by_cases hb0 : b = 0
        · obtain ⟨a, c⟩ := h0 hb0
          have h1 := (nd_le (k := 0) (show v < 10000000000000000000 by omega)).mpr a
          rw [if_pos hb0, if_neg (by omega), show nd v = 0 by omega]
          rfl
        · rw [if_neg hb0]
          rfl
      rw [e, List.append_nil]
      exact hw
    | succ p ih =>
      intro b hb L' M1 hp hlen hw hk h0 k'
      have hpp := pow_lt19 (k := p) (by omega)
      have hdv := Nat.div_le_self v (10 ^ p)
      have hmod := Nat.mod_lt (v / 10 ^ p) (show 0 < 10 by decide)
      unfold B_M_addNumber_7 B_M_addNumber_42 B_M_addNumber_47 B_M_addNumber_63
      rw [show ((p + 1 : Nat) : Int) - 1 = (p : Int) by omega]
      refine ⟨fun z => absurd z (by rw [i32_lt, t0, z_of (by omega)]; omega), fun _ => s_M_power (by omega) ⟨pw_ne (by omega), fun t4 e4 => ?_⟩⟩
      rw [lN_z, zdiv (by omega) (by generalize 10 ^ p = P at *; omega), e10, zmod (by omega) (by omega), zLi (by omega)] at e4
      rw [e4, show (-1 : Int32) = zI (-1) by decide, zI_add, show (0 : Int32) = zI (0 : Nat) by decide, zlt (by omega) (by omega), zlt (by omega) (by omega), ch32 _ hmod, show (p : Int) + -1 = (p : Int) - 1 by omega]
      have hput : (b = 0 → (if nd v < least then least else nd v) = p + 1) → P_M_add (zI ((48 + v / 10 ^ p % 10 : Nat) : Int)) M1 (fun _ M2 => B_M_addNumber_7 post (p + 1) (zL v) (zI least) 1 (zI ((p : Int) - 1)) M2) := fun hh => by
        refine s_M_addL hw (by omega) (fun M2 k2 w2 => ih 1 (Or.inr rfl) _ M2 (by omega) (by rw [List.length_append]; simp only [List.length_cons, List.length_nil]; omega) w2 (hk.tr k2) (fun q => absurd q (by decide)) (fun M' hk' hw' => k' M' hk' ?_))
        rw [if_neg (by decide), List.append_assoc] at hw'
        have e : (if b = 0 then (if nd v < least then least else nd v) else p + 1) = p + 1 := by
          split
          · exact hh (by assumption)
          · rfl
        rw [e]
        exact hw'
      have hnd := nd_le (v := v) (k := p + 1) (by omega)
      have hnd2 := nd_le (v := v) (k := p) (by omega)
      have hdz : b = 0 → (v / 10 ^ p % 10 = 0 ↔ v < 10 ^ p) := fun hb0 => by
        obtain ⟨a, c⟩ := h0 hb0
        have h1 : v / 10 ^ p < 10 := by
          rw [Nat.pow_succ] at a
          exact Nat.div_lt_of_lt_mul a
        rw [Nat.mod_eq_of_lt h1, Nat.div_eq_zero_iff]
        have : 0 < 10 ^ p := Nat.pow_pos (by decide)
        omega
      refine ⟨fun hb0 => ⟨fun z => ⟨fun q => absurd q (by decide), fun _ => hput (fun hb' => ?_)⟩, fun z => ⟨fun z2 => ⟨fun q => absurd q (by decide), fun _ => hput (fun hb' => ?_)⟩, fun z2 => ⟨fun _ => ?_, fun q => absurd rfl q⟩⟩⟩, fun hb1 => ⟨fun q => absurd q (by decide), fun _ => hput (fun hb0 => absurd hb0 hb1)⟩⟩
      · obtain ⟨a, c⟩ := h0 hb'
        have := hdz hb'
        split <;> omega
      · obtain ⟨a, c⟩ := h0 hb'
        have := hdz hb'
        split <;> omega
      · have hb0' : b = 0 := hb0
        obtain ⟨a, c⟩ := h0 hb0'
        have hz := (hdz hb0').mp (by omega)
        refine ih 0 (Or.inl rfl) L' M1 (by omega) (by omega) hw hk (fun _ => ⟨hz, by omega⟩) (fun M' hk' hw' => k' M' hk' ?_)
        rw [if_pos rfl] at hw'
        rw [if_pos hb0']
        exact hw'
  unfold P_M_addNumber
  refine ⟨20, ?_⟩
  have := h47 19 0 (Or.inl rfl) L M (Nat.le_refl _) (by omega) ho (kQ.rf M) (fun _ => ⟨by omega, hl⟩) (fun M' hk hw => k M' hk (by rw [if_pos rfl] at hw; exact hw))
  exact this
/-- an exact value written -/
def exL (u : Int) (p : Nat) : List Nat := (if u < 0 then [45] else []) ++ numL u.natAbs p
theorem s_M_addExact {u : Int} {p : Nat} {L : List Nat} {M : nf_M} {post : Unit → nf_M → Prop} (lu : lim u) (hp : p ≤ 6) (hL : L.length ≤ 200) (ho : oM M L) (k : ∀ M', kQ M M' → oM M' (L ++ exL u p) → post () M') : P_M_addExact (zL u) (zI p) M post := by
  have l1 := lu.1
  have l2 := lu.2
  obtain ⟨P1, P2⟩ := pow6 hp
  have hd := Nat.div_le_self u.natAbs (10 ^ p)
  have hm := Nat.mod_lt u.natAbs (show 0 < 10 ^ p by omega)
  have hmd := dl_mod u.natAbs p p (Nat.le_refl _)
  have hnm := nd_le (v := u.natAbs % 10 ^ p) (k := p) (by omega)
  have hnd18 : nd (u.natAbs / 10 ^ p) ≤ 18 := (nd_le (by omega)).mpr (by omega)
  have h12 : ∀ (S : List Nat) (M1 : nf_M), S.length ≤ 201 → oM M1 S → kQ M M1 → (∀ M', kQ M M' → oM M' (S ++ numL u.natAbs p) → post () M') → B_M_addExact_12 post (zL u) (zI p) M1 := by
    intro S M1 hS o1 k1 kk
    unfold B_M_addExact_12 B_M_addExact_52
    refine s_M_amount (by omega) (s_M_power (by omega) ⟨pw_ne (by omega), ?_⟩)
    rw [lN_z, zdiv (by omega) (by omega), e1i]
    refine s_M_addNumber (by omega) (by decide) (by omega) o1 (fun M2 k2 o2 => ?_)
    have e1 : (if nd (u.natAbs / 10 ^ p) < 1 then 1 else nd (u.natAbs / 10 ^ p)) = (if nd (u.natAbs / 10 ^ p) = 0 then 1 else nd (u.natAbs / 10 ^ p)) := by split <;> split <;> omega
    rw [e1] at o2
    have hlen : (S ++ dl (u.natAbs / 10 ^ p) (if nd (u.natAbs / 10 ^ p) = 0 then 1 else nd (u.natAbs / 10 ^ p))).length ≤ 230 := by
      rw [List.length_append, dl_len]
      split <;> omega
    unfold numL numT at kk
    rw [show (0 : Int32) = zI (0 : Nat) by decide, zlt (by omega) (by omega)]
    refine ⟨fun z => ?_, fun z => kk M2 (k1.tr k2) (by rw [if_neg z, List.append_nil]; exact o2)⟩
    rw [show (46 : Int32) = zI (46 : Nat) by decide]
    refine s_M_addL o2 (by omega) (fun M3 k3 o3 => s_M_power (by omega) ⟨pw_ne (by omega), ?_⟩)
    rw [lN_z, zmod (by omega) (by omega)]
    refine s_M_addNumber (by omega) (by omega) (by rw [List.length_append]; simp only [List.length_cons, List.length_nil]; omega) o3 (fun M4 k4 o4 => kk M4 (k1.tr (k2.tr (k3.tr k4))) ?_)
    have e2 : (if nd (u.natAbs % 10 ^ p) < p then p else nd (u.natAbs % 10 ^ p)) = p := by
      have := hnm.mpr hm
      split <;> omega
    rw [if_pos z]
    rw [e2, hmd, List.append_assoc, List.append_assoc] at o4
    exact o4
  unfold P_M_addExact
  rw [show (0 : Int64) = zL 0 by decide, zL_lt (by omega) (by omega) (by omega) (by omega), show (45 : Int32) = zI (45 : Nat) by decide]
  unfold exL at k
  refine ⟨fun z => s_M_addL ho (by omega) (fun M1 k1 o1 => h12 _ M1 (by rw [List.length_append]; simp only [List.length_cons, List.length_nil]; omega) o1 k1 (fun M' hk hw => k M' hk ?_)), fun z => h12 L M (by omega) ho (kQ.rf M) (fun M' hk hw => k M' hk ?_)⟩
  · rw [if_pos z]
    rw [List.append_assoc] at hw
    exact hw
  · rw [if_neg z]
    exact hw
theorem s_F_writeUnits {v : Fin 9} {u : Int} {p : Nat} {M : nf_M} {post : Unit → nf_M → Prop} (lu : lim u) (hp : p ≤ 6) (h1 : mg_U M v = zL u) (h2 : mg_S M v = zI p) (k : ∀ M', kR true M M' → wF M' (exL u p) → post () M') : P_F_writeUnits v M post := by
  have l1 := lu.1
  have l2 := lu.2
  have hU : ∀ M1, kR true M M1 → mg_U M1 v = zL u ∧ mg_S M1 v = zI p := fun M1 k1 => by
    obtain ⟨-, -, -, -, b, c, -⟩ := k1
    rw [b, c]
    exact ⟨h1, h2⟩
  have h25 : ∀ (S : List Nat) (M1 : nf_M), S.length ≤ 5 → wF M1 S → kR true M M1 → (∀ M', kR true M M' → wF M' (S ++ numL u.natAbs p) → post () M') → B_F_writeUnits_25 post v M1 := by
    intro S M1 hS w1 k1 kk
    unfold B_F_writeUnits_25
    obtain ⟨a, b⟩ := hU M1 k1
    rw [a]
    refine s_JM_abs (by omega) ?_
    rw [b]
    exact s_R_addNumber (by omega) (by omega) (by omega) w1 (fun M2 k2 w2 => kk M2 (k1.tr k2) w2)
  unfold P_F_writeUnits
  refine s_R_clearL (fun M1 k1 w1 => ?_)
  rw [(hU M1 k1).1, show (0 : Int64) = zL 0 by decide, zL_lt (by omega) (by omega) (by omega) (by omega), show (45 : Int32) = zI (45 : Nat) by decide]
  unfold exL at k
  refine ⟨fun z => s_R_addL w1 (by decide) (by decide) (fun M2 k2 w2 => h25 _ M2 (by decide) w2 (k1.tr k2) (fun M' hk hw => k M' hk (by rw [if_pos z]; exact hw))), fun z => h25 [] M1 (by decide) w1 k1 (fun M' hk hw => k M' hk (by rw [if_neg z]; exact hw))⟩
theorem app_le {A B : List Nat} (h1 : ∀ c ∈ A, c ≤ 126) (h2 : ∀ c ∈ B, c ≤ 126) : ∀ c ∈ A ++ B, c ≤ 126 := fun c h => by
  rcases List.mem_append.mp h with h | h
  · exact h1 c h
  · exact h2 c h
theorem one_le {a : Nat} (h : a ≤ 126) : ∀ c ∈ [a], c ≤ 126 := fun c q => by
  rcases List.mem_cons.mp q with q | q
  · omega
  · exact absurd q (List.not_mem_nil)
theorem nil_le : ∀ c ∈ ([] : List Nat), c ≤ 126 := fun c q => absurd q (List.not_mem_nil)
theorem cons_le {a : Nat} {A : List Nat} (h : a ≤ 126) (h2 : ∀ c ∈ A, c ≤ 126) : ∀ c ∈ a :: A, c ≤ 126 := fun c q => by
  rcases List.mem_cons.mp q with q | q
  · omega
  · exact h2 c q
theorem numT_ok (v s : Nat) : (∀ c ∈ numT v s, c ≤ 126) ∧ (numT v s).length ≤ s + 1 := by
  unfold numT
  split
  · exact ⟨cons_le (by decide) (dl_le v s), by rw [List.length_cons, dl_len]; omega⟩
  · exact ⟨nil_le, by simp only [List.length_nil]; omega⟩
theorem numL_ok {v s : Nat} (hv : v < 10000000000000000) : (∀ c ∈ numL v s, c ≤ 126) ∧ (numL v s).length ≤ 17 + s := by
  have hd := Nat.div_le_self v (10 ^ s)
  have h16 : nd (v / 10 ^ s) ≤ 16 := (nd_le (by omega)).mpr (by omega)
  have ht := numT_ok v s
  unfold numL
  refine ⟨app_le (dl_le _ _) ht.1, ?_⟩
  rw [List.length_append, dl_len]
  split <;> omega
theorem exL_ok {u : Int} {p : Nat} (lu : lim u) (hp : p ≤ 6) : (∀ c ∈ exL u p, c ≤ 126) ∧ (exL u p).length ≤ 24 := by
  have l1 := lu.1
  have l2 := lu.2
  have h := numL_ok (v := u.natAbs) (s := p) (by omega)
  unfold exL
  refine ⟨app_le (by split; exact one_le (by decide); exact nil_le) h.1, ?_⟩
  rw [List.length_append]
  split
  · simp only [List.length_cons, List.length_nil]; omega
  · simp only [List.length_nil]; omega
/-- the system: registers and text are kept; the reference: all but scratch and output -/
def kE (M M' : nf_M) : Prop := kF M M' ∧ (mg_N M' false = mg_N M false ∧ mg_C M' false = mg_C M false) ∧ ∀ r, r < 8 → rgF M' (rgn r) = rgF M (rgn r)
def kU (M M' : nf_M) : Prop := M'.2.2.2 = M.2.2.2 ∧ mg_I M' 19 1 = mg_I M 19 1 ∧ mg_I M' 20 = mg_I M 20 ∧ mg_L M' 27 = mg_L M 27 ∧ (∀ r, r < 8 → rgM M' r = rgM M r) ∧ mg_I M' 19 0 = mg_I M 19 0
theorem kE.rf (M : nf_M) : kE M M := ⟨kF.rf M, ⟨rfl, rfl⟩, fun _ _ => rfl⟩
theorem kU.rf (M : nf_M) : kU M M := ⟨rfl, rfl, rfl, rfl, fun _ _ => rfl, rfl⟩
theorem kE.tr {A B C : nf_M} (h1 : kE A B) (h2 : kE B C) : kE A C := ⟨h1.1.tr h2.1, ⟨h2.2.1.1.trans h1.2.1.1, h2.2.1.2.trans h1.2.1.2⟩, fun r hr => (h2.2.2 r hr).trans (h1.2.2 r hr)⟩
theorem kU.tr {A B C : nf_M} (h1 : kU A B) (h2 : kU B C) : kU A C := ⟨h2.1.trans h1.1, h2.2.1.trans h1.2.1, h2.2.2.1.trans h1.2.2.1, h2.2.2.2.1.trans h1.2.2.2.1, fun r hr => (h2.2.2.2.2.1 r hr).trans (h1.2.2.2.2.1 r hr), h2.2.2.2.2.2.trans h1.2.2.2.2.2⟩
theorem kR.E {M M' : nf_M} (h : kR true M M') : kE M M' := ⟨h.kF, ⟨h.2.2.2.2.2.2.2.1, h.2.2.2.2.2.2.2.2⟩, fun r _ => h.rg _⟩
theorem kD.E {M M' : nf_M} (h : kD M M') : kE M M' := ⟨h.1, ⟨congrFun h.2.1.1 false, congrFun h.2.1.2 false⟩, h.2.2⟩
theorem kQ.U {M M' : nf_M} (h : kQ M M') : kU M M' := by
  obtain ⟨a, b, c⟩ := h
  refine ⟨by rw [a], b 1 (by decide), c 20 (by decide) (by decide), ?_, fun r _ => ?_, b 0 (by decide)⟩
  · unfold mg_L; rw [a]
  · unfold rgM mg_L mg_D
    rw [a, c 22 (by decide) (by decide), c 24 (by decide) (by decide)]
theorem kU_19 (M : nf_M) (k : Nat) (v : Int32) (h1 : k ≠ 1) (h0 : k ≠ 0) : kU M (ms_I M 19 k v) := by
  refine ⟨rfl, ?_, rfl, rfl, fun _ _ => rfl, ?_⟩
  · show (if 1 = k then v else mg_I M 19 1) = _
    rw [if_neg (Ne.symm h1)]
  · show (if 0 = k then v else mg_I M 19 0) = _
    rw [if_neg (Ne.symm h0)]
def kU2 (M M' : nf_M) : Prop := M'.2.2.2 = M.2.2.2 ∧ mg_I M' 19 1 = mg_I M 19 1 ∧ mg_I M' 20 = mg_I M 20 ∧ mg_L M' 27 = mg_L M 27 ∧ (∀ r, r < 8 → rgM M' r = rgM M r)
theorem kU.w {M M' : nf_M} (h : kU M M') : kU2 M M' := ⟨h.1, h.2.1, h.2.2.1, h.2.2.2.1, h.2.2.2.2.1⟩
theorem kU2.tr {A B C : nf_M} (h1 : kU2 A B) (h2 : kU2 B C) : kU2 A C := ⟨h2.1.trans h1.1, h2.2.1.trans h1.2.1, h2.2.2.1.trans h1.2.2.1, h2.2.2.2.1.trans h1.2.2.2.1, fun r hr => (h2.2.2.2.2 r hr).trans (h1.2.2.2.2 r hr)⟩
theorem kU2_19 (M : nf_M) (k : Nat) (v : Int32) (h1 : k ≠ 1) : kU2 M (ms_I M 19 k v) := by
  refine ⟨rfl, ?_, rfl, rfl, fun _ _ => rfl⟩
  show (if 1 = k then v else mg_I M 19 1) = _
  rw [if_neg (Ne.symm h1)]
/-- after a call that writes -/
theorem iv_outp {M M1 M3 : nf_M} {n m : Nat} {tx ou : Nat → Nat} {rg : Nat → nf_V} {L : List Nat} {t : Int64} (h : iv_1 M n tx m ou rg) (h1 : kE M M1) (w : wF M1 L) (h3 : kU2 (ms_L M1 27 0 t) M3) (o : oM M3 L) (hl : L.length ≤ 128) (hc : ∀ c ∈ L, c ≤ 126) : iv_1 M3 n tx L.length (lf' L) rg := by
  obtain ⟨a1, a2, a3, a4, a5, a6, a7⟩ := h
  obtain ⟨u1, u2, u3, u4, u5⟩ := h3
  have e1 : mg_N M3 = mg_N M1 := by unfold mg_N; rw [u1]; rfl
  have e2 : mg_C M3 = mg_C M1 := by unfold mg_C; rw [u1]; rfl
  refine ⟨a1, ⟨?_, fun i hi => ?_⟩, ⟨?_, fun i hi => ?_⟩, ⟨hl, fun i hi => ?_⟩, ?_, o, fun r hr => ⟨(a7 r hr).1, ?_, ?_⟩⟩
  · rw [e1, h1.2.1.1]; exact a2.1
  · rw [e2, h1.2.1.2]; exact a2.2 i hi
  · rw [u2]
    show mg_I M1 19 1 = _
    rw [(h1.1 19 (by decide) (by decide)).1]; exact a3.1
  · rw [u3]
    show mg_I M1 20 i = _
    rw [(h1.1 20 (by decide) (by decide)).1]; exact a3.2 i hi
  · unfold lf'
    rw [List.getD_eq_getElem?_getD, List.getElem?_eq_getElem hi]
    exact hc _ (List.getElem_mem hi)
  · unfold rowF
    rw [e1, e2]
    exact w
  · rw [u5 r hr]
    show rgM M1 r = _
    rw [kF_rg h1.1 r]
    exact (a7 r hr).2.1
  · have e3 : rgF M3 (rgn r) = rgF M1 (rgn r) := by
      unfold rgF mg_T mg_U mg_S mg_R
      rw [u1]
      rfl
    rw [e3, h1.2.2 r hr]
    exact (a7 r hr).2.2
