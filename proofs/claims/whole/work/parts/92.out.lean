/-! the output as a list, on both sides; digits -/
def lf' (L : List Nat) : Nat → Nat := fun i => L.getD i 0
def wF (M : nf_M) (L : List Nat) : Prop := rowF M true L.length (lf' L)
def oM (M : nf_M) (L : List Nat) : Prop := ouM M L.length (lf' L)
theorem lf_app (L : List Nat) (c i : Nat) (h : i < L.length + 1) : lf' (L ++ [c]) i = if i = L.length then c else lf' L i := by
  unfold lf'
  rw [List.getD_eq_getElem?_getD, List.getD_eq_getElem?_getD, List.getElem?_append]
  by_cases e : i = L.length
  · rw [if_pos e, e, if_neg (by omega), Nat.sub_self]
    rfl
  · rw [if_neg e, if_pos (by omega)]
theorem s_R_addL {L : List Nat} {c : Nat} {M : nf_M} {post : Unit → nf_M → Prop} (h : wF M L) (hn : L.length < 128) (hc : c < 65536) (k : ∀ M' : nf_M, kR true M M' → wF M' (L ++ [c]) → post () M') : P_R_add true (zI c) M post := by
  refine s_R_add h (by show L.length < 128; exact hn) hc (fun M' hk hr => k M' hk ?_)
  unfold wF
  rw [List.length_append]
  refine ⟨hr.1, fun i hi => ?_⟩
  have hi' : i < L.length + 1 := hi
  rw [hr.2 i hi', lf_app L c i hi']
  rfl
theorem s_R_clearL {M : nf_M} {post : Unit → nf_M → Prop} (k : ∀ M' : nf_M, kR true M M' → wF M' [] → post () M') : P_R_clear true M post := by
  unfold P_R_clear
  intro M1 e1
  subst e1
  exact k _ ⟨rfl, rfl, rfl, rfl, rfl, rfl, rfl, rfl, rfl⟩ ⟨rfl, fun i hi => absurd hi (Nat.not_lt_zero _)⟩
/-- the reference's output alone changes -/
def kQ (M M' : nf_M) : Prop := M'.2 = M.2 ∧ (∀ j, j ≠ 3 → mg_I M' 19 j = mg_I M 19 j) ∧ ∀ o, o ≠ 19 → o ≠ 21 → mg_I M' o = mg_I M o
theorem kQ.rf (M : nf_M) : kQ M M := ⟨rfl, fun _ _ => rfl, fun _ _ _ => rfl⟩
theorem kQ.tr {A B C : nf_M} (h1 : kQ A B) (h2 : kQ B C) : kQ A C := ⟨h2.1.trans h1.1, fun j hj => (h2.2.1 j hj).trans (h1.2.1 j hj), fun o a b => (h2.2.2 o a b).trans (h1.2.2 o a b)⟩
theorem s_M_addL {L : List Nat} {c : Nat} {M : nf_M} {post : Unit → nf_M → Prop} (h : oM M L) (hn : L.length < 400) (k : ∀ M' : nf_M, kQ M M' → oM M' (L ++ [c]) → post () M') : P_M_add (zI c) M post := by
  unfold P_M_add
  rw [h.1]
  refine ⟨z_in hn (by decide), fun M2 e2 t3 e3 M4 e4 => ?_⟩
  rw [z_cl (by omega)] at e2
  have e5 : mg_I M2 19 3 = zI L.length := by rw [e2]; exact h.1
  rw [e5, z_s] at e3
  subst e2 e3 e4
  refine k _ ⟨rfl, fun j hj => ?_, fun o h1 h2 => ?_⟩ ?_
  · show (if j = 3 then _ else mg_I M 19 j) = _
    rw [if_neg hj]
  · show (if o = 19 then _ else (if o = 21 then _ else mg_I M o)) = _
    rw [if_neg h1, if_neg h2]
  · unfold oM
    rw [List.length_append]
    refine ⟨rfl, fun i hi => ?_⟩
    have hi' : i < L.length + 1 := hi
    rw [lf_app L c i hi']
    show (if i = L.length then zI c else mg_I M 21 i) = _
    by_cases e : i = L.length
    · rw [if_pos e, if_pos e]
    · rw [if_neg e, if_neg e]
      exact h.2 i (by omega)
/-- the digits of v, k of them -/
def dl (v : Nat) : Nat → List Nat
  | 0 => []
  | k + 1 => (48 + v / 10 ^ k % 10) :: dl v k
theorem dl_len (v : Nat) : ∀ k, (dl v k).length = k
  | 0 => rfl
  | k + 1 => by
    show (dl v k).length + 1 = k + 1
    rw [dl_len v k]
theorem dl_le (v : Nat) : ∀ k, ∀ c ∈ dl v k, c ≤ 126
  | 0 => fun c h => absurd h (List.not_mem_nil)
  | k + 1 => fun c h => by
    rcases List.mem_cons.mp h with h | h
    · have := Nat.mod_lt (v / 10 ^ k) (show 0 < 10 by decide)
      omega
    · exact dl_le v k c h
theorem dl_mod (v s : Nat) : ∀ k, k ≤ s → dl (v % 10 ^ s) k = dl v k
  | 0, _ => rfl
  | k + 1, h => by
    show (48 + v % 10 ^ s / 10 ^ k % 10) :: dl (v % 10 ^ s) k = (48 + v / 10 ^ k % 10) :: dl v k
    rw [dl_mod v s k (by omega)]
    obtain ⟨j, rfl⟩ : ∃ j, s = k + (j + 1) := ⟨s - k - 1, by omega⟩
    have e : v % 10 ^ (k + (j + 1)) / 10 ^ k % 10 = v / 10 ^ k % 10 := by
      rw [Nat.pow_add, Nat.mod_mul_right_div_self, Nat.mod_mod_of_dvd]
      exact ⟨10 ^ j, by rw [Nat.pow_succ, Nat.mul_comm]⟩
    rw [e]
/-- how many digits -/
def ndf : Nat → Nat → Nat
  | 0, _ => 0
  | f + 1, v => if v = 0 then 0 else ndf f (v / 10) + 1
def nd (v : Nat) : Nat := ndf 20 v
theorem ndf_ok : ∀ f v, v < 10 ^ f → v < 10 ^ ndf f v ∧ (ndf f v = 0 ∨ 10 ^ (ndf f v - 1) ≤ v) ∧ ndf f v ≤ f
  | 0, v, h => ⟨h, Or.inl rfl, Nat.le_refl _⟩
  | f + 1, v, h => by
    unfold ndf
    by_cases hv : v = 0
    · rw [if_pos hv, hv]
      exact ⟨by decide, Or.inl rfl, by omega⟩
    · rw [if_neg hv]
      have hp : v / 10 < 10 ^ f := Nat.div_lt_of_lt_mul (by rw [Nat.pow_succ, Nat.mul_comm] at h; exact h)
      obtain ⟨a, b, c⟩ := ndf_ok f (v / 10) hp
      refine ⟨?_, Or.inr ?_, by omega⟩
      · rw [Nat.pow_succ]
        omega
      · rw [Nat.add_sub_cancel]
        rcases b with b | b
        · rw [b]
          show 1 ≤ v
          omega
        · by_cases h0 : ndf f (v / 10) = 0
          · rw [h0]
            show 1 ≤ v
            omega
          · obtain ⟨n, hn⟩ : ∃ n, ndf f (v / 10) = n + 1 := ⟨ndf f (v / 10) - 1, by omega⟩
            rw [hn, Nat.add_sub_cancel] at b
            rw [hn, Nat.pow_succ]
            omega
theorem nd_ok {v : Nat} (h : v < 10000000000000000000) : v < 10 ^ nd v ∧ (nd v = 0 ∨ 10 ^ (nd v - 1) ≤ v) := by
  have := ndf_ok 20 v (Nat.lt_of_lt_of_le h (by decide))
  exact ⟨this.1, this.2.1⟩
theorem pp_lt {a b : Nat} (h : 10 ^ a < 10 ^ b) : a < b := (Nat.pow_lt_pow_iff_right (by decide)).mp h
theorem pp_le {a b : Nat} (h : a ≤ b) : 10 ^ a ≤ 10 ^ b := Nat.pow_le_pow_right (by decide) h
theorem nd_le {v k : Nat} (h : v < 10000000000000000000) : nd v ≤ k ↔ v < 10 ^ k := by
  obtain ⟨a, b⟩ := nd_ok h
  constructor
  · intro q
    exact Nat.lt_of_lt_of_le a (pp_le q)
  · intro q
    rcases b with b | b
    · omega
    · have := pp_lt (Nat.lt_of_le_of_lt b q)
      omega
theorem nd_0 {v : Nat} (h : v < 10000000000000000000) : nd v = 0 ↔ v = 0 := by
  have := nd_le (k := 0) h
  rw [Nat.pow_zero] at this
  omega
theorem nd_div {v : Nat} (s : Nat) (h : v < 10000000000000000000) : nd (v / 10 ^ s) = nd v - s := by
  have hd := Nat.div_le_self v (10 ^ s)
  have key : ∀ k, nd (v / 10 ^ s) ≤ k ↔ nd v ≤ k + s := fun k => by
    rw [nd_le (by omega), nd_le h, Nat.div_lt_iff_lt_mul (Nat.pow_pos (by decide)), ← Nat.pow_add]
  have k1 := (key (nd v - s)).mpr (by omega)
  have k2 := (key (nd (v / 10 ^ s))).mp (Nat.le_refl _)
  omega
theorem s_F_digitCount {v : Nat} {M : nf_M} {post : Int32 → nf_M → Prop} (hv : v < 10000000000000000) (k : post (zI (if nd v = 0 then 1 else nd v : Nat)) M) : P_F_digitCount (zL v) M post := by
  have hn16 : nd v ≤ 16 := (nd_le (by omega)).mpr hv
  have fin : ∀ i : Nat, i = (if nd v = 0 then 1 else nd v) → B_F_digitCount_26 post (zI i) M := fun i e => by
    unfold B_F_digitCount_26
    rw [e]
    exact k
  have key : ∀ r i : Nat, i + r = 16 → 1 ≤ i → i ≤ (if nd v = 0 then 1 else nd v) → B_F_digitCount_2 post (r + 1) (zL v) (zI i) M := by
    intro r
    induction r with
    | zero =>
      intro i hi h1 h2
      unfold B_F_digitCount_2
      rw [show (16 : Int32) = zI (16 : Nat) by decide, zlt (by omega) (by omega)]
      exact ⟨fun z => by omega, fun _ => fin i (by split at h2 <;> split <;> omega)⟩
    | succ r ih =>
      intro i hi h1 h2
      have hb := pow_lt19 (k := i) (by omega)
      unfold B_F_digitCount_2
      rw [show (16 : Int32) = zI (16 : Nat) by decide, zlt (by omega) (by omega), z_cl (by omega), pow_get i (by omega), pw_z, zLlt (by omega) (by generalize 10 ^ i = P at *; omega), ← nd_le (by omega)]
      refine ⟨fun _ => ⟨z_in (by omega) (by decide), fun z => fin i (by split at h2 <;> split <;> omega), fun z => ?_⟩, fun z => by omega⟩
      rw [z_s]
      exact ih (i + 1) (by omega) (by omega) (by split <;> omega)
  exact ⟨16, key 15 1 rfl (by decide) (by split <;> omega)⟩
theorem ch_ok : ∀ d, d < 10 → (((zL ((48 + d : Nat) : Int)).toInt32).toUInt32 % 65536).toInt32 = zI ((48 + d : Nat) : Int) ∧ narrow .char (.int (zI ((48 + d : Nat) : Int))) = .int (zI ((48 + d : Nat) : Int)) := by decide
theorem s_F_digitAt {v k : Nat} {M : nf_M} {post : Int32 → nf_M → Prop} (hv : v < 10000000000000000) (hk : k < 1000) (h : post (zI (48 + v / 10 ^ k % 10 : Nat)) M) : P_F_digitAt (zL v) (zI k) M post := by
  have fin : ∀ d : Nat, d = v / 10 ^ k % 10 → d < 10 → B_F_digitAt_27 post (zL d) (48 : Int64) M := fun d e hd => by
    unfold B_F_digitAt_27
    rw [show (48 : Int64) = zL (48 : Nat) by decide, zLadd, (ch_ok d hd).1]
    exact ⟨(ch_ok d hd).2, by rw [e]; exact h⟩
  unfold P_F_digitAt
  rw [show (16 : Int32) = zI (16 : Nat) by decide, zlt (by omega) (by omega)]
  refine ⟨fun z => s_F_power z (s_F_over (pw_ne (by omega)) ?_), fun z => ?_⟩
  · have hb := pow_lt19 (k := k) (by omega)
    have hd := Nat.div_le_self v (10 ^ k)
    rw [pw_z, zdiv (by omega) (by generalize 10 ^ k = P at *; omega), e10, zmod (by omega) (by omega)]
    exact fin _ rfl (Nat.mod_lt _ (by decide))
  · have h16 : 10 ^ 16 ≤ 10 ^ k := pp_le (by omega)
    have e0 : v / 10 ^ k = 0 := Nat.div_eq_of_lt (Nat.lt_of_lt_of_le hv h16)
    rw [el0]
    exact fin 0 (by rw [e0]) (by decide)
/-- an exact number written -/
def numT (v s : Nat) : List Nat := if 0 < s then 46 :: dl v s else []
def numL (v s : Nat) : List Nat := dl (v / 10 ^ s) (if nd (v / 10 ^ s) = 0 then 1 else nd (v / 10 ^ s)) ++ numT v s
theorem s_R_num_low {v s : Nat} {M0 : nf_M} {post : Unit → nf_M → Prop} (hv : v < 10000000000000000) : ∀ (p : Nat) (L : List Nat) (M : nf_M), p ≤ s → s < 100 → L.length + p ≤ 128 → wF M L → kR true M0 M → (∀ M', kR true M0 M' → wF M' (L ++ dl v p) → post () M') → B_R_addNumber_12 post (p + 1) true (zL v) (zI s) (zI ((p : Int) - 1)) M := by
  intro p
  induction p with
  | zero =>
    intro L M hp hs hL hw hk k
    unfold B_R_addNumber_12
    refine ⟨fun _ => k M hk (by rw [show dl v 0 = [] from rfl, List.append_nil]; exact hw), fun z => absurd (show zI ((0 : Nat) - 1) < (0 : Int32) by decide) z⟩
  | succ p ih =>
    intro L M hp hs hL hw hk k
    unfold B_R_addNumber_12 B_R_addNumber_43
    rw [show ((p + 1 : Nat) : Int) - 1 = (p : Int) by omega]
    refine ⟨fun z => absurd z (by rw [i32_lt, t0, z_of (by omega)]; omega), fun _ => s_F_digitAt hv (by omega) (s_R_addL hw (by omega) (by have := Nat.mod_lt (v / 10 ^ p) (show 0 < 10 by decide); omega) (fun M1 k1 w1 => ?_))⟩
    rw [zeq (by omega) (by omega), show (-1 : Int32) = zI (-1) by decide, zI_add]
    refine ⟨fun z => by omega, fun _ => ih (L ++ [48 + v / 10 ^ p % 10]) M1 (by omega) hs (by rw [List.length_append]; simp only [List.length_cons, List.length_nil]; omega) w1 (hk.tr k1) (fun M' hk' hw' => k M' hk' ?_)⟩
    rw [List.append_assoc] at hw'
    exact hw'
theorem s_R_num_top {v s : Nat} {M0 : nf_M} {post : Unit → nf_M → Prop} (hv : v < 10000000000000000) : ∀ (j : Nat) (L : List Nat) (M : nf_M), j < 100 → s < 100 → L.length + j + 1 + s + 1 ≤ 128 → wF M L → kR true M0 M → (∀ M', kR true M0 M' → wF M' (L ++ (dl (v / 10 ^ s) (j + 1) ++ numT v s)) → post () M') → B_R_addNumber_12 post (s + j + 1 + 1) true (zL v) (zI s) (zI ((s + j : Nat) : Int)) M := by
  intro j
  induction j with
  | zero =>
    intro L M hj hs hL hw hk k
    unfold B_R_addNumber_12 B_R_addNumber_43
    refine ⟨fun z => absurd z (by rw [i32_lt, t0, z_of (by omega)]; omega), fun _ => s_F_digitAt hv (by omega) (s_R_addL hw (by omega) (by have := Nat.mod_lt (v / 10 ^ (s + 0)) (show 0 < 10 by decide); omega) (fun M1 k1 w1 => ?_))⟩
    have e1 : dl (v / 10 ^ s) (0 + 1) = [48 + v / 10 ^ (s + 0) % 10] := by
      show [48 + v / 10 ^ s / 10 ^ 0 % 10] = _
      rw [Nat.pow_zero, Nat.div_one]
      rfl
    rw [e1] at k
    generalize 48 + v / 10 ^ (s + 0) % 10 = c at *
    rw [zeq (by omega) (by omega), show (-1 : Int32) = zI (-1) by decide, zI_add, show (0 : Int32) = zI (0 : Nat) by decide, zlt (by omega) (by omega), show (46 : Int32) = zI (46 : Nat) by decide]
    have e2 : ((s + 0 : Nat) : Int) + -1 = (s : Int) - 1 := by omega
    rw [e2]
    have hlen : (L ++ [c]).length = L.length + 1 := by rw [List.length_append]; rfl
    refine ⟨fun _ => ⟨fun z => s_R_addL w1 (by omega) (by decide) (fun M2 k2 w2 => ?_), fun z => ?_⟩, fun z => absurd rfl z⟩
    · refine s_R_num_low hv s (L ++ [c] ++ [46]) M2 (Nat.le_refl _) hs (by rw [List.length_append, hlen]; simp only [List.length_cons, List.length_nil]; omega) w2 (hk.tr (k1.tr k2)) (fun M' hk' hw' => k M' hk' ?_)
      unfold numT
      rw [if_pos z]
      rw [List.append_assoc, List.append_assoc] at hw'
      exact hw'
    · have hs0 : s = 0 := by omega
      have h0 := s_R_num_low (M0 := M0) (post := post) (s := s) hv 0 (L ++ [c]) M1 (by omega) hs (by omega) w1 (hk.tr k1) (fun M' hk' hw' => k M' hk' (by
        unfold numT
        rw [if_neg z, List.append_nil]
        rw [show dl v 0 = [] from rfl, List.append_nil] at hw'
        exact hw'))
      rw [hs0] at h0 ⊢
      exact h0
  | succ j ih =>
    intro L M hj hs hL hw hk k
    have e1 : dl (v / 10 ^ s) (j + 1 + 1) = (48 + v / 10 ^ (s + (j + 1)) % 10) :: dl (v / 10 ^ s) (j + 1) := by
      show (48 + v / 10 ^ s / 10 ^ (j + 1) % 10) :: dl (v / 10 ^ s) (j + 1) = _
      rw [Nat.div_div_eq_div_mul, ← Nat.pow_add]
    rw [e1] at k
    unfold B_R_addNumber_12 B_R_addNumber_43
    refine ⟨fun z => absurd z (by rw [i32_lt, t0, z_of (by omega)]; omega), fun _ => s_F_digitAt hv (by omega) (s_R_addL hw (by omega) (by have := Nat.mod_lt (v / 10 ^ (s + (j + 1))) (show 0 < 10 by decide); omega) (fun M1 k1 w1 => ?_))⟩
    generalize 48 + v / 10 ^ (s + (j + 1)) % 10 = c at *
    rw [zeq (by omega) (by omega), show (-1 : Int32) = zI (-1) by decide, zI_add]
    have hlen : (L ++ [c]).length = L.length + 1 := by rw [List.length_append]; rfl
    refine ⟨fun z => by omega, fun _ => ?_⟩
    have h := ih (L ++ [c]) M1 (by omega) hs (by omega) w1 (hk.tr k1) (fun M' hk' hw' => k M' hk' (by
      rw [List.append_assoc] at hw'
      exact hw'))
    have e2 : ((s + (j + 1) : Nat) : Int) + -1 = ((s + j : Nat) : Int) := by omega
    rw [e2]
    exact h
theorem s_R_addNumber {v s : Nat} {L : List Nat} {M : nf_M} {post : Unit → nf_M → Prop} (hv : v < 10000000000000000) (hs : s < 50) (hL : L.length ≤ 40) (hw : wF M L) (k : ∀ M', kR true M M' → wF M' (L ++ numL v s) → post () M') : P_R_addNumber true (zL v) (zI s) M post := by
  have hn16 : nd v ≤ 16 := (nd_le (by omega)).mpr hv
  have hnd := nd_div s (v := v) (by omega)
  unfold P_R_addNumber
  refine s_F_digitCount hv ?_
  obtain ⟨c, hc⟩ : ∃ c : Nat, c = (if nd v = 0 then 1 else nd v) := ⟨_, rfl⟩
  rw [← hc]
  have hc1 : 1 ≤ c ∧ c ≤ 16 := by rw [hc]; split <;> omega
  rw [e1i, zI_sub, show (c : Int) - (1 : Nat) = ((c - 1 : Nat) : Int) by omega]
  have e : ∃ j, (if nd (v / 10 ^ s) = 0 then 1 else nd (v / 10 ^ s)) = j + 1 ∧ j < 20 ∧ (if c - 1 < s then s else c - 1) = s + j := by
    refine ⟨(if nd (v / 10 ^ s) = 0 then 1 else nd (v / 10 ^ s)) - 1, ?_, ?_, ?_⟩
    · split <;> omega
    · split <;> omega
    · rw [hnd, hc]
      split <;> split <;> split <;> omega
  obtain ⟨j, j1, j2, j3⟩ := e
  unfold numL at k
  rw [j1] at k
  refine s_JM_max (by omega) (by omega) ⟨s + j + 1 + 1, ?_⟩
  rw [j3]
  exact s_R_num_top hv j L M (by omega) (by omega) (by omega) hw (kR.rf true M) k
