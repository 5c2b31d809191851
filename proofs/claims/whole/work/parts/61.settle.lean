/-! exact numbers: rounding, settling, quotients, products -/
theorem dz_le : ∀ (s w : Nat), (dz s w).1 ≤ w ∧ (dz s w).2 ≤ s := by
  intro s
  induction s with
  | zero => intro w; exact ⟨Nat.le_refl _, Nat.le_refl _⟩
  | succ s ih =>
    intro w
    unfold dz
    split
    · have := ih (w / 10)
      omega
    · exact ⟨Nat.le_refl _, Nat.le_refl _⟩
theorem dz_norm : ∀ (s w : Nat), (dz s w).2 = 0 ∨ (dz s w).1 % 10 ≠ 0 := by
  intro s
  induction s with
  | zero => intro w; exact Or.inl rfl
  | succ s ih =>
    intro w
    unfold dz
    split
    · exact ih (w / 10)
    · exact Or.inr (by assumption)
theorem rnd_le (w k : Nat) : rnd w k ≤ w + 1 := by
  unfold rnd
  have := Nat.div_le_self w (10 ^ k)
  split <;> omega
theorem p_dvd {k : Nat} (h : k ≤ 15) : 10 ^ k ∣ 1000000000000000 := by
  have : (1000000000000000 : Nat) = 10 ^ 15 := by decide
  rw [this]
  exact Nat.pow_dvd_pow 10 h
theorem p_le {k : Nat} (h : k ≤ 15) : 10 ^ k ≤ 1000000000000000 := Nat.le_of_dvd (by decide) (p_dvd h)
theorem p_pos (k : Nat) : 0 < 10 ^ k := Nat.pow_pos (by decide)
theorem s_W_roundOff {w k : Nat} {M : nf_M} {post : Unit → nf_M → Prop} (h1 : 1 ≤ k) (hk : k ≤ 15) (hw : isW M w) (hs : w < 10000000000000000000000000000000) (kk : ∀ M', kD M M' → isW M' (rnd w k) → post () M') : P_W_roundOff (zI k) M post := by
  have hp := p_le hk
  have hp0 := p_pos k
  have hd := p_dvd hk
  unfold P_W_roundOff
  refine s_F_power (by omega) (s_F_left (pw_ne (by omega)) ⟨k + 1, ?_⟩)
  rw [hw.2.1, pw_z, zmod (by omega) (by omega), Nat.mod_mod_of_dvd _ hd]
  have key : ∀ r i : Nat, i + r = k → ∀ M1 : nf_M, kD M M1 → isW M1 (w / 10 ^ i) → B_W_roundOff_15 post (r + 1) (zI k) (zL (w % 10 ^ k : Nat)) (zI i) M1 := by
    intro r
    induction r with
    | zero =>
      intro i hi M1 hk1 hw1
      have : i = k := by omega
      subst this
      unfold B_W_roundOff_15 B_W_roundOff_50
      refine ⟨fun z => absurd z (by rw [zlt (by omega) (by omega)]; omega), fun _ => s_F_power (by omega) ?_⟩
      have hq : w / 10 ^ i < 1000000000000000000000000000000000 := hw1.2.2
      have hr : w % 10 ^ i < 10 ^ i := Nat.mod_lt _ hp0
      have hq2 := Nat.div_le_self w (10 ^ i)
      rw [hw1.2.1, pw_z]
      have hpar : ∀ a : Nat, a % 1000000000000000 % 2 = a % 2 := fun a => by omega
      unfold rnd at kk
      refine s_F_isRoundedUp (by omega) (by omega) (by omega) (fun z => ⟨fun q => absurd q (by decide), fun _ => s_W_increase hw1 (by omega) (fun M' hk' hw' => kk M' (hk1.tr hk') ?_)⟩) (fun z => ⟨fun _ => kk M1 hk1 ?_, fun q => absurd rfl q⟩)
      · unfold rup at z
        rw [hpar] at z
        rw [if_pos z]
        exact hw'
      · unfold rup at z
        rw [hpar] at z
        rw [if_neg z]
        exact hw1
    | succ r ih =>
      intro i hi M1 hk1 hw1
      unfold B_W_roundOff_15
      refine ⟨fun _ => s_W_dropDigit hw1 (fun M' hk' hw' => ?_), fun z => absurd (show zI i < zI k by rw [zlt (by omega) (by omega)]; omega) z⟩
      rw [show (1 : Int32) = zI (1 : Nat) by decide, zI_add, show (i : Int) + (1 : Nat) = ((i + 1 : Nat) : Int) by omega]
      refine ih (i + 1) (by omega) M' (hk1.tr hk') ?_
      rw [Nat.div_div_eq_div_mul] at hw'
      rw [Nat.pow_succ]
      exact hw'
  exact key k 0 (by omega) M (kD.rf M) (by rw [Nat.pow_zero, Nat.div_one]; exact hw)
def stl (w s : Nat) : Nat × Nat := if 6 < (dz s w).2 then dz 6 (rnd (dz s w).1 ((dz s w).2 - 6)) else dz s w
/-- the value w / 10^s at most six places fine, without zeros at its end -/
def spS (w s : Nat) : Nat × Nat := if 6 < s then dz 6 (rnd w (s - 6)) else dz s w
theorem rnd_0 (w : Nat) : rnd w 0 = w := by
  unfold rnd
  rw [Nat.pow_zero, Nat.div_one, Nat.mod_one]
  rw [if_neg (by omega)]
theorem rnd_10 (w k : Nat) : rnd (w * 10) (k + 1) = rnd w k := by
  unfold rnd
  rw [Nat.pow_succ, Nat.mul_div_mul_right _ _ (by decide), Nat.mul_mod_mul_right]
  have e : (10 ^ k * 10 < 2 * (w % 10 ^ k * 10) ∨ (2 * (w % 10 ^ k * 10) = 10 ^ k * 10 ∧ w / 10 ^ k % 2 = 1)) ↔ (10 ^ k < 2 * (w % 10 ^ k) ∨ (2 * (w % 10 ^ k) = 10 ^ k ∧ w / 10 ^ k % 2 = 1)) := by omega
  simp only [e]
theorem stl_eq : ∀ (s w : Nat), stl w s = spS w s := by
  intro s
  induction s with
  | zero => intro w; rfl
  | succ s ih =>
    intro w
    unfold stl spS
    by_cases h6 : 6 < s + 1
    · rw [if_pos h6]
      have hd : dz (s + 1) w = if w % 10 = 0 then dz s (w / 10) else (w, s + 1) := rfl
      by_cases h : w % 10 = 0
      · rw [if_pos h] at hd
        rw [hd]
        have h1 := ih (w / 10)
        unfold stl at h1
        rw [h1]
        unfold spS
        obtain ⟨k, rfl⟩ : ∃ k, s = k + 6 := ⟨s - 6, by omega⟩
        have hw : w = w / 10 * 10 := by omega
        rw [show k + 6 + 1 - 6 = k + 1 by omega]
        conv => rhs; rw [hw, rnd_10]
        by_cases h7 : 6 < k + 6
        · rw [if_pos h7, show k + 6 - 6 = k by omega]
        · have : k = 0 := by omega
          subst this
          rw [if_neg h7, rnd_0]
      · rw [if_neg h] at hd
        rw [hd, if_pos h6]
    · rw [if_neg h6, if_neg (by have := (dz_le (s + 1) w).2; omega)]
theorem zL_n (n : Nat) : -(zL n) = zL (-(n : Int)) := zL_neg _
def sgd (neg : Bool) (n : Nat) : Int := if neg then -(n : Int) else n
/-- the answer holds c -/
def kZ (v : Fin 9) (c : nf_V) (M M' : nf_M) : Prop := ∃ M1, kD M M1 ∧ kW v c M1 M'
theorem s_W_settle {v : Fin 9} {t x3 : Int32} {neg : Bool} {w s : Nat} {M : nf_M} {post : Unit → nf_M → Prop} {ex : Nat → nf_M → Prop} (hn : x3 = if neg then 1 else 0) (hs : s ≤ 15) (hw : isW M w) (hb : w < 1000000000000000000000000000000) (k1 : (spS w s).1 < 1000000000000000 → ∀ M', kZ v (t, zL (sgd neg (spS w s).1), zI (spS w s).2, 0) M M' → post () M') (k0 : ¬ (spS w s).1 < 1000000000000000 → ∀ M', kD M M' → ex 4 M') : P_W_settle v t x3 (zI s) M post ex := by
  have fin : ∀ (q : Nat × Nat) (M1 : nf_M), q = spS w s → q.1 < 1000000000000000000000000000000000 → kD M M1 → isW M1 q.1 → B_W_settle_32 post ex v t x3 (zI q.2) M1 := by
    intro q M1 hq hq1 hk hw1
    unfold B_W_settle_32 B_W_settle_69
    rw [hw1.1, hw1.2.1, el0, zLeq (by omega) (by omega)]
    refine ⟨fun z => ?_, fun z => k0 (by rw [← hq]; omega) M1 hk⟩
    have hlt : q.1 < 1000000000000000 := by omega
    have k1' := k1 (by rw [← hq]; exact hlt)
    rw [← hq] at k1'
    rw [Nat.mod_eq_of_lt hlt]
    cases neg with
    | true =>
      refine ⟨fun z2 => absurd (hn.symm.trans z2) (by decide), fun _ => ?_⟩
      rw [zL_n]
      exact s_V_becomeUnits (fun M' hk' => k1' M' ⟨M1, hk, hk'⟩)
    | false =>
      refine ⟨fun _ => ?_, fun z2 => absurd hn z2⟩
      exact s_V_becomeUnits (fun M' hk' => k1' M' ⟨M1, hk, hk'⟩)
  have hdz := dz_le s w
  unfold P_W_settle P_W_dropZeros
  refine ⟨s + 1, s_W_dropZeros (M0 := M) s w M (by omega) hw (kD.rf M) (fun M1 hk1 hw1 => ?_)⟩
  have e6 : (6 : Int32) = zI (6 : Nat) := by decide
  rw [e6, zlt (by omega) (by omega)]
  have he := stl_eq s w
  unfold stl at he
  refine ⟨fun z => ?_, fun z => ?_⟩
  · rw [if_pos z] at he
    rw [zI_sub, show ((dz s w).2 : Int) - (6 : Nat) = ((dz s w).2 - 6 : Nat) by omega]
    refine s_W_roundOff (by omega) (by omega) hw1 (by omega) (fun M2 hk2 hw2 => ⟨7, s_W_dropZeros (M0 := M) 6 _ M2 (by omega) hw2 (hk1.tr hk2) (fun M3 hk3 hw3 => ?_)⟩)
    have h1 := rnd_le (dz s w).1 ((dz s w).2 - 6)
    have h2 := dz_le 6 (rnd (dz s w).1 ((dz s w).2 - 6))
    exact fin _ M3 he (by omega) hk3 hw3
  · rw [if_neg z] at he
    exact fin _ M1 he (by omega) hk1 hw1
theorem s_W_becomeQuotient {x y k : Nat} {M : nf_M} {post : Int64 → nf_M → Prop} (hx : x < 1000000000000000) (hy0 : 0 < y) (hy : y < 1000000000000000) (hk : k ≤ 12) (kk : ∀ M', kD M M' → isW M' (x * 10 ^ k / y) → post (zL (x * 10 ^ k % y : Nat)) M') : P_W_becomeQuotient (zL x) (zI k) (zL y) M post := by
  have hyn : ¬ zL y = 0 := by rw [el0, zLeq (by omega) (by omega)]; omega
  have hmod : ∀ a : Nat, a % y < y := fun a => Nat.mod_lt _ hy0
  have hq : x / y < 1000000000000000 := Nat.lt_of_le_of_lt (Nat.div_le_self _ _) hx
  unfold P_W_becomeQuotient
  refine s_F_over hyn ?_
  rw [zdiv (by omega) (by omega)]
  refine s_W_become (by omega) (fun M1 hk1 hw1 => s_F_left hyn ⟨k + 1, ?_⟩)
  rw [zmod (by omega) (by omega)]
  have key : ∀ r i : Nat, i + r = k → ∀ M2 : nf_M, kD M M2 → isW M2 (x * 10 ^ i / y) → B_W_becomeQuotient_21 post (r + 1) (zI k) (zL y) (zL (x * 10 ^ i % y : Nat)) (zI i) M2 := by
    intro r
    induction r with
    | zero =>
      intro i hi M2 hk2 hw2
      have : i = k := by omega
      subst this
      unfold B_W_becomeQuotient_21
      exact ⟨fun z => absurd z (by rw [zlt (by omega) (by omega)]; omega), fun _ => kk M2 hk2 hw2⟩
    | succ r ih =>
      intro i hi M2 hk2 hw2
      have hm := hmod (x * 10 ^ i)
      unfold B_W_becomeQuotient_21
      refine ⟨fun _ => s_F_over hyn ?_, fun z => absurd (show zI i < zI k by rw [zlt (by omega) (by omega)]; omega) z⟩
      generalize hr : x * 10 ^ i % y = q at hm ⊢
      rw [e10, zLmul, zdiv (by omega) (by omega)]
      have hd : q * 10 / y < 10 := by
        rw [Nat.div_lt_iff_lt_mul hy0]
        omega
      have hbig : x * 10 ^ i / y < 10000000000000000000000000000000 := by
        have h1 : 10 ^ i ≤ 10 ^ 12 := Nat.pow_le_pow_right (by decide) (by omega)
        have h2 : x * 10 ^ i ≤ 1000000000000000 * 10 ^ 12 := Nat.mul_le_mul (by omega) h1
        have h3 := Nat.div_le_self (x * 10 ^ i) y
        omega
      refine s_W_addDigit hw2 hd hbig (fun M3 hk3 hw3 => s_F_left hyn ?_)
      rw [zmod (by omega) (by omega), show (1 : Int32) = zI (1 : Nat) by decide, zI_add, show (i : Int) + (1 : Nat) = ((i + 1 : Nat) : Int) by omega]
      have hdm := Nat.div_add_mod (x * 10 ^ i) y
      rw [hr] at hdm
      have e1 : x * 10 ^ (i + 1) = (x * 10 ^ i / y * 10) * y + q * 10 := by
        rw [Nat.pow_succ, ← Nat.mul_assoc, ← hdm]
        generalize x * 10 ^ i / y = g
        rw [show (y * g + q) / y * 10 * y = (y * g + q) / y * 10 * y from rfl]
        have e9 : (y * g + q) / y = g := by
          rw [Nat.mul_add_div hy0, Nat.div_eq_of_lt hm, Nat.add_zero]
        rw [e9]
        grind
      have e2 : x * 10 ^ (i + 1) % y = q * 10 % y := by
        rw [e1, Nat.mul_comm _ y, Nat.mul_add_mod]
      have e3 : x * 10 ^ (i + 1) / y = x * 10 ^ i / y * 10 + q * 10 / y := by
        rw [e1, Nat.mul_comm _ y, Nat.mul_add_div hy0]
      rw [← e2]
      refine ih (i + 1) (by omega) M3 (hk2.tr hk3) ?_
      rw [e3]
      exact hw3
  have h0 := key k 0 (by omega) M1 hk1 (by rw [Nat.pow_zero, Nat.mul_one]; exact hw1)
  rw [Nat.pow_zero, Nat.mul_one] at h0
  exact h0
