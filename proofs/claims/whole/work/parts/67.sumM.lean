/-! exact numbers: the reference's sum and rest -/
theorem tdm (f d : Int) (hd : 0 < d) : (0 ≤ f → 0 ≤ f - f.tdiv d * d ∧ f - f.tdiv d * d < d ∧ 0 ≤ f.tdiv d ∧ f.tdiv d ≤ f) ∧ (f ≤ 0 → -d < f - f.tdiv d * d ∧ f - f.tdiv d * d ≤ 0 ∧ f.tdiv d ≤ 0 ∧ f ≤ f.tdiv d) := by
  have key : ∀ g : Int, 0 ≤ g → 0 ≤ g - g.tdiv d * d ∧ g - g.tdiv d * d < d ∧ 0 ≤ g.tdiv d ∧ g.tdiv d ≤ g := fun g hg => by
    rw [Int.tdiv_eq_ediv_of_nonneg hg]
    have h1 := Int.emod_nonneg g (show d ≠ 0 by omega)
    have h2 := Int.emod_lt_of_pos g hd
    have h3 := Int.mul_ediv_add_emod g d
    have h4 : 0 ≤ g / d := Int.ediv_nonneg hg (by omega)
    have h5 : g / d ≤ g := Int.ediv_le_self _ hg
    rw [Int.mul_comm] at h3
    exact ⟨by omega, by omega, h4, h5⟩
  refine ⟨key f, fun hf => ?_⟩
  have h := key (-f) (by omega)
  rw [Int.neg_tdiv, Int.neg_mul] at h
  omega
theorem s_M_sum110 {w f : Int} {M : nf_M} {post : Unit → nf_M → Prop} (hw : -100000000000000000 < w ∧ w < 100000000000000000) (hf : -1000000 < f ∧ f < 1000000) (h9 : mg_I M 19 9 = 0) (k : ∀ M', resM (decide (w < 0 ∨ f < 0)) (dz 6 (w.natAbs * 1000000 + f.natAbs)) M M' → post () M') : B_M_sum_110 post (zL w) (zL f) M := by
  obtain ⟨g1, g2⟩ := isG_0 M
  unfold B_M_sum_110 B_M_sum_152 B_M_sum_157
  intro M1 e1
  rw [← e1] at g1 g2
  rw [e19i, e6i]
  refine s_M_amount (by omega) (s_M_addDigits (by omega) (by omega) (by omega) g1 (fun M2 k2 gg2 => s_M_amount (by omega) (s_M_addDigits (by omega) (by omega) (by omega) gg2 (fun M3 k3 gg3 => ?_))))
  have hv : (0 * 10 ^ 19 + w.natAbs % 10 ^ 19) * 10 ^ 6 + f.natAbs % 10 ^ 6 = w.natAbs * 1000000 + f.natAbs := by omega
  rw [hv] at gg3
  have hk := (g2.tr k2).tr k3
  have h93 : mg_I M3 19 9 = 0 := hk.2.1.trans h9
  have fin : ∀ x1 : Int32, x1 = (if decide (w < 0 ∨ f < 0) then 1 else 0) → P_M_settle x1 (zI (6 : Nat)) 0 M3 (fun _ M2 => post () M2) := fun x1 h1 => by
    rw [e0i]
    refine s_M_settle_small (neg := decide (w < 0 ∨ f < 0)) h1 (by omega) (by omega) (by omega) (by omega) gg3 h93 (by rw [rou_0]; omega) (fun M' r => k M' (resM_of hk.H ?_))
    rw [rou_0] at r
    exact r
  rw [zL_neg0 (by omega), zL_neg0 (by omega)]
  refine ⟨fun z => fin 1 (by rw [decide_eq_true (Or.inl z)]; rfl), fun z => ⟨fun z2 => fin 1 (by rw [decide_eq_true (Or.inr z2)]; rfl), fun z2 => fin 0 (by rw [decide_eq_false (by omega)]; rfl)⟩⟩
def mil (a : Int) (p : Nat) : Int := (a - a.tdiv (10 ^ p : Nat) * (10 ^ p : Nat)) * (10 ^ (6 - p) : Nat)
theorem p6 {p : Nat} (h : p ≤ 6) : 10 ^ p * 10 ^ (6 - p) = 1000000 := by
  rw [← Nat.pow_add, show p + (6 - p) = 6 by omega]
theorem mil_eq (a : Int) {p : Nat} (h : p ≤ 6) : a * (10 ^ (6 - p) : Nat) = a.tdiv (10 ^ p : Nat) * 1000000 + mil a p := by
  unfold mil
  have h6 : ((10 ^ p : Nat) : Int) * ((10 ^ (6 - p) : Nat) : Int) = 1000000 := by rw [← Int.natCast_mul, p6 h]; rfl
  rw [Int.sub_mul, Int.mul_assoc, h6]
  omega
theorem mil_b (a : Int) {p : Nat} (h : p ≤ 6) : -1000000 < mil a p ∧ mil a p < 1000000 ∧ (0 ≤ a → 0 ≤ mil a p) ∧ (a ≤ 0 → mil a p ≤ 0) := by
  unfold mil
  have h6 : ((10 ^ p : Nat) : Int) * ((10 ^ (6 - p) : Nat) : Int) = 1000000 := by rw [← Int.natCast_mul, p6 h]; rfl
  have hp := p_pos p
  have hq := p_pos (6 - p)
  obtain ⟨t1, t2⟩ := tdm a (10 ^ p : Nat) (by omega)
  generalize a - a.tdiv ((10 ^ p : Nat) : Int) * ((10 ^ p : Nat) : Int) = r at *
  generalize ((10 ^ p : Nat) : Int) = P at *
  have hq' : (0 : Int) < ((10 ^ (6 - p) : Nat) : Int) := by omega
  generalize ((10 ^ (6 - p) : Nat) : Int) = Q at *
  have q1 : 0 ≤ r → r < P → 0 ≤ r * Q ∧ r * Q < 1000000 := fun a1 a2 => ⟨Int.mul_nonneg a1 (by omega), by rw [← h6]; exact Int.mul_lt_mul_of_pos_right a2 hq'⟩
  have q2 : r ≤ 0 → -P < r → r * Q ≤ 0 ∧ -1000000 < r * Q := fun a1 a2 => by
    have b1 : 0 ≤ (-r) * Q := Int.mul_nonneg (by omega) (by omega)
    have b2 : (-r) * Q < P * Q := Int.mul_lt_mul_of_pos_right (by omega) hq'
    rw [Int.neg_mul] at b1 b2
    omega
  by_cases ha : 0 ≤ a
  · have c1 := t1 ha
    have c2 := q1 c1.1 c1.2.1
    by_cases ha2 : a ≤ 0
    · have c3 := t2 ha2
      have c4 := q2 c3.2.1 c3.1
      omega
    · omega
  · have c3 := t2 (by omega)
    have c4 := q2 c3.2.1 c3.1
    omega
theorem s_M_mil {a : Int} {p : Nat} {M : nf_M} {post : Int64 → nf_M → Prop} (ha : lim a) (hp : p ≤ 6) (k : post (zL (mil a p)) M) : P_M_millionths (zL a) (zI p) M post := by
  have hpl := pow_lt19 (k := p) (by omega)
  unfold P_M_millionths
  refine s_M_power (by omega) ⟨pw_ne (by omega), ?_⟩
  rw [e6i, zI_sub, show ((6 : Nat) : Int) - (p : Int) = ((6 - p : Nat) : Int) by omega]
  refine s_M_power (by omega) ?_
  have e : (zL a - zL a / lN (10 ^ p) * lN (10 ^ p)) * lN (10 ^ (6 - p)) = zL (mil a p) := by
    unfold mil
    rw [lN_z, lN_z]
    generalize 10 ^ p = A at *
    rw [zL_div (by omega) (by omega) (by omega) (by omega), zL_mul, zL_sub, zL_mul]
  rw [e]
  exact k
/-- the sum, in millionths -/
def summ (a : Int) (p : Nat) (b : Int) (q : Nat) : Int := a * (10 ^ (6 - p) : Nat) + b * (10 ^ (6 - q) : Nat)
theorem s_M_sum {a b : Int} {p q : Nat} {M : nf_M} {post : Unit → nf_M → Prop} (ha : lim a) (hb : lim b) (hp : p ≤ 6) (hq : q ≤ 6) (h9 : mg_I M 19 9 = 0) (k : ∀ M', resM (decide (summ a p b q < 0)) (dz 6 (summ a p b q).natAbs) M M' → post () M') : P_M_sum (zL a) (zI p) (zL b) (zI q) M post := by
  have hpl := pow_lt19 (k := p) (by omega)
  have hql := pow_lt19 (k := q) (by omega)
  have hp0 := p_pos p
  have hq0 := p_pos q
  unfold P_M_sum
  refine s_M_power (by omega) ⟨pw_ne (by omega), s_M_power (by omega) ⟨pw_ne (by omega), fun t7 e7 => s_M_mil ha hp (s_M_mil hb hq (fun t12 e12 t13 e13 t14 e14' => ?_))⟩⟩
  have hs : summ a p b q = (a.tdiv (10 ^ p : Nat) + b.tdiv (10 ^ q : Nat)) * 1000000 + (mil a p + mil b q) := by
    unfold summ
    rw [mil_eq a hp, mil_eq b hq]
    omega
  have m1 := mil_b a hp
  have m2 := mil_b b hq
  have ta := tdm a (10 ^ p : Nat) (by omega)
  have tb := tdm b (10 ^ q : Nat) (by omega)
  rw [hs] at k
  rw [lN_z, lN_z] at e7
  have ea : zL a / zL ((10 ^ p : Nat) : Int) = zL (a.tdiv (10 ^ p : Nat)) := by
    generalize 10 ^ p = A at *
    exact zL_div (by omega) (by omega) (by omega) (by omega)
  have eb : zL b / zL ((10 ^ q : Nat) : Int) = zL (b.tdiv (10 ^ q : Nat)) := by
    generalize 10 ^ q = A at *
    exact zL_div (by omega) (by omega) (by omega) (by omega)
  rw [ea, eb, zL_add] at e7
  have hwa : -1000000000000000 < a.tdiv (10 ^ p : Nat) ∧ a.tdiv (10 ^ p : Nat) < 1000000000000000 := by
    generalize a.tdiv ((10 ^ p : Nat) : Int) = A at *
    omega
  have hwb : -1000000000000000 < b.tdiv (10 ^ q : Nat) ∧ b.tdiv (10 ^ q : Nat) < 1000000000000000 := by
    generalize b.tdiv ((10 ^ q : Nat) : Int) = A at *
    omega
  clear ta tb ea eb hs
  generalize a.tdiv ((10 ^ p : Nat) : Int) = wa at *
  generalize b.tdiv ((10 ^ q : Nat) : Int) = wb at *
  generalize mil a p = fa at *
  generalize mil b q = fb at *
  have em : (1000000 : Int64) = zL 1000000 := by decide
  have e1 : (1 : Int64) = zL 1 := by decide
  have e0 : (0 : Int64) = zL 0 := by decide
  rw [zL_add] at e12
  have td := tdm (fa + fb) 1000000 (by decide)
  rw [e7, e12, em, zL_div (by omega) (by omega) (by omega) (by omega), zL_add] at e13
  rw [e12, em, zL_div (by omega) (by omega) (by omega) (by omega), zL_mul, zL_sub] at e14'
  rw [e13, e14']
  generalize (fa + fb).tdiv 1000000 = c at *
  have fin : ∀ w f : Int, w * 1000000 + f = (wa + wb) * 1000000 + (fa + fb) → -1000000 < f → f < 1000000 → (0 ≤ w ∧ 0 ≤ f ∨ w ≤ 0 ∧ f ≤ 0) → B_M_sum_110 post (zL w) (zL f) M := fun w f h1 h2 h3 h4 => by
    refine s_M_sum110 (by omega) ⟨h2, h3⟩ h9 (fun M' r => k M' ?_)
    have d1 : decide (w < 0 ∨ f < 0) = decide ((wa + wb) * 1000000 + (fa + fb) < 0) := by
      by_cases z : w < 0 ∨ f < 0
      · rw [decide_eq_true z, decide_eq_true (by omega)]
      · rw [decide_eq_false z, decide_eq_false (by omega)]
    have d2 : w.natAbs * 1000000 + f.natAbs = ((wa + wb) * 1000000 + (fa + fb)).natAbs := by omega
    rw [d1, d2] at r
    exact r
  unfold B_M_sum_82
  have lt0 : ∀ z : Int, -4000000000000000000 < z → z < 4000000000000000000 → ((0 : Int64) < zL z ↔ 0 < z) := fun z h1 h2 => by rw [e0, zL_lt (by omega) (by omega) (by omega) (by omega)]
  rw [lt0 _ (by omega) (by omega), lt0 _ (by omega) (by omega), zL_neg0 (by omega), zL_neg0 (by omega)]
  refine ⟨fun z => ⟨fun z2 t15 e15 t16 e16 => ?_, fun z2 => ⟨fun z3 => by omega, fun z3 => fin _ _ (by omega) (by omega) (by omega) (by omega)⟩⟩, fun z => ⟨fun z2 => ⟨fun z3 t1 e1' t2 e2' => ?_, fun z3 => fin _ _ (by omega) (by omega) (by omega) (by omega)⟩, fun z2 => fin _ _ (by omega) (by omega) (by omega) (by omega)⟩⟩
  · rw [e15, e16, e1, em, zL_sub, zL_add]
    exact fin _ _ (by omega) (by omega) (by omega) (by omega)
  · rw [e1', e2', e1, em, zL_sub, zL_add]
    exact fin _ _ (by omega) (by omega) (by omega) (by omega)
