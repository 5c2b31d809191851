/-! exact numbers: the reference's four ways to reckon -/
abbrev lim (u : Int) : Prop := -1000000000000000 < u ∧ u < 1000000000000000
theorem zL_neg0 {u : Int} (h : -4000000000000000000 < u ∧ u < 4000000000000000000) : zL u < (0 : Int64) ↔ u < 0 := by
  rw [show (0 : Int64) = zL 0 by decide, zL_lt (by omega) (by omega) (by omega) (by omega)]
theorem s_M_amount {u : Int} {M : nf_M} {post : Int64 → nf_M → Prop} (h : -4000000000000000000 < u ∧ u < 4000000000000000000) (k : post (zL u.natAbs) M) : P_M_amount (zL u) M post := by
  unfold P_M_amount B_M_amount_12
  rw [zL_neg0 h, zL_neg]
  refine ⟨fun z => ?_, fun z => ?_⟩
  · rw [show -u = (u.natAbs : Int) by omega]; exact k
  · rw [show u = (u.natAbs : Int) by omega]; exact k
theorem s_JM_abs {u : Int} {M : nf_M} {post : Int64 → nf_M → Prop} (h : -4000000000000000000 < u ∧ u < 4000000000000000000) (k : post (zL u.natAbs) M) : P_JM_abs_JJ (zL u) M post := by
  unfold P_JM_abs_JJ B_JM_abs_JJ_12
  rw [zL_neg0 h, zL_neg]
  refine ⟨fun z => ?_, fun z => ?_⟩
  · rw [show -u = (u.natAbs : Int) by omega]; exact k
  · rw [show u = (u.natAbs : Int) by omega]; exact k
theorem isG_0 (M : nf_M) : isG (ms_I M 19 13 0) 0 0 ∧ kG M (ms_I M 19 13 0) := ⟨⟨by omega, show (0 : Int32) = zI (0 : Nat) by decide, fun _ => 0, fun i hi => absurd hi (Nat.not_lt_zero _), rfl⟩, kO_19 M 13 _ (by decide) (by decide), rfl, rfl⟩
theorem rou_0 (w : Nat) : rou w 0 = w := by unfold rou; rw [if_neg (by omega)]
theorem resM_of {neg : Bool} {q : Nat × Nat} {A B C : nf_M} (h : kH A B) (r : resM neg q B C) : resM neg q A C := ⟨h.tr r.1, r.2⟩
theorem e0i : (0 : Int32) = zI (0 : Nat) := by decide
theorem e6i : (6 : Int32) = zI (6 : Nat) := by decide
theorem e19i : (19 : Int32) = zI (19 : Nat) := by decide
theorem e8i : (8 : Int32) = zI (8 : Nat) := by decide
theorem s_M_keep {u : Int} {p : Nat} {M : nf_M} {post : Unit → nf_M → Prop} (hu : -2000000000000000 < u ∧ u < 2000000000000000) (hp : p ≤ 6) (h9 : mg_I M 19 9 = 0) (k : ∀ M', resM (decide (u < 0)) (dz p u.natAbs) M M' → post () M') : P_M_keep (zL u) (zI p) M post := by
  obtain ⟨g1, g2⟩ := isG_0 M
  unfold P_M_keep B_M_keep_27
  intro M1 e1
  rw [← e1] at g1 g2
  refine s_M_amount (by omega) ?_
  rw [e19i]
  refine s_M_addDigits (by omega) (by omega) (by omega) g1 (fun M2 k2 g3 => ?_)
  have hw : 0 * 10 ^ 19 + u.natAbs % 10 ^ 19 = u.natAbs := by omega
  rw [hw] at g3
  have hfin : ∀ M', resM (decide (u < 0)) (dz p (rou u.natAbs 0)) M2 M' → post () M' := fun M' r => k M' (resM_of (g2.tr k2).H (by rw [rou_0] at r; exact r))
  have h92 : mg_I M2 19 9 = 0 := (g2.tr k2).2.1.trans h9
  rw [zL_neg0 (by omega), e0i]
  refine ⟨fun z => ?_, fun z => ?_⟩
  · exact s_M_settle_small (neg := decide (u < 0)) (by rw [decide_eq_true z]; rfl) (by omega) (by omega) hp (by omega) g3 h92 (by rw [rou_0]; omega) hfin
  · exact s_M_settle_small (neg := decide (u < 0)) (by rw [decide_eq_false z]; rfl) (by omega) (by omega) hp (by omega) g3 h92 (by rw [rou_0]; omega) hfin
/-- other signs -/
def oth (a b : Int) : Bool := decide ((a < 0) ≠ (b < 0))
theorem oth_t {a b : Int} (h : (a < 0 ∧ ¬ b < 0) ∨ (¬ a < 0 ∧ b < 0)) : oth a b = true := by
  unfold oth
  refine decide_eq_true (fun e => ?_)
  rcases h with ⟨x, y⟩ | ⟨x, y⟩
  · exact y (e ▸ x)
  · exact x (e ▸ y)
theorem oth_f {a b : Int} (h : (a < 0 ∧ b < 0) ∨ (¬ a < 0 ∧ ¬ b < 0)) : oth a b = false := by
  unfold oth
  refine decide_eq_false (fun e => e ?_)
  rcases h with ⟨x, y⟩ | ⟨x, y⟩
  · exact propext ⟨fun _ => y, fun _ => x⟩
  · exact propext ⟨fun z => absurd z x, fun z => absurd z y⟩
theorem e8l : (100000000 : Int64) = zL (100000000 : Nat) := by decide
theorem rnd_le2 (w k : Nat) : rnd w k ≤ w / 10 ^ k + 1 := by
  unfold rnd
  split <;> omega
theorem horner (A B C : Nat) : ((0 * 10 ^ 19 + A) * 10 ^ 8 + B) * 10 ^ 8 + C = A * 10000000000000000 + B * 100000000 + C := by omega
theorem limbs (x y : Nat) : (x / 100000000 * (y / 100000000) + (x % 100000000 * (y / 100000000) + x / 100000000 * (y % 100000000) + x % 100000000 * (y % 100000000) / 100000000) / 100000000) * 10000000000000000 + (x % 100000000 * (y / 100000000) + x / 100000000 * (y % 100000000) + x % 100000000 * (y % 100000000) / 100000000) % 100000000 * 100000000 + x % 100000000 * (y % 100000000) % 100000000 = x * y := by
  have hx := Nat.div_add_mod x 100000000
  have hy := Nat.div_add_mod y 100000000
  generalize x / 100000000 = a at *
  generalize x % 100000000 = b at *
  generalize y / 100000000 = c at *
  generalize y % 100000000 = d at *
  have e : x * y = a * c * 10000000000000000 + (b * c + a * d) * 100000000 + b * d := by
    rw [← hx, ← hy]
    grind
  rw [e]
  generalize a * c = p
  generalize b * c = q
  generalize a * d = r
  generalize b * d = t
  omega
theorem s_M_product {a b : Int} {p q : Nat} {M : nf_M} {post : Unit → nf_M → Prop} (ha : lim a) (hb : lim b) (hp : p ≤ 6) (hq : q ≤ 6) (h9 : mg_I M 19 9 = 0) (k : ∀ M', resM (oth a b) (spS (a.natAbs * b.natAbs) (p + q)) M M' → post () M') : P_M_product (zL a) (zI p) (zL b) (zI q) M post := by
  unfold P_M_product
  refine s_M_amount (by omega) (s_M_amount (by omega) ?_)
  intro t5 e5 t6 e6 t7 e7 t8 e8 t9 e9 t10 e10' t11 e11 M12 e12
  have hx : a.natAbs < 1000000000000000 := by omega
  have hy : b.natAbs < 1000000000000000 := by omega
  have hlim := limbs a.natAbs b.natAbs
  generalize a.natAbs = x at hx hlim k e5 e6
  generalize b.natAbs = y at hy hlim k e7 e8
  rw [e8l, zmod (by omega) (by omega)] at e5
  rw [e8l, zdiv (by omega) (by omega)] at e6
  rw [e8l, zmod (by omega) (by omega)] at e7
  rw [e8l, zdiv (by omega) (by omega)] at e8
  have b1 : x % 100000000 * (y % 100000000) ≤ 100000000 * 100000000 := Nat.mul_le_mul (by omega) (by omega)
  have b2 : x % 100000000 * (y / 100000000) ≤ 100000000 * 10000000 := Nat.mul_le_mul (by omega) (by omega)
  have b3 : x / 100000000 * (y % 100000000) ≤ 10000000 * 100000000 := Nat.mul_le_mul (by omega) (by omega)
  have b4 : x / 100000000 * (y / 100000000) ≤ 10000000 * 10000000 := Nat.mul_le_mul (by omega) (by omega)
  rw [e5, e7, zLmul] at e9
  rw [e5, e6, e7, e8, e9, e8l, zLmul, zLmul, zLadd, zdiv (by omega) (by omega), zLadd] at e10'
  rw [e6, e8, e10', e8l, zLmul, zdiv (by omega) (by omega), zLadd] at e11
  have hxy : x * y ≤ 999999999999999 * 999999999999999 := Nat.mul_le_mul (by omega) (by omega)
  generalize x % 100000000 * (y % 100000000) = one at *
  generalize x % 100000000 * (y / 100000000) = m1 at *
  generalize x / 100000000 * (y % 100000000) = m2 at *
  generalize x / 100000000 * (y / 100000000) = top at *
  obtain ⟨g1, g2⟩ := isG_0 M
  rw [← e12] at g1 g2
  rw [e11, e10', e9, e8l, zmod (by omega) (by omega), zmod (by omega) (by omega), e19i, e8i]
  refine s_M_addDigits (by omega) (by omega) (by omega) g1 (fun M14 k14 g14 => s_M_addDigits (by omega) (by omega) (by omega) g14 (fun M16 k16 g16 => s_M_addDigits (by omega) (by omega) (by omega) g16 (fun M18 k18 g18 => ?_)))
  have hk := ((g2.tr k14).tr k16).tr k18
  have hw : ((0 * 10 ^ 19 + (top + (m1 + m2 + one / 100000000) / 100000000) % 10 ^ 19) * 10 ^ 8 + (m1 + m2 + one / 100000000) % 100000000 % 10 ^ 8) * 10 ^ 8 + one % 100000000 % 10 ^ 8 = x * y := by
    rw [← hlim]
    have q1 : (top + (m1 + m2 + one / 100000000) / 100000000) % 10 ^ 19 = top + (m1 + m2 + one / 100000000) / 100000000 := Nat.mod_eq_of_lt (by omega)
    have q2 : (m1 + m2 + one / 100000000) % 100000000 % 10 ^ 8 = (m1 + m2 + one / 100000000) % 100000000 := Nat.mod_mod _ 100000000
    have q3 : one % 100000000 % 10 ^ 8 = one % 100000000 := Nat.mod_mod _ 100000000
    rw [q1, q2, q3]
    exact horner _ _ _
  rw [hw] at g18
  have h92 : mg_I M18 19 9 = 0 := hk.2.1.trans h9
  unfold B_M_product_135 B_M_product_147 B_M_product_155
  rw [zL_neg0 (by omega), zL_neg0 (by omega), zI_add, show (p : Int) + q = ((p + q : Nat) : Int) by omega]
  have fin : ∀ x1 : Int32, x1 = (if oth a b then 1 else 0) → P_M_settle x1 (zI (p + q : Nat)) 0 M18 (fun _ M2 => post () M2) := fun x1 h1 => by
    rw [e0i]
    by_cases h6 : 6 < p + q
    · refine s_M_settle_big (neg := oth a b) h1 h6 (by omega) g18 h92 ?_ (fun M' r => k M' (resM_of hk.H r))
      have h3 := rnd_le2 (x * y) (p + q - 6)
      have h4 : 10 ^ 29 ≤ 10 ^ (0 + 19 + 8 + 8 - (p + q - 6)) := Nat.pow_le_pow_right (by decide) (by omega)
      have h5 : x * y / 10 ^ (p + q - 6) ≤ x * y / 10 := Nat.div_le_div_left (by
        have := Nat.pow_le_pow_right (show 0 < 10 by decide) (show 1 ≤ p + q - 6 by omega)
        omega) (by decide)
      omega
    · refine s_M_settle_small (neg := oth a b) h1 (by omega) (by omega) (by omega) (by omega) g18 h92 (by rw [rou_0]; omega) (fun M' r => k M' (resM_of hk.H ?_))
      rw [rou_0] at r
      unfold spS
      rw [if_neg h6]
      exact r
  refine ⟨fun za => ⟨fun zb => ⟨fun _ => fin 0 ?_, fun z => absurd rfl z⟩, fun zb => ⟨fun z => absurd z (by decide), fun _ => fin 1 ?_⟩⟩, fun za => ⟨fun zb => ⟨fun z => absurd z (by decide), fun _ => fin 1 ?_⟩, fun zb => ⟨fun _ => fin 0 ?_, fun z => absurd rfl z⟩⟩⟩
  · rw [oth_f (Or.inl ⟨za, zb⟩)]; rfl
  · rw [oth_t (Or.inl ⟨za, zb⟩)]; rfl
  · rw [oth_t (Or.inr ⟨za, zb⟩)]; rfl
  · rw [oth_f (Or.inr ⟨za, zb⟩)]; rfl
