/-! exact numbers: the system's product, quotient, whole part, rest -/
theorem wide_prod (top mid bot : Nat) : top * 10000000000000000 + mid * 100000000 + bot = (top * 10 + mid / 10000000 + bot / 1000000000000000 + (mid % 10000000 * 100000000 + bot % 1000000000000000) / 1000000000000000) * 1000000000000000 + (mid % 10000000 * 100000000 + bot % 1000000000000000) % 1000000000000000 := by omega
theorem prod_split (x y : Nat) : x * y = x / 100000000 * (y / 100000000) * 10000000000000000 + (x / 100000000 * (y % 100000000) + x % 100000000 * (y / 100000000)) * 100000000 + x % 100000000 * (y % 100000000) := by
  have hx := Nat.div_add_mod x 100000000
  have hy := Nat.div_add_mod y 100000000
  generalize x / 100000000 = a at *
  generalize x % 100000000 = b at *
  generalize y / 100000000 = c at *
  generalize y % 100000000 = d at *
  rw [← hx, ← hy]
  grind
theorem e7l : (10000000 : Int64) = zL (10000000 : Nat) := by decide
theorem s_W_becomeProduct {x y : Nat} {M : nf_M} {post : Unit → nf_M → Prop} (hx : x < 1000000000000000) (hy : y < 1000000000000000) (k : ∀ M', kD M M' → isW M' (x * y) → post () M') : P_W_becomeProduct (zL x) (zL y) M post := by
  unfold P_W_becomeProduct
  intro t1 e1 t2 e2 t3 e3 t4 e4 M5 e5 t6 e6 M7 e7
  have hsp := prod_split x y
  have b1 : x % 100000000 * (y % 100000000) ≤ 100000000 * 100000000 := Nat.mul_le_mul (by omega) (by omega)
  have b2 : x % 100000000 * (y / 100000000) ≤ 100000000 * 10000000 := Nat.mul_le_mul (by omega) (by omega)
  have b3 : x / 100000000 * (y % 100000000) ≤ 10000000 * 100000000 := Nat.mul_le_mul (by omega) (by omega)
  have b4 : x / 100000000 * (y / 100000000) ≤ 10000000 * 10000000 := Nat.mul_le_mul (by omega) (by omega)
  rw [e8l, zdiv (by omega) (by omega), zdiv (by omega) (by omega)] at e4
  rw [e8l, zmod (by omega) (by omega), zmod (by omega) (by omega), zdiv (by omega) (by omega), zdiv (by omega) (by omega), zLmul, zLmul, zLadd] at e1
  rw [e8l, zmod (by omega) (by omega), zmod (by omega) (by omega), zLmul] at e2
  generalize x % 100000000 * (y % 100000000) = bot at *
  generalize x % 100000000 * (y / 100000000) = m1 at *
  generalize x / 100000000 * (y % 100000000) = m2 at *
  rw [e1, e2, e7l, e8l, e15, zmod (by omega) (by omega), zmod (by omega) (by omega), zLmul, zLadd] at e3
  rw [e1, e2, e3, e7l, e10, e15, zLmul, zLmul, zdiv (by omega) (by omega), zdiv (by omega) (by omega), zdiv (by omega) (by omega), zLadd, zLadd, zLadd] at e4
  rw [e3, e15, zmod (by omega) (by omega)] at e6
  generalize x / 100000000 * (y / 100000000) = top at *
  have hw := wide_prod top (m2 + m1) bot
  rw [← hsp] at hw
  subst e4 e5 e6 e7
  refine k _ (kD_92 _ _ _ _ _) ⟨?_, ?_, by omega⟩
  · rw [(g90 _ _ _).1]; congr 2; omega
  · rw [(g90 _ _ _).2]; congr 2; omega
theorem s_F_haveOtherSigns {v w : Fin 9} {a b : Int} {M : nf_M} {post : Int32 → nf_M → Prop} (ha : mg_U M v = zL a) (hb : mg_U M w = zL b) (la : lim a) (lb : lim b) (k : post (if oth a b then 1 else 0) M) : P_F_haveOtherSigns v w M post := by
  unfold P_F_haveOtherSigns B_F_haveOtherSigns_14 B_F_haveOtherSigns_28 B_F_haveOtherSigns_36
  rw [ha, hb, zL_neg0 (by omega), zL_neg0 (by omega)]
  refine ⟨fun za => ⟨fun zb => ⟨fun _ => ⟨rfl, ?_⟩, fun z => absurd rfl z⟩, fun zb => ⟨fun z => absurd z (by decide), fun _ => ⟨rfl, ?_⟩⟩⟩, fun za => ⟨fun zb => ⟨fun z => absurd z (by decide), fun _ => ⟨rfl, ?_⟩⟩, fun zb => ⟨fun _ => ⟨rfl, ?_⟩, fun z => absurd rfl z⟩⟩⟩
  · rw [oth_f (Or.inl ⟨za, zb⟩)] at k; exact k
  · rw [oth_t (Or.inl ⟨za, zb⟩)] at k; exact k
  · rw [oth_t (Or.inr ⟨za, zb⟩)] at k; exact k
  · rw [oth_f (Or.inr ⟨za, zb⟩)] at k; exact k
theorem rup_rou (w r y : Nat) : (rup (w % 1000000000000000) r y → rou w (lf r y) = w + 1) ∧ (¬ rup (w % 1000000000000000) r y → rou w (lf r y) = w) := by
  have hpar : w % 1000000000000000 % 2 = w % 2 := by omega
  unfold rou lf rup
  rw [hpar]
  refine ⟨fun h => ?_, fun h => ?_⟩
  · rw [if_pos]
    by_cases h1 : y < 2 * r
    · rw [if_pos h1]; exact Or.inl rfl
    · rw [if_neg h1, if_pos (by omega)]; exact Or.inr ⟨rfl, by omega⟩
  · rw [if_neg]
    rw [if_neg (by omega)]
    by_cases h2 : 2 * r = y
    · rw [if_pos h2]; omega
    · rw [if_neg h2]; split <;> omega
theorem q_bound {x y k : Nat} (hx : x < 1000000000000000) (hk : k ≤ 12) : x * 10 ^ k / y < 10000000000000000000000000000 := by
  have h1 : 10 ^ k ≤ 10 ^ 12 := Nat.pow_le_pow_right (by decide) (by omega)
  have h2 : x * 10 ^ k ≤ 1000000000000000 * 10 ^ 12 := Nat.mul_le_mul (by omega) h1
  have h3 := Nat.div_le_self (x * 10 ^ k) y
  omega
theorem s_F_exactQuotient {v w : Fin 9} {a b : Int} {p q : Nat} {M : nf_M} {post : Unit → nf_M → Prop} {ex : Nat → nf_M → Prop} (la : lim a) (lb : lim b) (hb0 : b ≠ 0) (hp : p ≤ 6) (hq : q ≤ 6) (ha : atV M v a p) (hb : atV M w b q) (k : resF 0 (oth a b) (dz 6 (rou (a.natAbs * 10 ^ (6 + q - p) / b.natAbs) (lf (a.natAbs * 10 ^ (6 + q - p) % b.natAbs) b.natAbs))) M post ex) : P_F_exactQuotient v w M post ex := by
  obtain ⟨a1, a2⟩ := ha M (kD.rf M)
  obtain ⟨b1, b2⟩ := hb M (kD.rf M)
  have hx : a.natAbs < 1000000000000000 := by omega
  have hy : b.natAbs < 1000000000000000 := by omega
  have hy0 : 0 < b.natAbs := by omega
  unfold P_F_exactQuotient
  rw [b1]
  refine s_JM_abs (by omega) ?_
  rw [a1]
  refine s_JM_abs (by omega) ?_
  rw [b2, a2, e6i, zI_add, zI_sub, show ((6 : Nat) : Int) + q - p = ((6 + q - p : Nat) : Int) by omega]
  generalize a.natAbs = x at *
  generalize b.natAbs = y at *
  refine s_W_becomeQuotient hx hy0 hy (by omega) (fun M1 k1 w1 => ?_)
  have hbd := q_bound (x := x) (y := y) (k := 6 + q - p) hx (by omega)
  have hr : x * 10 ^ (6 + q - p) % y < y := Nat.mod_lt _ hy0
  generalize x * 10 ^ (6 + q - p) / y = W at *
  generalize x * 10 ^ (6 + q - p) % y = r at *
  have h60 : ∀ M2, kD M1 M2 → isW M2 (rou W (lf r y)) → B_F_exactQuotient_60 post ex v w M2 := fun M2 k2 w2 => by
    unfold B_F_exactQuotient_60
    have hk := k1.tr k2
    have hro : rou W (lf r y) ≤ W + 1 := by unfold rou; split <;> omega
    refine s_F_haveOtherSigns (ha M2 hk).1 (hb M2 hk).1 la lb ?_
    rw [e6i]
    refine s_W_settleF (neg := oth a b) rfl (by omega) hk w2 (by omega) ?_
    unfold spS
    rw [if_neg (by omega)]
    exact k
  rw [w1.2.1]
  obtain ⟨r1, r0⟩ := rup_rou W r y
  refine s_F_isRoundedUp (by omega) (by omega) (by omega) (fun z => ⟨fun z2 => absurd z2 (by decide), fun _ => s_W_increase w1 (by omega) (fun M2 k2 w2 => h60 M2 k2 (by rw [r1 z]; exact w2))⟩) (fun z => ⟨fun _ => h60 M1 (kD.rf M1) (by rw [r0 z]; exact w1), fun z2 => absurd rfl z2⟩)
