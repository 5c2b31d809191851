/-! exact numbers: the system's whole part and rest -/
theorem s_F_exactWholePart {v w : Fin 9} {a b : Int} {p q : Nat} {M : nf_M} {post : Unit → nf_M → Prop} {ex : Nat → nf_M → Prop} (la : lim a) (lb : lim b) (hb0 : b ≠ 0) (hp : p ≤ 6) (hq : q ≤ 6) (ha : atV M v a p) (hb : atV M w b q) (k : resF 1 (oth a b) (dz 0 (qw a.natAbs b.natAbs ((q : Int) - p))) M post ex) : P_F_exactWholePart v w M post ex := by
  obtain ⟨a1, a2⟩ := ha M (kD.rf M)
  obtain ⟨b1, b2⟩ := hb M (kD.rf M)
  have hx : a.natAbs < 1000000000000000 := by omega
  have hy : b.natAbs < 1000000000000000 := by omega
  have hy0 : 0 < b.natAbs := by omega
  have h39 : ∀ (x : Nat) (t1 : Int32) (K : Nat), x < 1000000000000000 → K ≤ 12 → (if t1 < 0 then (0 : Int32) else t1) = zI K → x * 10 ^ K / b.natAbs = qw a.natAbs b.natAbs ((q : Int) - p) → B_F_exactWholePart_39 post ex v w t1 (zL x) M := by
    intro x t1 K h1 h2 h3 h4
    unfold B_F_exactWholePart_39 P_JM_max B_JM_max_10
    have hbd := q_bound (x := x) (y := b.natAbs) (k := K) h1 h2
    have cont : P_JM_abs_JJ (mg_U M w) M (fun r3 M4 => P_W_becomeQuotient (zL x) (zI K) r3 M4 (fun r5 M6 => P_F_haveOtherSigns v w M6 (fun r7 M8 => P_W_settle (0 : Fin 9) (1 : Int32) r7 (0 : Int32) M8 (fun _ M10 => post () M10) ex))) := by
      rw [b1]
      refine s_JM_abs (by omega) (s_W_becomeQuotient h1 hy0 hy h2 (fun M1 k1 w1 => ?_))
      refine s_F_haveOtherSigns (ha M1 k1).1 (hb M1 k1).1 la lb ?_
      rw [e0i]
      refine s_W_settleF (neg := oth a b) rfl (by omega) k1 w1 (by omega) ?_
      rw [h4]
      exact k
    refine ⟨fun z => ?_, fun z => ?_⟩
    · rw [if_pos z] at h3
      rw [← h3] at cont
      exact cont
    · rw [if_neg z] at h3
      rw [h3]
      exact cont
  unfold P_F_exactWholePart
  intro t1 e1
  rw [a2, b2, zI_sub] at e1
  rw [a1, e1, i32_lt, t0, zI_ti (by omega) (by omega)]
  refine ⟨fun z => s_JM_abs (by omega) ?_, fun z => s_JM_abs (by omega) ?_⟩
  · obtain ⟨j, hj⟩ : ∃ j : Nat, (q : Int) - p = -(j : Int) := ⟨p - q, by omega⟩
    rw [hj, zI_neg, show -(-(j : Int)) = (j : Int) by omega]
    have hpl := pow_lt19 (k := j) (by omega)
    have hd := Nat.div_le_self a.natAbs (10 ^ j)
    refine s_F_power (by omega) (s_F_over (pw_ne (by omega)) ?_)
    have ed : zL a.natAbs / pw j = zL (a.natAbs / 10 ^ j : Nat) := by
      rw [pw_z]
      generalize 10 ^ j = A at *
      exact zdiv (by omega) (by omega)
    rw [ed]
    refine h39 _ _ 0 (by generalize a.natAbs / 10 ^ j = D at *; omega) (by omega) ?_ ?_
    · rw [if_pos (by rw [i32_lt, t0, zI_ti (by omega) (by omega)]; omega)]; decide
    · unfold qw
      rw [if_pos z, hj, show (-(-(j : Int))).toNat = j by omega, Nat.pow_zero, Nat.mul_one, Nat.div_div_eq_div_mul, Nat.div_div_eq_div_mul, Nat.mul_comm]
  · obtain ⟨j, hj⟩ : ∃ j : Nat, (q : Int) - p = (j : Int) := ⟨q - p, by omega⟩
    rw [hj]
    refine h39 _ _ j hx (by omega) ?_ ?_
    · rw [if_neg (by rw [i32_lt, t0, z_of (by omega)]; omega)]
    · unfold qw
      rw [if_neg z, hj]
      rfl
theorem s_F_exactRest {v w : Fin 9} {a b : Int} {p q : Nat} {t : Int32} {M : nf_M} {post : Unit → nf_M → Prop} {ex : Nat → nf_M → Prop} (la : lim a) (lb : lim b) (hb0 : b ≠ 0) (hp : p ≤ 6) (hq : q ≤ 6) (ha : atV M v a p) (hb : atV M w b q) (k : resF t (decide (a < 0)) (dz (if p < q then q else p) (lw a.natAbs p b.natAbs q)) M post ex) : P_F_exactRest v w t M post ex := by
  obtain ⟨a1, a2⟩ := ha M (kD.rf M)
  obtain ⟨b1, b2⟩ := hb M (kD.rf M)
  have hx : a.natAbs < 1000000000000000 := by omega
  have hy : b.natAbs < 1000000000000000 := by omega
  have hy0 : 0 < b.natAbs := by omega
  have hl := lw_le a.natAbs p b.natAbs q hy0 hx hy
  have h92 : ∀ (M1 : nf_M) (r : Nat), kD M M1 → r = lw a.natAbs p b.natAbs q → B_F_exactRest_92 post ex v w t (zL r) M1 := by
    intro M1 r k1 hr
    unfold B_F_exactRest_92 B_F_exactRest_124
    refine s_W_become (by omega) (fun M2 k2 w2 => ?_)
    have hk := k1.tr k2
    rw [(ha M2 hk).1, (ha M2 hk).2, (hb M2 hk).2, zL_neg0 (by omega)]
    have hset : ∀ x3 : Int32, x3 = (if decide (a < 0) then 1 else 0) → P_JM_max (zI p) (zI q) M2 (fun r1 M3 => P_W_settle (0 : Fin 9) t x3 r1 M3 (fun _ M4 => post () M4) ex) := fun x3 h3 => by
      refine s_JM_max (by omega) (by omega) (s_W_settleF (neg := decide (a < 0)) h3 (by split <;> omega) hk w2 (by omega) ?_)
      unfold spS
      rw [if_neg (by split <;> omega), hr]
      exact k
    exact ⟨fun z => hset 1 (by rw [decide_eq_true z]; rfl), fun z => hset 0 (by rw [decide_eq_false z]; rfl)⟩
  unfold P_F_exactRest
  rw [a1]
  refine s_JM_abs (by omega) ?_
  rw [b1]
  refine s_JM_abs (by omega) ?_
  intro t5 e5
  rw [a2, b2, zI_sub] at e5
  rw [e5, i32_lt, t0, zI_ti (by omega) (by omega)]
  refine ⟨fun z => ?_, fun z => ?_⟩
  · have hlw : lw a.natAbs p b.natAbs q = if a.natAbs / 10 ^ (p - q) < b.natAbs then a.natAbs else a.natAbs % (b.natAbs * 10 ^ (p - q)) := by unfold lw; rw [if_pos (by omega)]
    rw [zI_neg, show -((q : Int) - p) = ((p - q : Nat) : Int) by omega]
    have hpl := pow_lt19 (k := p - q) (by omega)
    have hp0 := p_pos (p - q)
    have hd := Nat.div_le_self a.natAbs (10 ^ (p - q))
    refine s_F_power (by omega) (s_F_over (pw_ne (by omega)) ?_)
    generalize a.natAbs = x at *
    generalize b.natAbs = y at *
    have ed : zL x / pw (p - q) = zL (x / 10 ^ (p - q) : Nat) := by
      rw [pw_z]
      generalize 10 ^ (p - q) = A at *
      exact zdiv (by omega) (by omega)
    rw [ed, zLlt (by generalize x / 10 ^ (p - q) = D at *; omega) (by omega)]
    refine ⟨fun z2 => h92 M x (kD.rf M) (by rw [hlw, if_pos z2]), fun z2 => s_F_power (by omega) ?_⟩
    have hle : y * 10 ^ (p - q) ≤ x := by
      have h1 : y ≤ x / 10 ^ (p - q) := by omega
      have h2 := Nat.div_mul_le_self x (10 ^ (p - q))
      exact Nat.le_trans (Nat.mul_le_mul_right _ h1) h2
    have hpos : 0 < y * 10 ^ (p - q) := Nat.mul_pos hy0 hp0
    have hr : x % (y * 10 ^ (p - q)) = lw x p y q := by rw [hlw, if_neg z2]
    rw [pw_z, zLmul]
    generalize y * 10 ^ (p - q) = B at *
    refine s_F_left (by rw [el0, zLeq (by omega) (by omega)]; omega) ?_
    rw [zmod (by omega) (by omega)]
    exact h92 M _ (kD.rf M) hr
  · rw [show (q : Int) - p = ((q - p : Nat) : Int) by omega]
    refine s_W_becomeQuotient hx hy0 hy (by omega) (fun M1 k1 w1 => h92 M1 _ k1 ?_)
    unfold lw
    rw [if_neg (by omega)]
