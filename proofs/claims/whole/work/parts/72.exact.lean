/-! reckoning of exact numbers, both sides to one -/
/-- sign, and digits with their scale, of an exact answer -/
def exN (op : Nat) (a : Int) (p : Nat) (b : Int) (q : Nat) : Bool × (Nat × Nat) := match op with
  | 0 => (decide (summ a p b q < 0), dz 6 (summ a p b q).natAbs)
  | 1 => (decide (summ a p (-b) q < 0), dz 6 (summ a p (-b) q).natAbs)
  | 2 => (oth a b, spS (a.natAbs * b.natAbs) (p + q))
  | 3 => (oth a b, dz 6 (rou (a.natAbs * 10 ^ (6 + q - p) / b.natAbs) (lf (a.natAbs * 10 ^ (6 + q - p) % b.natAbs) b.natAbs)))
  | 4 => (oth a b, dz 0 (qw a.natAbs b.natAbs ((q : Int) - p)))
  | _ => (decide (a < 0), dz (if p < q then q else p) (lw a.natAbs p b.natAbs q))
theorem qw_pos (x y K : Nat) : qw x y (K : Int) = x * 10 ^ K / y := by
  unfold qw
  rw [if_neg (by omega)]
  rfl
theorem qr_pos (x y K : Nat) : qr x y (K : Int) = x * 10 ^ K % y := by
  unfold qr
  rw [if_neg (by omega)]
  rfl
theorem zeqI {x : Nat} (n : Nat) (c : Int32) (hc : c = zI n) (hx : x < 100) (hn : n < 100) : zI x = c ↔ x = n := by rw [hc, zeq (by omega) (by omega)]
theorem s_F_reckonUnits {v w : Fin 9} {op : Nat} {a b : Int} {p q ta tb : Nat} {M : nf_M} {post : Unit → nf_M → Prop} {ex : Nat → nf_M → Prop} (hop : op < 6) (la : lim a) (lb : lim b) (hp : p ≤ 6) (hq : q ≤ 6) (hN : p = 0 ∨ a % 10 ≠ 0) (hN' : q = 0 ∨ b % 10 ≠ 0) (ha : atV M v a p) (hb : atV M w b q) (hta : mg_T M v = zI ta) (htb : mg_T M w = zI tb) (hta8 : ta < 8) (htb8 : tb < 8) (k0 : 3 ≤ op → b = 0 → ex 3 M) (k : (3 ≤ op → b ≠ 0) → resF (if op = 3 then 0 else if op = 4 then 1 else if ta = 0 ∨ tb = 0 then 0 else 1) (exN op a p b q).1 (exN op a p b q).2 M post ex) : P_F_reckonUnits (zI op) v w M post ex := by
  obtain ⟨a1, a2⟩ := ha M (kD.rf M)
  obtain ⟨b1, b2⟩ := hb M (kD.rf M)
  have h46 : ∀ t : Int32, t = (if ta = 0 ∨ tb = 0 then 0 else 1) → (3 ≤ op → b ≠ 0) → B_F_reckonUnits_46 post ex (zI op) v w t M := by
    intro t ht hz
    have k' := k hz
    unfold B_F_reckonUnits_46 B_F_reckonUnits_188
    rw [b1, a1, zeqI 0 0 (by decide) (by omega) (by omega), zeqI 1 1 (by decide) (by omega) (by omega), zeqI 2 2 (by decide) (by omega) (by omega), zeqI 3 3 (by decide) (by omega) (by omega), zeqI 4 4 (by decide) (by omega) (by omega), zL_neg]
    refine ⟨fun z => ?_, fun n0 => ⟨fun z => ?_, fun n1 => ⟨fun z => ?_, fun n2 => ⟨fun z => ?_, fun n3 => ⟨fun z => ?_, fun n4 => ?_⟩⟩⟩⟩⟩
    · subst z
      rw [ht]
      exact s_F_exactSum la lb hp hq hN hN' ha hb k'
    · subst z
      rw [ht]
      exact s_F_exactSum la (show lim (-b) by omega) hp hq hN (by omega) ha hb k'
    · subst z
      have hxy : a.natAbs * b.natAbs ≤ 999999999999999 * 999999999999999 := Nat.mul_le_mul (by omega) (by omega)
      refine s_JM_abs (by omega) ?_
      rw [b1]
      refine s_JM_abs (by omega) (s_W_becomeProduct (by omega) (by omega) (fun M1 k1 w1 => ?_))
      refine s_F_haveOtherSigns (ha M1 k1).1 (hb M1 k1).1 la lb ?_
      rw [(ha M1 k1).2, (hb M1 k1).2, zI_add, show (p : Int) + q = ((p + q : Nat) : Int) by omega, ht]
      exact s_W_settleF (neg := oth a b) rfl (by omega) k1 w1 (by omega) k'
    · subst z
      exact s_F_exactQuotient la lb (hz (by omega)) hp hq ha hb k'
    · subst z
      exact s_F_exactWholePart la lb (hz (by omega)) hp hq ha hb k'
    · have h5 : op = 5 := by omega
      subst h5
      rw [ht]
      exact s_F_exactRest la lb (hz (by omega)) hp hq ha hb k'
  have h19 : ∀ t : Int32, t = (if ta = 0 ∨ tb = 0 then 0 else 1) → B_F_reckonUnits_19 post ex (zI op) v w t M := fun t ht => by
    unfold B_F_reckonUnits_19
    rw [b1, show (3 : Int32) = zI (3 : Nat) by decide, zlt (by omega) (by omega), show (0 : Int64) = zL 0 by decide, zL_eq (by omega) (by omega) (by omega) (by omega)]
    exact ⟨fun z => h46 t ht (fun z2 => by omega), fun z => ⟨fun z2 => k0 (by omega) z2, fun z2 => h46 t ht (fun _ => z2)⟩⟩
  unfold P_F_reckonUnits B_F_reckonUnits_14
  rw [hta, htb, z0' (by omega), z0' (by omega)]
  exact ⟨fun z => h19 0 (by rw [if_pos (Or.inl z)]), fun z => ⟨fun z2 => h19 0 (by rw [if_pos (Or.inr z2)]), fun z2 => h19 1 (by rw [if_neg (by omega)])⟩⟩
theorem resM_neg {n n' : Bool} {q : Nat × Nat} {A B : nf_M} (h : q.1 = 0 ∨ n = n') (r : resM n q A B) : resM n' q A B := by
  rcases h with h | h
  · refine ⟨r.1, ?_⟩
    rcases r.2 with ⟨a, b, c, d⟩ | ⟨a, b⟩
    · refine Or.inl ⟨a, b, ?_, d⟩
      rw [c, h]
      cases n <;> cases n' <;> rfl
    · exact Or.inr ⟨a, b⟩
  · rw [← h]; exact r
theorem s_M_reckonExact {x y op : Nat} {a b : Int} {p q : Nat} {M : nf_M} {post : Unit → nf_M → Prop} (hx8 : x < 8) (hy8 : y < 8) (hop : op < 6) (la : lim a) (lb : lim b) (hp : p ≤ 6) (hq : q ≤ 6) (a1 : mg_L M 23 x = zL a) (a2 : mg_I M 24 x = zI p) (b1 : mg_L M 23 y = zL b) (b2 : mg_I M 24 y = zI q) (h9 : mg_I M 19 9 = 0) (k0 : 3 ≤ op → b = 0 → ∀ M', kH M M' → mg_I M' 19 9 = 4 → post () M') (k : (3 ≤ op → b ≠ 0) → ∀ M', resM (exN op a p b q).1 (exN op a p b q).2 M M' → post () M') : P_M_reckonExact (zI op) (zI x) (zI y) M post := by
  have h52 : (3 ≤ op → b ≠ 0) → B_M_reckonExact_52 post (zI op) (zL a) (zL b) (zI p) (zI q) M := by
    intro hz
    have k' := k hz
    unfold B_M_reckonExact_52 B_M_reckonExact_74 B_M_reckonExact_126 B_M_reckonExact_144
    rw [show (2 : Int32) = zI (2 : Nat) by decide, show (5 : Int32) = zI (5 : Nat) by decide, zlt (by omega) (by omega), zlt (by omega) (by omega), zeq (by omega) (by omega), z0' (by omega), zeqI 3 3 (by decide) (by omega) (by omega), zL_neg]
    refine ⟨fun z => ⟨fun z0 => ?_, fun z0 => ?_⟩, fun z => ⟨fun z2 => ?_, fun z2 => ⟨fun z5 => ⟨fun z3 => ?_, fun z3 => ?_⟩, fun z5 => ?_⟩⟩⟩
    · subst z0
      exact s_M_sum la lb hp hq h9 k'
    · have : op = 1 := by omega
      subst this
      exact s_M_sum la (show lim (-b) by omega) hp hq h9 k'
    · subst z2
      exact s_M_product la lb hp hq h9 k'
    · subst z3
      refine s_M_quotient (rd := true) la lb (hz (by omega)) hp hq rfl h9 (fun M' r => k' M' ?_)
      have r2 : resM (oth a b) (dz 6 (rou (qw a.natAbs b.natAbs ((q : Int) - p + 6)) (lf (qr a.natAbs b.natAbs ((q : Int) - p + 6)) b.natAbs))) M M' := r
      rw [show (q : Int) - p + 6 = ((6 + q - p : Nat) : Int) by omega, qw_pos, qr_pos] at r2
      exact r2
    · have : op = 4 := by omega
      subst this
      refine s_M_quotient (rd := false) la lb (hz (by omega)) hp hq rfl h9 (fun M' r => k' M' ?_)
      have e : (q : Int) - p + (if false then 6 else 0) = (q : Int) - p := by simp
      rw [e] at r
      have r2 : resM (oth a b) (dz 0 (rou (qw a.natAbs b.natAbs ((q : Int) - p)) 0)) M M' := r
      rw [rou_0] at r2
      exact r2
    · have : op = 5 := by omega
      subst this
      have k5 : ∀ M', resM (decide (a < 0)) (dz (if p < q then q else p) (lw a.natAbs p b.natAbs q)) M M' → post () M' := k'
      refine s_M_left la lb (hz (by omega)) hp hq h9 (fun M' r => k5 M' (resM_neg ?_ r))
      by_cases hl : lw a.natAbs p b.natAbs q = 0
      · left
        have := (dz_le (if p < q then q else p) (lw a.natAbs p b.natAbs q)).1
        omega
      · right
        unfold sgd
        by_cases hn : a < 0
        · rw [decide_eq_true hn, decide_eq_true (show (if true = true then -((lw a.natAbs p b.natAbs q : Nat) : Int) else (lw a.natAbs p b.natAbs q : Nat)) < 0 by rw [if_pos rfl]; omega)]
        · rw [decide_eq_false hn, decide_eq_false (show ¬ (if false = true then -((lw a.natAbs p b.natAbs q : Nat) : Int) else (lw a.natAbs p b.natAbs q : Nat)) < 0 by rw [if_neg (by decide)]; omega)]
  unfold P_M_reckonExact B_M_reckonExact_144
  have hin := z_in hx8 (show 8 < 2147483648 by decide)
  have hin' := z_in hy8 (show 8 < 2147483648 by decide)
  refine ⟨hin, fun t2 e2 => ⟨hin', fun t4 e4 => ⟨hin, fun t6 e6 => ⟨hin', fun t8 e8 => ?_⟩⟩⟩⟩
  rw [z_cl (by omega)] at e2 e4 e6 e8
  rw [e2, e4, e6, e8, a1, a2, b1, b2, show (2 : Int32) = zI (2 : Nat) by decide, zlt (by omega) (by omega), show (0 : Int64) = zL 0 by decide, zL_eq (by omega) (by omega) (by omega) (by omega)]
  exact ⟨fun z => ⟨fun z2 M9 e9 => k0 (by omega) z2 M9 (by rw [e9]; exact ⟨kO_19 M 9 4 (by decide) (by decide), rfl⟩) (by rw [e9]; rfl), fun z2 => h52 (fun _ => z2)⟩, fun z => h52 (fun z2 => by omega)⟩
