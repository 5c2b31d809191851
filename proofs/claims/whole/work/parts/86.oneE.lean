/-! ONE of an exact number, both sides to one -/
theorem ediv_u {x y z : Int} (hy : 0 < y) (h1 : z * y ≤ x) (h2 : x < z * y + y) : x / y = z := by
  have a := Int.le_ediv_iff_mul_le (c := y) (a := z) (b := x) hy
  have b := Int.ediv_lt_iff_lt_mul (c := y) (a := x) (b := z + 1) hy
  rw [Int.add_mul, Int.one_mul] at b
  have := a.mpr h1
  have := b.mpr h2
  omega
theorem xor_neg {a b : Int64} : (a ^^^ b) < 0 ↔ ((a < 0) ≠ (b < 0)) := by
  have key : ∀ x : Int64, x < 0 ↔ x.toBitVec.msb = true := fun x => by
    rw [BitVec.msb_eq_toInt, decide_eq_true_iff, i64_lt]
    exact Iff.rfl
  rw [key, key, key, Int64.toBitVec_xor, BitVec.msb_xor]
  cases a.toBitVec.msb <;> cases b.toBitVec.msb <;> simp
theorem s_F_floor {x y : Int} {M : nf_M} {post : Int64 → nf_M → Prop} (hx : -4000000000000000000 < x ∧ x < 4000000000000000000) (hy : 0 < y ∧ y < 4000000000000000000) (k : post (zL (x / y)) M) : P_F_floor (zL x) (zL y) M post := by
  have hy0 : ¬ zL y = (0 : Int64) := by rw [show (0 : Int64) = zL 0 by decide, zL_eq (by omega) (by omega) (by omega) (by omega)]; omega
  unfold P_F_floor B_F_floor_15 P_JM_floorDiv B_JM_floorDiv_27
  refine ⟨fun z => absurd z hy0, fun _ => ⟨hy0, fun t2 e2 => ?_⟩⟩
  rw [zL_div (by omega) (by omega) (by omega) (by omega)] at e2
  have hsgn : (zL x ^^^ zL y) < (0 : Int64) ↔ x < 0 := by
    have h1 : zL x < 0 ↔ x < 0 := by rw [show (0 : Int64) = zL 0 by decide, zL_lt (by omega) (by omega) (by omega) (by omega)]
    have h2 : ¬ zL y < 0 := by rw [show (0 : Int64) = zL 0 by decide, zL_lt (by omega) (by omega) (by omega) (by omega)]; omega
    rw [xor_neg, h1]
    by_cases hn : x < 0
    · exact ⟨fun _ => hn, fun _ e => h2 (e.mp hn)⟩
    · exact ⟨fun e => absurd (propext ⟨fun q => absurd q hn, fun q => absurd q h2⟩) e, fun q => absurd q hn⟩
  rw [hsgn, e2, zL_mul]
  by_cases hn : x < 0
  · have hd : x.tdiv y = -((-x) / y) := by
      have : x = -(-x) := by omega
      rw [this, Int.neg_tdiv, Int.tdiv_eq_ediv_of_nonneg (by omega), Int.neg_neg]
    have h1 := Int.ediv_mul_le (-x) (b := y) (by omega)
    have h2 := Int.lt_ediv_add_one_mul_self (-x) (b := y) (by omega)
    rw [Int.add_mul, Int.one_mul] at h2
    have h3 := Int.ediv_nonneg (show 0 ≤ -x by omega) (show 0 ≤ y by omega)
    have h4 : (-x) / y ≤ -x := Int.ediv_le_self _ (by omega)
    rw [hd, Int.neg_mul]
    have hu : (-x) / y * y = -x → x / y = -((-x) / y) := fun e => ediv_u (by omega) (by rw [Int.neg_mul]; omega) (by rw [Int.neg_mul]; omega)
    have hu2 : (-x) / y * y ≠ -x → x / y = -((-x) / y) - 1 := fun e => ediv_u (by omega) (by rw [Int.sub_mul, Int.neg_mul]; omega) (by rw [Int.sub_mul, Int.neg_mul]; omega)
    generalize (-x) / y = d at *
    generalize d * y = D at *
    rw [zL_eq (by omega) (by omega) (by omega) (by omega)]
    refine ⟨fun _ => ⟨fun z => ?_, fun z => ?_⟩, fun z => absurd hn z⟩
    · rw [← hu (by omega)]; exact k
    · rw [show (1 : Int64) = zL 1 by decide, zL_sub, ← hu2 (by omega)]; exact k
  · rw [Int.tdiv_eq_ediv_of_nonneg (by omega)]
    exact ⟨fun z => absurd z hn, fun _ => k⟩
/-- the whole number that an exact one comes to; P is the power of ten of its scale -/
def upe (op : Nat) (f r P : Int) : Prop := match op with
  | 3 => 0 < r
  | 4 => 0 < r ∧ P ≤ 2 * r
  | 5 => 0 < r ∧ (P < 2 * r ∨ (2 * r = P ∧ ¬ f % 2 = 0))
  | _ => False
def e1g (op : Nat) (a : Int) (p : Nat) (n : Int) : Prop := (op = 0 ∧ n = -a) ∨ (op = 1 ∧ n = (a.natAbs : Int)) ∨ (2 ≤ op ∧ ((upe op (a / (10 ^ p : Nat)) (a % (10 ^ p : Nat)) (10 ^ p : Nat) ∧ n = a / (10 ^ p : Nat) + 1) ∨ (¬ upe op (a / (10 ^ p : Nat)) (a % (10 ^ p : Nat)) (10 ^ p : Nat) ∧ n = a / (10 ^ p : Nat))))
theorem e1g_1 {op p : Nat} {a n n' : Int} (h : e1g op a p n) (h' : e1g op a p n') : n = n' := by
  unfold e1g at *
  generalize upe op (a / (10 ^ p : Nat)) (a % (10 ^ p : Nat)) (10 ^ p : Nat) = U at *
  grind
theorem pow6 {p : Nat} (h : p ≤ 6) : 1 ≤ 10 ^ p ∧ 10 ^ p ≤ 1000000 := by
  refine ⟨Nat.pow_pos (by decide), ?_⟩
  have : 10 ^ p ≤ 10 ^ 6 := Nat.pow_le_pow_right (by decide) h
  exact this
theorem fr_ab {a P : Int} (hP : 1 ≤ P) : a / P * P + a % P = a ∧ 0 ≤ a % P ∧ a % P < P := ⟨by have := Int.emod_def a P; rw [Int.mul_comm] at this; omega, Int.emod_nonneg _ (by omega), Int.emod_lt_of_pos _ (by omega)⟩
theorem fr_le {a P : Int} (hP : 1 ≤ P) : -(a.natAbs : Int) ≤ a / P ∧ a / P ≤ a.natAbs := by
  have h := Int.natAbs_ediv_le_natAbs a P
  omega
theorem s_F_overHalfEven {x y : Nat} {M : nf_M} {post : Int64 → nf_M → Prop} (hx : x < 4000000000000000000) (hy : 0 < y ∧ y < 4000000000000000000) (k1 : rup (x / y) (x % y) y → post (zL (x / y + 1 : Nat)) M) (k0 : ¬ rup (x / y) (x % y) y → post (zL (x / y : Nat)) M) : P_F_overHalfEven (zL x) (zL y) M post := by
  have hy0 : ¬ zL y = (0 : Int64) := by rw [el0, zLeq (by omega) (by omega)]; omega
  have hm := Nat.mod_lt x hy.1
  have hd := Nat.div_le_self x y
  unfold P_F_overHalfEven B_F_overHalfEven_28
  refine s_F_over hy0 (s_F_left hy0 ?_)
  rw [zmod (by omega) (by omega), zdiv (by omega) (by omega)]
  refine s_F_isRoundedUp (by omega) (by omega) (by omega) (fun z => ⟨fun q => absurd q (by decide), fun _ => ?_⟩) (fun z => ⟨fun _ => ?_, fun q => absurd rfl q⟩)
  · have := k1 z
    rw [show ((1 : Int32).toInt64) = zL (1 : Nat) by decide, zLadd]
    exact this
  · have := k0 z
    rw [show ((0 : Int32).toInt64) = zL (0 : Nat) by decide, zLadd]
    exact this
theorem s_F_exactRounded {op p : Nat} {a : Int} {M : nf_M} {post : Int64 → nf_M → Prop} (h2 : 2 ≤ op) (hop : op < 6) (hp : p ≤ 6) (la : lim a) (k : ∀ n, e1g op a p n → post (zL n) M) : P_F_exactRounded (zI op) (zL a) (pw p) M post := by
  obtain ⟨P1, P2⟩ := pow6 hp
  have la1 := la.1
  have la2 := la.2
  have k' : ∀ n, ((upe op (a / (10 ^ p : Nat)) (a % (10 ^ p : Nat)) (10 ^ p : Nat) ∧ n = a / (10 ^ p : Nat) + 1) ∨ (¬ upe op (a / (10 ^ p : Nat)) (a % (10 ^ p : Nat)) (10 ^ p : Nat) ∧ n = a / (10 ^ p : Nat))) → post (zL n) M := fun n h => k n (Or.inr (Or.inr ⟨h2, h⟩))
  rw [pw_z]
  generalize 10 ^ p = P at *
  obtain ⟨f1, f2, f3⟩ := fr_ab (a := a) (P := (P : Int)) (by omega)
  have f4 := fr_le (a := a) (P := (P : Int)) (by omega)
  unfold P_F_exactRounded
  rw [zeqI 2 2 (by decide) (by omega) (by omega), zeqI 3 3 (by decide) (by omega) (by omega), zeqI 4 4 (by decide) (by omega) (by omega)]
  refine ⟨fun z => ?_, fun n2 => ⟨fun z => ?_, fun n3 => ⟨fun z => ?_, fun n4 => ?_⟩⟩⟩
  · subst z
    exact s_F_floor (by omega) (by omega) (k' _ (Or.inr ⟨fun u => u, rfl⟩))
  · subst z
    rw [zL_neg]
    refine s_F_floor (by omega) (by omega) ?_
    rw [zL_neg]
    refine k' _ ?_
    generalize a / (P : Int) = f at *
    generalize a % (P : Int) = r at *
    show ((0 < r) ∧ _) ∨ (¬ (0 < r) ∧ _)
    by_cases hr : 0 < r
    · left
      refine ⟨hr, ?_⟩
      have : (-a) / (P : Int) = -f - 1 := ediv_u (by omega) (by rw [Int.sub_mul, Int.neg_mul]; omega) (by rw [Int.sub_mul, Int.neg_mul]; omega)
      omega
    · right
      refine ⟨hr, ?_⟩
      have : (-a) / (P : Int) = -f := ediv_u (by omega) (by rw [Int.neg_mul]; omega) (by rw [Int.neg_mul]; omega)
      omega
  · subst z
    rw [show (2 : Int64) = zL 2 by decide, zL_mul, zL_mul, zL_add]
    refine s_F_floor (by omega) (by omega) (k' _ ?_)
    generalize a / (P : Int) = f at *
    generalize a % (P : Int) = r at *
    show ((0 < r ∧ (P : Int) ≤ 2 * r) ∧ _) ∨ (¬ (0 < r ∧ (P : Int) ≤ 2 * r) ∧ _)
    have e2 : f * (2 * (P : Int)) = 2 * (f * (P : Int)) := by rw [Int.mul_left_comm]
    by_cases hr : 0 < r ∧ (P : Int) ≤ 2 * r
    · left
      refine ⟨hr, ediv_u (by omega) ?_ ?_⟩
      · rw [Int.add_mul, e2]; omega
      · rw [Int.add_mul, e2]; omega
    · right
      refine ⟨hr, ediv_u (by omega) ?_ ?_⟩
      · rw [e2]; omega
      · rw [e2]; omega
  · have : op = 5 := by omega
    subst this
    unfold P_F_signedHalfEven B_F_signedHalfEven_24
    refine s_JM_abs (by omega) ?_
    have hs : zL a < (0 : Int64) ↔ a < 0 := by rw [show (0 : Int64) = zL 0 by decide, zL_lt (by omega) (by omega) (by omega) (by omega)]
    have hq : ((a.natAbs / P : Nat) : Int) = if a < 0 then (if a % (P : Int) = 0 then -(a / (P : Int)) else -(a / (P : Int)) - 1) else a / (P : Int) := by
      rw [Int.natCast_ediv]
      generalize a / (P : Int) = f at *
      generalize a % (P : Int) = r at *
      split
      · split
        · exact ediv_u (by omega) (by rw [Int.neg_mul]; omega) (by rw [Int.neg_mul]; omega)
        · exact ediv_u (by omega) (by rw [Int.sub_mul, Int.neg_mul]; omega) (by rw [Int.sub_mul, Int.neg_mul]; omega)
      · exact ediv_u (by omega) (by omega) (by omega)
    have hr : ((a.natAbs % P : Nat) : Int) = if a < 0 then (if a % (P : Int) = 0 then 0 else (P : Int) - a % (P : Int)) else a % (P : Int) := by
      have e := Nat.div_add_mod a.natAbs P
      have e2 : (P : Int) * ((a.natAbs / P : Nat) : Int) + ((a.natAbs % P : Nat) : Int) = a.natAbs := by
        rw [← Int.natCast_mul, ← Int.natCast_add, e]
      rw [hq, Int.mul_comm] at e2
      generalize a / (P : Int) = f at *
      generalize a % (P : Int) = r at *
      split
      · rw [if_pos (by assumption)] at e2
        split
        · rw [if_pos (by assumption), Int.neg_mul] at e2; omega
        · rw [if_neg (by assumption), Int.sub_mul, Int.neg_mul] at e2; omega
      · rw [if_neg (by assumption)] at e2; omega
    have k5 : ∀ n, (((0 < a % (P : Int) ∧ ((P : Int) < 2 * (a % (P : Int)) ∨ (2 * (a % (P : Int)) = P ∧ ¬ a / (P : Int) % 2 = 0))) ∧ n = a / (P : Int) + 1) ∨ (¬ (0 < a % (P : Int) ∧ ((P : Int) < 2 * (a % (P : Int)) ∨ (2 * (a % (P : Int)) = P ∧ ¬ a / (P : Int) % 2 = 0))) ∧ n = a / (P : Int))) → post (zL n) M := k'
    have hqb : a.natAbs / P ≤ a.natAbs := Nat.div_le_self _ _
    refine s_F_overHalfEven (by omega) (by omega) (fun z => ?_) (fun z => ?_)
    · unfold rup at z
      generalize a.natAbs / P = q at *
      generalize a.natAbs % P = s at *
      generalize a / (P : Int) = f at *
      generalize a % (P : Int) = r at *
      rw [hs, zL_neg]
      refine ⟨fun zn => k5 _ ?_, fun zn => k5 _ ?_⟩
      · rw [if_pos zn] at hq hr
        split at hq <;> split at hr <;> omega
      · rw [if_neg zn] at hq hr
        omega
    · unfold rup at z
      generalize a.natAbs / P = q at *
      generalize a.natAbs % P = s at *
      generalize a / (P : Int) = f at *
      generalize a % (P : Int) = r at *
      rw [hs, zL_neg]
      refine ⟨fun zn => k5 _ ?_, fun zn => k5 _ ?_⟩
      · rw [if_pos zn] at hq hr
        split at hq <;> split at hr <;> omega
      · rw [if_neg zn] at hq hr
        omega
theorem s_F_exactOne {op p t : Nat} {a : Int} {v : Fin 9} {M : nf_M} {post : Unit → nf_M → Prop} (hop : op < 6) (hp : p ≤ 6) (la : lim a) (ht : t < 8) (ha : atV M v a p) (et : mg_T M v = zI t) (k : ∀ n, e1g op a p n → ∀ M', kZ 0 (zI (if t = 0 then 0 else 1 : Nat), zL n, zI (if op < 2 then p else 0 : Nat), 0) M M' → post () M') : P_F_exactOne (zI op) v M post := by
  obtain ⟨a1, a2⟩ := ha M (kD.rf M)
  have la1 := la.1
  have la2 := la.2
  have h12 : ∀ y : Int32, y = zI (if t = 0 then 0 else 1 : Nat) → B_F_exactOne_12 post (zI op) v y M := by
    intro y ey
    unfold B_F_exactOne_12 B_F_exactOne_88
    rw [a1, a2, ey, z0' (by omega), zeqI 1 1 (by decide) (by omega) (by omega), zL_neg]
    refine ⟨fun z => ?_, fun n0 => ⟨fun z => s_JM_abs (by omega) ?_, fun n1 => s_F_power (by omega) (s_F_exactRounded (by omega) hop hp la (fun n hn => ?_))⟩⟩
    · have k0 := k _ (Or.inl ⟨z, rfl⟩)
      rw [if_pos (show op < 2 by omega)] at k0
      exact s_V_becomeUnits (fun M' hk => k0 M' ⟨M, kD.rf M, hk⟩)
    · have k0 := k _ (Or.inr (Or.inl ⟨z, rfl⟩))
      rw [if_pos (show op < 2 by omega)] at k0
      rw [a2]
      exact s_V_becomeUnits (fun M' hk => k0 M' ⟨M, kD.rf M, hk⟩)
    · have k0 := k _ hn
      rw [if_neg (show ¬ op < 2 by omega)] at k0
      exact s_V_becomeUnits (fun M' hk => k0 M' ⟨M, kD.rf M, hk⟩)
  unfold P_F_exactOne
  rw [et, z0' (by omega)]
  exact ⟨fun z => h12 0 (by rw [if_pos z]; rfl), fun z => h12 1 (by rw [if_neg z]; decide)⟩
theorem s_M_oneExact {op p : Nat} {a : Int} {M : nf_M} {post : Unit → nf_M → Prop} (hop : op < 6) (hp : p ≤ 6) (la : lim a) (k : ∀ n, e1g op a p n → post () (ms_I (ms_L M 19 10 (zL n)) 19 11 (zI (if op < 2 then p else 0 : Nat)))) : P_M_oneExact (zI op) (zL a) (zI p) M post := by
  obtain ⟨P1, P2⟩ := pow6 hp
  have la1 := la.1
  have la2 := la.2
  have k' : 2 ≤ op → ∀ n, ((upe op (a / (10 ^ p : Nat)) (a % (10 ^ p : Nat)) (10 ^ p : Nat) ∧ n = a / (10 ^ p : Nat) + 1) ∨ (¬ upe op (a / (10 ^ p : Nat)) (a % (10 ^ p : Nat)) (10 ^ p : Nat) ∧ n = a / (10 ^ p : Nat))) → post () (ms_I (ms_L M 19 10 (zL n)) 19 11 (zI (if op < 2 then p else 0 : Nat))) := fun h2 n h => k n (Or.inr (Or.inr ⟨h2, h⟩))
  obtain ⟨f1, f2, f3⟩ := fr_ab (a := a) (P := ((10 ^ p : Nat) : Int)) (by omega)
  have f4 := fr_le (a := a) (P := ((10 ^ p : Nat) : Int)) (by omega)
  have epw : lN (10 ^ p) = zL (10 ^ p : Nat) := lN_z _
  have hne : ¬ lN (10 ^ p) = 0 := pw_ne (by omega)
  have h150 : ∀ y : Int32, (2 ≤ op → (upe op (a / (10 ^ p : Nat)) (a % (10 ^ p : Nat)) (10 ^ p : Nat) ∧ y = 1) ∨ (¬ upe op (a / (10 ^ p : Nat)) (a % (10 ^ p : Nat)) (10 ^ p : Nat) ∧ y = 0)) → B_M_oneExact_150 post (zI op) (zL a) (zI p) (zL (a / (10 ^ p : Nat))) y M := by
    intro y hy
    unfold B_M_oneExact_150 B_M_oneExact_188 B_M_oneExact_203
    rw [z0' (by omega), zeqI 1 1 (by decide) (by omega) (by omega), show (2 : Int32) = zI (2 : Nat) by decide, zlt (by omega) (by omega), zL_neg]
    refine ⟨fun z M1 e1 => ⟨fun z2 M2 e2 => ?_, fun z2 => absurd (by omega) z2⟩, fun n0 => ⟨fun z => s_M_amount (by omega) (fun M1 e1 => ⟨fun z2 M2 e2 => ?_, fun z2 => absurd (by omega) z2⟩), fun n1 => ⟨fun z M1 e1 => ⟨fun z2 => by omega, fun z2 M2 e2 => ?_⟩, fun z M1 e1 => ⟨fun z2 => by omega, fun z2 M2 e2 => ?_⟩⟩⟩⟩
    · have k0 := k _ (Or.inl ⟨z, rfl⟩)
      rw [if_pos z2] at k0
      rw [e2, e1]
      exact k0
    · have k0 := k _ (Or.inr (Or.inl ⟨z, rfl⟩))
      rw [if_pos z2] at k0
      rw [e2, e1]
      exact k0
    · rcases hy (by omega) with ⟨u, ey⟩ | ⟨u, ey⟩
      · rw [ey] at z
        exact absurd z (by decide)
      · have k0 := k' (by omega) _ (Or.inr ⟨u, rfl⟩)
        rw [if_neg z2] at k0
        rw [e2, e1]
        exact k0
    · rcases hy (by omega) with ⟨u, ey⟩ | ⟨u, ey⟩
      · have k0 := k' (by omega) _ (Or.inl ⟨u, rfl⟩)
        rw [if_neg z2] at k0
        rw [e2, e1, show (1 : Int64) = zL 1 by decide, zL_add]
        exact k0
      · exact absurd ey z
  have h41 : B_M_oneExact_41 post (zI op) (zL a) (zI p) (zL (a / (10 ^ p : Nat))) (zL (a % (10 ^ p : Nat))) M := by
    unfold B_M_oneExact_41 B_M_oneExact_96 B_M_oneExact_145 B_M_oneExact_149
    intro t1 e1
    rw [show (2 : Int64) = zL 2 by decide, zL_mul] at e1
    rw [e1, zeqI 3 3 (by decide) (by omega) (by omega), zeqI 4 4 (by decide) (by omega) (by omega), zeqI 5 5 (by decide) (by omega) (by omega)]
    rw [odd_L (by omega) (by omega)]
    have c0 : (0 : Int64) < zL (a % (10 ^ p : Nat)) ↔ 0 < a % (10 ^ p : Nat) := by rw [show (0 : Int64) = zL 0 by decide, zL_lt (by omega) (by omega) (by omega) (by omega)]
    rw [c0]
    have u4 : upe 4 (a / (10 ^ p : Nat)) (a % (10 ^ p : Nat)) (10 ^ p : Nat) = (0 < a % ((10 ^ p : Nat) : Int) ∧ ((10 ^ p : Nat) : Int) ≤ 2 * (a % ((10 ^ p : Nat) : Int))) := rfl
    have u5 : upe 5 (a / (10 ^ p : Nat)) (a % (10 ^ p : Nat)) (10 ^ p : Nat) = (0 < a % ((10 ^ p : Nat) : Int) ∧ (((10 ^ p : Nat) : Int) < 2 * (a % ((10 ^ p : Nat) : Int)) ∨ (2 * (a % ((10 ^ p : Nat) : Int)) = ((10 ^ p : Nat) : Int) ∧ ¬ a / ((10 ^ p : Nat) : Int) % 2 = 0))) := rfl
    have cl : zL (2 * (a % (10 ^ p : Nat))) < zL (10 ^ p : Nat) ↔ 2 * (a % ((10 ^ p : Nat) : Int)) < ((10 ^ p : Nat) : Int) := zL_lt (by omega) (by omega) (by omega) (by omega)
    have cg : zL (10 ^ p : Nat) < zL (2 * (a % (10 ^ p : Nat))) ↔ ((10 ^ p : Nat) : Int) < 2 * (a % ((10 ^ p : Nat) : Int)) := zL_lt (by omega) (by omega) (by omega) (by omega)
    have ce : zL (2 * (a % (10 ^ p : Nat))) = zL (10 ^ p : Nat) ↔ 2 * (a % ((10 ^ p : Nat) : Int)) = ((10 ^ p : Nat) : Int) := zL_eq (by omega) (by omega) (by omega) (by omega)
    refine ⟨fun z => ⟨fun q => h150 1 (fun _ => Or.inl ⟨?_, rfl⟩), fun q => h150 0 (fun _ => Or.inr ⟨?_, rfl⟩)⟩, fun n3 => ⟨fun z => ⟨fun q => s_M_power (by omega) ?_, fun q => h150 0 (fun _ => Or.inr ⟨?_, rfl⟩)⟩, fun n4 => ⟨fun z => ⟨fun q => s_M_power (by omega) ?_, fun q => h150 0 (fun _ => Or.inr ⟨?_, rfl⟩)⟩, fun n5 => h150 0 (fun h2 => Or.inr ⟨?_, rfl⟩)⟩⟩⟩
    · subst z; exact q
    · subst z; exact q
    · subst z
      rw [epw, cl]
      refine ⟨fun q2 => h150 0 (fun _ => Or.inr ⟨?_, rfl⟩), fun q2 => h150 1 (fun _ => Or.inl ⟨?_, rfl⟩)⟩
      · rw [u4]; omega
      · rw [u4]; omega
    · subst z
      rw [u4]; omega
    · subst z
      rw [epw, cg]
      refine ⟨fun q2 => h150 1 (fun _ => Or.inl ⟨?_, rfl⟩), fun q2 => s_M_power (by omega) ?_⟩
      · rw [u5]; omega
      · rw [epw, ce]
        refine ⟨fun q3 => ⟨fun q4 => h150 0 (fun _ => Or.inr ⟨?_, rfl⟩), fun q4 => h150 1 (fun _ => Or.inl ⟨?_, rfl⟩)⟩, fun q3 => h150 0 (fun _ => Or.inr ⟨?_, rfl⟩)⟩
        · rw [u5]; omega
        · rw [u5]; omega
        · rw [u5]; omega
    · subst z
      rw [u5]; omega
    · have : op = 2 := by omega
      subst this
      exact fun u => u
  unfold P_M_oneExact
  refine s_M_power (by omega) ⟨hne, fun t4 e4 => s_M_power (by omega) ⟨hne, fun t8 e8 => ?_⟩⟩
  rw [epw] at e4 e8
  generalize hPe : 10 ^ p = P at *
  rw [zL_div (by omega) (by omega) (by omega) (by omega)] at e4 e8
  rw [zL_mul, zL_sub] at e8
  have c8 : -4000000000000 < a.tdiv P * P - a → True := fun _ => trivial
  by_cases hn : a < 0
  · have hd : a.tdiv (P : Int) = -((-a) / (P : Int)) := by
      have : a = -(-a) := by omega
      rw [this, Int.neg_tdiv, Int.tdiv_eq_ediv_of_nonneg (by omega), Int.neg_neg]
    obtain ⟨g1, g2, g3⟩ := fr_ab (a := -a) (P := (P : Int)) (by omega)
    have g4 := fr_le (a := -a) (P := (P : Int)) (by omega)
    have hu : (-a) % (P : Int) = 0 → a / (P : Int) = -((-a) / (P : Int)) ∧ a % (P : Int) = 0 := fun e => by
      have := ediv_u (x := a) (y := (P : Int)) (z := -((-a) / (P : Int))) (by omega) (by rw [Int.neg_mul]; omega) (by rw [Int.neg_mul]; omega)
      refine ⟨this, ?_⟩
      rw [this, Int.neg_mul] at f1
      omega
    have hu2 : (-a) % (P : Int) ≠ 0 → a / (P : Int) = -((-a) / (P : Int)) - 1 ∧ a % (P : Int) = (P : Int) - (-a) % (P : Int) := fun e => by
      have := ediv_u (x := a) (y := (P : Int)) (z := -((-a) / (P : Int)) - 1) (by omega) (by rw [Int.sub_mul, Int.neg_mul]; omega) (by rw [Int.sub_mul, Int.neg_mul]; omega)
      refine ⟨this, ?_⟩
      rw [this, Int.sub_mul, Int.neg_mul] at f1
      omega
    rw [hd] at e4 e8
    rw [Int.neg_mul, show a - -((-a) / (P : Int) * (P : Int)) = -((-a) % (P : Int)) by omega] at e8
    rw [e4, e8, show (0 : Int64) = zL 0 by decide, zL_lt (by omega) (by omega) (by omega) (by omega)]
    refine ⟨fun z t9 e9 => s_M_power (by omega) (fun t12 e12 => ?_), fun z => ?_⟩
    · obtain ⟨w1, w2⟩ := hu2 (by omega)
      rw [e9, e12, hPe, epw, zL_add, show (1 : Int64) = zL 1 by decide, zL_sub, ← w1, show -((-a) % (P : Int)) + (P : Int) = a % (P : Int) by omega]
      exact h41
    · obtain ⟨w1, w2⟩ := hu (by omega)
      rw [← w1, show -((-a) % (P : Int)) = a % (P : Int) by omega]
      exact h41
  · rw [Int.tdiv_eq_ediv_of_nonneg (by omega)] at e4 e8
    rw [show a - a / (P : Int) * (P : Int) = a % (P : Int) by omega] at e8
    rw [e4, e8, show (0 : Int64) = zL 0 by decide, zL_lt (by omega) (by omega) (by omega) (by omega)]
    exact ⟨fun z => by omega, fun _ => h41⟩
