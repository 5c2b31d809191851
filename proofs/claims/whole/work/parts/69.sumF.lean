/-! exact numbers: the system's sum and product -/
theorem dz_scale : ∀ (k s w : Nat), dz (s + k) (w * 10 ^ k) = dz s w := by
  intro k
  induction k with
  | zero => intro s w; rw [Nat.pow_zero, Nat.mul_one]; rfl
  | succ k ih =>
    intro s w
    have e : w * 10 ^ (k + 1) = w * 10 ^ k * 10 := by rw [Nat.pow_succ, ← Nat.mul_assoc]
    have hd : dz (s + k + 1) (w * 10 ^ (k + 1)) = if w * 10 ^ (k + 1) % 10 = 0 then dz (s + k) (w * 10 ^ (k + 1) / 10) else (w * 10 ^ (k + 1), s + k + 1) := rfl
    rw [show s + (k + 1) = s + k + 1 by omega, hd, e, if_pos (Nat.mul_mod_left _ _), Nat.mul_div_cancel _ (by decide)]
    exact ih s w
theorem dz_stay (s w : Nat) (h : s = 0 ∨ w % 10 ≠ 0) : dz s w = (w, s) := by
  cases s with
  | zero => rfl
  | succ s =>
    have hd : dz (s + 1) w = if w % 10 = 0 then dz s (w / 10) else (w, s + 1) := rfl
    rw [hd, if_neg (by omega)]
theorem ovf {x k : Nat} (hk : k ≤ 6) : 2000000000000000 / 10 ^ k < x ↔ 2000000000000000 < x * 10 ^ k := by
  rcases (show k = 0 ∨ k = 1 ∨ k = 2 ∨ k = 3 ∨ k = 4 ∨ k = 5 ∨ k = 6 by omega) with rfl | rfl | rfl | rfl | rfl | rfl | rfl <;> simp <;> omega
theorem s_F_atScale {u : Int} {p S : Nat} {M : nf_M} {post : Int64 → nf_M → Prop} {ex : Nat → nf_M → Prop} (hu : lim u) (hS : S ≤ 6) (hp : p ≤ S) (k1 : u.natAbs * 10 ^ (S - p) ≤ 2000000000000000 → post (zL (u * (10 ^ (S - p) : Nat))) M) (k0 : 2000000000000000 < u.natAbs * 10 ^ (S - p) → ex 4 M) : P_F_atScale (zL u) (zI p) (zI S) M post ex := by
  unfold P_F_atScale
  rw [zI_sub, show (S : Int) - p = ((S - p : Nat) : Int) by omega]
  have hpl := pow_lt19 (k := S - p) (by omega)
  have ho := ovf (x := u.natAbs) (k := S - p) (by omega)
  refine s_F_power (by omega) (s_JM_abs (by omega) (s_F_over (pw_ne (by omega)) ?_))
  rw [pw_z]
  have e2 : (2000000000000000 : Int64) / zL ((10 ^ (S - p) : Nat) : Int) = zL (2000000000000000 / 10 ^ (S - p) : Nat) := by
    rw [show (2000000000000000 : Int64) = zL (2000000000000000 : Nat) by decide]
    generalize 10 ^ (S - p) = A at *
    exact zdiv (by omega) (by omega)
  have hd := Nat.div_le_self 2000000000000000 (10 ^ (S - p))
  rw [e2, zLlt (by generalize 2000000000000000 / 10 ^ (S - p) = D at *; omega) (by omega), ho, zL_mul]
  exact ⟨k0, fun z => k1 (by omega)⟩
theorem s_JM_max {a b : Nat} {M : nf_M} {post : Int32 → nf_M → Prop} (ha : a < 1000) (hb : b < 1000) (k : post (zI (if a < b then b else a : Nat)) M) : P_JM_max (zI a) (zI b) M post := by
  unfold P_JM_max B_JM_max_10
  rw [zlt (by omega) (by omega)]
  refine ⟨fun z => ?_, fun z => ?_⟩
  · rw [if_pos z] at k; exact k
  · rw [if_neg z] at k; exact k
def atV (M : nf_M) (v : Fin 9) (u : Int) (p : Nat) : Prop := ∀ M', kD M M' → mg_U M' v = zL u ∧ mg_S M' v = zI p
theorem atV.mv {M M1 : nf_M} {v : Fin 9} {u : Int} {p : Nat} (h : atV M v u p) (k : kD M M1) : atV M1 v u p := fun M' k' => h M' (k.tr k')
theorem kZ.pre {A B C : nf_M} {v : Fin 9} {c : nf_V} (h : kD A B) (h2 : kZ v c B C) : kZ v c A C := by
  obtain ⟨M1, a, b⟩ := h2
  exact ⟨M1, h.tr a, b⟩
/-- a settled result of the system -/
def resF (t : Int32) (neg : Bool) (q : Nat × Nat) (M : nf_M) (post : Unit → nf_M → Prop) (ex : Nat → nf_M → Prop) : Prop := (q.1 < 1000000000000000 → ∀ M', kZ 0 (t, zL (sgd neg q.1), zI q.2, 0) M M' → post () M') ∧ (¬ q.1 < 1000000000000000 → ∀ M', kD M M' → ex 4 M')
theorem s_W_settleF {t x3 : Int32} {neg : Bool} {w s : Nat} {M0 M : nf_M} {post : Unit → nf_M → Prop} {ex : Nat → nf_M → Prop} (hn : x3 = if neg then 1 else 0) (hs : s ≤ 15) (hk : kD M0 M) (hw : isW M w) (hb : w < 1000000000000000000000000000000) (k : resF t neg (spS w s) M0 post ex) : P_W_settle 0 t x3 (zI s) M post ex :=
  s_W_settle hn hs hw hb (fun h M' hz => k.1 h M' (hz.pre hk)) (fun h M' hd => k.2 h M' (hk.tr hd))
theorem s_F_exactSum {v w : Fin 9} {u u' : Int} {p q : Nat} {t : Int32} {M : nf_M} {post : Unit → nf_M → Prop} {ex : Nat → nf_M → Prop} {b0 : Int} (hu : lim u) (hu' : lim u') (hp : p ≤ 6) (hq : q ≤ 6) (hN : p = 0 ∨ u % 10 ≠ 0) (hN' : q = 0 ∨ u' % 10 ≠ 0) (ha : atV M v u p) (hb : atV M w b0 q) (k : resF t (decide (summ u p u' q < 0)) (dz 6 (summ u p u' q).natAbs) M post ex) : P_F_exactSum v w (zL u') t M post ex := by
  obtain ⟨a1, a2⟩ := ha M (kD.rf M)
  obtain ⟨-, b2⟩ := hb M (kD.rf M)
  have key : ∀ S : Nat, S ≤ 6 → p ≤ S → q ≤ S → (S = p ∨ S = q) → summ u p u' q = (u * (10 ^ (S - p) : Nat) + u' * (10 ^ (S - q) : Nat)) * (10 ^ (6 - S) : Nat) := by
    intro S h1 h2 h3 _
    unfold summ
    rw [Int.add_mul, Int.mul_assoc, Int.mul_assoc, ← Int.natCast_mul, ← Int.natCast_mul, ← Nat.pow_add, ← Nat.pow_add, show S - p + (6 - S) = 6 - p by omega, show S - q + (6 - S) = 6 - q by omega]
  have hdz : ∀ S : Nat, S ≤ 6 → p ≤ S → q ≤ S → (S = p ∨ S = q) → dz 6 (summ u p u' q).natAbs = dz S (u * (10 ^ (S - p) : Nat) + u' * (10 ^ (S - q) : Nat)).natAbs := by
    intro S h1 h2 h3 h4
    rw [key S h1 h2 h3 h4, Int.natAbs_mul, Int.natAbs_natCast]
    have := dz_scale (6 - S) S (u * (10 ^ (S - p) : Nat) + u' * (10 ^ (S - q) : Nat)).natAbs
    rw [show S + (6 - S) = 6 by omega] at this
    exact this
  have hsg : ∀ S : Nat, S ≤ 6 → p ≤ S → q ≤ S → (S = p ∨ S = q) → (summ u p u' q < 0 ↔ u * (10 ^ (S - p) : Nat) + u' * (10 ^ (S - q) : Nat) < 0) := by
    intro S h1 h2 h3 h4
    rw [key S h1 h2 h3 h4]
    have hp0 := p_pos (6 - S)
    have hA : (0 : Int) < ((10 ^ (6 - S) : Nat) : Int) := by omega
    generalize ((10 ^ (6 - S) : Nat) : Int) = A at *
    generalize u * (10 ^ (S - p) : Nat) + u' * (10 ^ (S - q) : Nat) = z
    constructor
    · intro h
      rcases Int.lt_or_le z 0 with q1 | q1
      · exact q1
      · have := Int.mul_nonneg q1 (Int.le_of_lt hA)
        omega
    · intro h
      exact Int.mul_neg_of_neg_of_pos h hA
  unfold P_F_exactSum B_F_exactSum_73
  rw [a2, b2]
  refine s_JM_max (by omega) (by omega) ?_
  have hS : (if p < q then q else p) ≤ 6 ∧ p ≤ (if p < q then q else p) ∧ q ≤ (if p < q then q else p) ∧ ((if p < q then q else p) = p ∨ (if p < q then q else p) = q) := by split <;> omega
  generalize (if p < q then q else p) = S at *
  obtain ⟨s1, s2, s3, s4⟩ := hS
  have d1 := hdz S s1 s2 s3 s4
  have d2 := hsg S s1 s2 s3 s4
  rw [a1, a2]
  have hP := p_pos (S - p)
  have hQ := p_pos (S - q)
  have hth : ∀ z : Int, z = u * (10 ^ (S - p) : Nat) + u' * (10 ^ (S - q) : Nat) → 1000000000000000 ≤ z.natAbs → (S = 0 ∨ z % 10 ≠ 0) → ex 4 M := fun z hz h1 h2 => by
    refine k.2 ?_ M (kD.rf M)
    rw [d1, ← hz, dz_stay S z.natAbs (by omega)]
    show ¬ z.natAbs < _
    omega
  refine s_F_atScale hu s1 s2 (fun z1 => ?_) (fun z1 => ?_)
  · rw [b2]
    refine s_F_atScale hu' s1 s3 (fun z2 t7 e7 => ?_) (fun z2 => ?_)
    · rw [zL_add] at e7
      have hb1 : (u * (10 ^ (S - p) : Nat)).natAbs ≤ 2000000000000000 := by rw [Int.natAbs_mul, Int.natAbs_natCast]; exact z1
      have hb2 : (u' * (10 ^ (S - q) : Nat)).natAbs ≤ 2000000000000000 := by rw [Int.natAbs_mul, Int.natAbs_natCast]; exact z2
      rw [d1] at k
      rw [show decide (summ u p u' q < 0) = decide (u * (10 ^ (S - p) : Nat) + u' * (10 ^ (S - q) : Nat) < 0) from by simp only [d2]] at k
      generalize u * ((10 ^ (S - p) : Nat) : Int) = A at *
      generalize u' * ((10 ^ (S - q) : Nat) : Int) = B at *
      rw [e7]
      have hsp : spS (A + B).natAbs S = dz S (A + B).natAbs := by unfold spS; rw [if_neg (by omega)]
      rw [← hsp] at k
      refine s_JM_abs (by omega) (s_W_become (by omega) (fun M1 k1 w1 => ?_))
      rw [zL_neg0 (by omega)]
      refine ⟨fun z => ?_, fun z => ?_⟩
      · exact s_W_settleF (neg := decide (A + B < 0)) (by rw [decide_eq_true z]; rfl) (by omega) k1 w1 (by omega) k
      · exact s_W_settleF (neg := decide (A + B < 0)) (by rw [decide_eq_false z]; rfl) (by omega) k1 w1 (by omega) k
    · have hpS : S = p := by
        rcases s4 with e | e
        · exact e
        · rw [e, Nat.sub_self, Nat.pow_zero] at z2
          omega
      refine hth _ rfl ?_ ?_
      · have h1 : (u' * (10 ^ (S - q) : Nat)).natAbs = u'.natAbs * 10 ^ (S - q) := by rw [Int.natAbs_mul, Int.natAbs_natCast]
        have h2 : S - p = 0 := by omega
        rw [h2, Nat.pow_zero]
        generalize u' * ((10 ^ (S - q) : Nat) : Int) = B at *
        omega
      · right
        have h3 : S - q ≠ 0 := fun e => by rw [e, Nat.pow_zero] at z2; omega
        obtain ⟨j, hj⟩ : ∃ j, S - q = j + 1 := ⟨S - q - 1, by omega⟩
        have h2 : S - p = 0 := by omega
        have h4 : u' * (10 ^ (S - q) : Nat) = u' * (10 ^ j : Nat) * 10 := by
          rw [hj, Nat.pow_succ, Int.natCast_mul, Int.mul_assoc]; rfl
        rw [h4, h2, Nat.pow_zero]
        generalize u' * ((10 ^ j : Nat) : Int) = B
        omega
  · have hqS : S = q := by
      rcases s4 with e | e
      · rw [e, Nat.sub_self, Nat.pow_zero] at z1
        omega
      · exact e
    refine hth _ rfl ?_ ?_
    · have h1 : (u * (10 ^ (S - p) : Nat)).natAbs = u.natAbs * 10 ^ (S - p) := by rw [Int.natAbs_mul, Int.natAbs_natCast]
      have h2 : S - q = 0 := by omega
      rw [h2, Nat.pow_zero]
      generalize u * ((10 ^ (S - p) : Nat) : Int) = B at *
      omega
    · right
      have h3 : S - p ≠ 0 := fun e => by rw [e, Nat.pow_zero] at z1; omega
      obtain ⟨j, hj⟩ : ∃ j, S - p = j + 1 := ⟨S - p - 1, by omega⟩
      have h2 : S - q = 0 := by omega
      have h4 : u * (10 ^ (S - p) : Nat) = u * (10 ^ j : Nat) * 10 := by
        rw [hj, Nat.pow_succ, Int.natCast_mul, Int.mul_assoc]; rfl
      rw [h4, h2, Nat.pow_zero]
      generalize u * ((10 ^ j : Nat) : Int) = B
      omega
