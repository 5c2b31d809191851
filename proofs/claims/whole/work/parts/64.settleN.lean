/-! exact numbers: the reference rounds -/
/-- what is dropped, against a half: 0 none, 1 less, 2 a half, 3 more -/
def lf (r d : Nat) : Nat := if d < 2 * r then 3 else if 2 * r = d then 2 else if 0 < r then 1 else 0
def rou (w c : Nat) : Nat := if c = 3 ∨ (c = 2 ∧ w % 2 = 1) then w + 1 else w
theorem rou_lf (w k : Nat) : rou (w / 10 ^ k) (lf (w % 10 ^ k) (10 ^ k)) = rnd w k := by
  unfold rou lf rnd
  by_cases h1 : 10 ^ k < 2 * (w % 10 ^ k)
  · rw [if_pos h1, if_pos (Or.inl rfl), if_pos (Or.inl h1)]
  · rw [if_neg h1]
    by_cases h2 : 2 * (w % 10 ^ k) = 10 ^ k
    · rw [if_pos h2]
      by_cases h3 : w / 10 ^ k % 2 = 1
      · rw [if_pos (Or.inr ⟨rfl, h3⟩), if_pos (Or.inr ⟨h2, h3⟩)]
      · rw [if_neg (by omega), if_neg (by omega)]
    · rw [if_neg h2, if_neg (by split <;> omega), if_neg (by omega)]
/-- behind the dropping: up or not, then zeros off, then gathered -/
theorem s_M_settleX {x1 : Int32} {neg : Bool} {post : Unit → nf_M → Prop} {M0 M : nf_M} {w n p c : Nat} (hx : x1 = if neg then 1 else 0) (hc : c ≤ 3) (hp : p ≤ n) (hn1 : 1 ≤ n) (hg : isG M w n) (h9 : mg_I M 19 9 = 0) (hk : kH M0 M) (hW : rou w c < 10 ^ n) (k : ∀ M', resM neg (dz p (rou w c)) M0 M' → post () M') (up1 : Prop) (hup : up1 ↔ (c = 3 ∨ (c = 2 ∧ w % 2 = 1))) (x : Int32) (hx6 : (up1 → x = 1) ∧ (¬ up1 → x = 0)) : B_M_settle_124 post x1 (zI p) x M := by
  obtain ⟨h0, h1, ds, h2, h3⟩ := hg
  unfold B_M_settle_124
  intro t1 e1
  have e2 : t1 = zI ((n : Int) - 1) := by rw [e1, h1, e1i, zI_sub]; rfl
  rw [e2]
  refine ⟨n + 1, s_M_settle134 (M := M) (W := rou w c) h0 hW (fun M' hk' hg' => ⟨p + 1, s_M_settle199 (M0 := M0) hx p (rou w c) n M' hp hg' (by rw [hk'.2.1]; exact h9) (hk.tr hk'.H) k⟩) n M ds x (Nat.le_refl _) ⟨h1, h2⟩ (kG.rf M) ?_⟩
  rw [Nat.sub_self, Nat.pow_zero, h3]
  unfold rou
  by_cases q : up1
  · rw [if_pos (hup.mp q)]
    exact Or.inl ⟨hx6.1 q, rfl⟩
  · rw [if_neg (fun z => q (hup.mpr z))]
    exact Or.inr ⟨hx6.2 q, rfl⟩
theorem s_M_settle6x {x1 : Int32} {neg : Bool} {post : Unit → nf_M → Prop} {M0 M : nf_M} {w n p c N : Nat} (hx : x1 = if neg then 1 else 0) (hc : c ≤ 3) (hp : p ≤ n) (hp6 : p ≤ 6) (hn1 : 1 ≤ n) (hg : isG M w n) (h9 : mg_I M 19 9 = 0) (hk : kH M0 M) (hW : rou w c < 10 ^ n) (k : ∀ M', resM neg (dz p (rou w c)) M0 M' → post () M') : B_M_settle_6 post (N + 1) x1 (zI c) (zI p) M := by
  obtain ⟨m, rfl⟩ : ∃ m, n = m + 1 := ⟨n - 1, by omega⟩
  have h80 := hg.1
  obtain ⟨-, -, a3⟩ := isG_pop hg
  have em : zI (m + 1 : Nat) - (1 : Int32) = zI m := by rw [e1i, zI_sub]; congr 1; omega
  unfold B_M_settle_6 B_M_settle_119 B_M_settle_123
  rw [hg.2.1, em, z_cl (by omega), a3, show (6 : Int32) = zI (6 : Nat) by decide, zlt (by omega) (by omega), show (3 : Int32) = zI (3 : Nat) by decide, zeq (by omega) (by omega), show (2 : Int32) = zI (2 : Nat) by decide, zeq (by omega) (by omega)]
  have e7 : zI (w % 10 : Nat) - zI (w % 10 : Nat) / zI (2 : Nat) * zI (2 : Nat) = zI (w % 2 : Nat) := by
    rw [zI_div (by omega) (by omega) (by omega) (by omega), zI_mul, zI_sub, Int.tdiv_eq_ediv_of_nonneg (by omega)]
    congr 1
    omega
  rw [e7, e1i, zeq (by omega) (by omega)]
  refine ⟨fun z => by omega, fun _ => ⟨fun z => ?_, fun z => ⟨fun z2 => ⟨z_in (by omega) (by omega), fun z3 => ?_, fun z3 => ?_⟩, fun z2 => ?_⟩⟩⟩
  · exact s_M_settleX hx hc hp hn1 hg h9 hk hW k True ⟨fun _ => Or.inl z, fun _ => trivial⟩ _ ⟨fun _ => by decide, fun q => absurd trivial q⟩
  · exact s_M_settleX hx hc hp hn1 hg h9 hk hW k True ⟨fun _ => Or.inr ⟨z2, z3⟩, fun _ => trivial⟩ _ ⟨fun _ => by decide, fun q => absurd trivial q⟩
  · exact s_M_settleX hx hc hp hn1 hg h9 hk hW k False ⟨fun q => q.elim, fun q => by omega⟩ _ ⟨fun q => q.elim, fun _ => rfl⟩
  · exact s_M_settleX hx hc hp hn1 hg h9 hk hW k False ⟨fun q => q.elim, fun q => by omega⟩ _ ⟨fun q => q.elim, fun _ => rfl⟩
theorem s_M_settle_small {x1 : Int32} {neg : Bool} {post : Unit → nf_M → Prop} {M : nf_M} {w n p c : Nat} (hx : x1 = if neg then 1 else 0) (hc : c ≤ 3) (hp : p ≤ n) (hp6 : p ≤ 6) (hn1 : 1 ≤ n) (hg : isG M w n) (h9 : mg_I M 19 9 = 0) (hW : rou w c < 10 ^ n) (k : ∀ M', resM neg (dz p (rou w c)) M M' → post () M') : P_M_settle x1 (zI p) (zI c) M post :=
  ⟨1, s_M_settle6x hx hc hp hp6 hn1 hg h9 ⟨kO.rf M, rfl⟩ hW k⟩
theorem lf_step (w i : Nat) : lf (w % 10 ^ (i + 1)) (10 ^ (i + 1)) = if 5 < w / 10 ^ i % 10 then 3 else if w / 10 ^ i % 10 = 5 then (if 0 < lf (w % 10 ^ i) (10 ^ i) then 3 else 2) else if 0 < w / 10 ^ i % 10 then 1 else if 0 < lf (w % 10 ^ i) (10 ^ i) then 1 else 0 := by
  have h1 : w % 10 ^ (i + 1) = w / 10 ^ i % 10 * 10 ^ i + w % 10 ^ i := by
    rw [Nat.pow_succ, Nat.mod_mul, Nat.mul_comm (10 ^ i)]
    omega
  have h2 : w % 10 ^ i < 10 ^ i := Nat.mod_lt _ (p_pos i)
  have h3 : w / 10 ^ i % 10 < 10 := Nat.mod_lt _ (by decide)
  have h4 : 0 < lf (w % 10 ^ i) (10 ^ i) ↔ 0 < w % 10 ^ i := by
    unfold lf
    constructor
    · intro h
      (repeat' split at h) <;> omega
    · intro h
      (repeat' split) <;> omega
  simp only [h4]
  rw [h1, Nat.pow_succ]
  generalize w / 10 ^ i % 10 = d at h3 ⊢
  generalize w % 10 ^ i = r at h2 ⊢
  generalize 10 ^ i = A at h2 ⊢
  unfold lf
  rcases (show d = 0 ∨ d = 1 ∨ d = 2 ∨ d = 3 ∨ d = 4 ∨ d = 5 ∨ d = 6 ∨ d = 7 ∨ d = 8 ∨ d = 9 by omega) with rfl | rfl | rfl | rfl | rfl | rfl | rfl | rfl | rfl | rfl
  all_goals
    (repeat' split) <;> omega
theorem lf_le (r d : Nat) : lf r d ≤ 3 := by
  unfold lf
  (repeat' split) <;> omega
theorem s_M_settle_big {x1 : Int32} {neg : Bool} {post : Unit → nf_M → Prop} {M : nf_M} {w n p : Nat} (hx : x1 = if neg then 1 else 0) (hp : 6 < p) (hpn : p < n) (hg : isG M w n) (h9 : mg_I M 19 9 = 0) (hW : rnd w (p - 6) < 10 ^ (n - (p - 6))) (k : ∀ M', resM neg (spS w p) M M' → post () M') : P_M_settle x1 (zI p) (zI (0 : Nat)) M post := by
  have h80 := hg.1
  have key : ∀ r i : Nat, i + r = p - 6 → ∀ M1 : nf_M, kG M M1 → isG M1 (w / 10 ^ i) (n - i) → B_M_settle_6 post (r + 1) x1 (zI (lf (w % 10 ^ i) (10 ^ i))) (zI (p - i : Nat)) M1 := by
    intro r
    induction r with
    | zero =>
      intro i hi M1 hk hg1
      have : i = p - 6 := by omega
      subst this
      refine s_M_settle6x (M0 := M) hx (lf_le _ _) (by omega) (by omega) (by omega) hg1 (by rw [hk.2.1]; exact h9) hk.H (by rw [rou_lf]; exact hW) (fun M' h => k M' ?_)
      unfold spS
      rw [if_pos hp]
      rw [rou_lf, show p - (p - 6) = 6 by omega] at h
      exact h
    | succ r ih =>
      intro i hi M1 hk hg1
      obtain ⟨m, hm⟩ : ∃ m, n - i = m + 1 := ⟨n - i - 1, by omega⟩
      rw [hm] at hg1
      obtain ⟨a1, a2, a3⟩ := isG_pop hg1
      have h13 := hg1.2.1
      have em : zI (m + 1 : Nat) - (1 : Int32) = zI m := by rw [e1i, zI_sub]; congr 1; omega
      have hl := lf_le (w % 10 ^ i) (10 ^ i)
      unfold B_M_settle_6
      rw [h13, em, z_cl (by omega), a3, show (6 : Int32) = zI (6 : Nat) by decide, zlt (by omega) (by omega)]
      refine ⟨fun _ => ⟨z_in (by omega) (by omega), fun t2 e2 => ?_⟩, fun z => absurd (by omega) z⟩
      have hst := lf_step w i
      have hd : w / 10 ^ i % 10 < 10 := Nat.mod_lt _ (by decide)
      have fin : ∀ v : Nat, v = lf (w % 10 ^ (i + 1)) (10 ^ (i + 1)) → B_M_settle_72 (fun x1 x4 x5 z => B_M_settle_6 post (r + 1) x1 x4 x5 z) post x1 (zI (p - i : Nat)) (zI v) M1 := by
        intro v hv
        unfold B_M_settle_72
        intro t1 e1 M2 e2'
        rw [h13, em] at e1
        rw [e1] at e2'
        rw [hv, show (-1 : Int32) = zI (-1) by decide, zI_add, show ((p - i : Nat) : Int) + (-1) = ((p - (i + 1) : Nat) : Int) by omega]
        refine ih (i + 1) (by omega) M2 (hk.tr (by rw [e2']; exact a2)) ?_
        rw [e2', show n - (i + 1) = m by omega]
        rw [Nat.div_div_eq_div_mul] at a1
        rw [Nat.pow_succ]
        exact a1
      unfold B_M_settle_43 B_M_settle_47 B_M_settle_67
      have q5 : (5 : Int32) < t2 ↔ 5 < w / 10 ^ i % 10 := by rw [e2, e5i, zlt (by omega) (by omega)]
      have q55 : t2 = (5 : Int32) ↔ w / 10 ^ i % 10 = 5 := by rw [e2, e5i, zeq (by omega) (by omega)]
      have q0 : (0 : Int32) < t2 ↔ 0 < w / 10 ^ i % 10 := by rw [e2, show (0 : Int32) = zI (0 : Nat) by decide, zlt (by omega) (by omega)]
      have q4 : (0 : Int32) < zI (lf (w % 10 ^ i) (10 ^ i) : Nat) ↔ 0 < lf (w % 10 ^ i) (10 ^ i) := by rw [show (0 : Int32) = zI (0 : Nat) by decide, zlt (by omega) (by omega)]
      rw [q5, q55, q0, q4]
      refine ⟨fun z => fin 3 ?_, fun z => ⟨fun z2 => ⟨fun z3 => fin 3 ?_, fun z3 => ⟨fun _ => fin 2 ?_, fun z4 => absurd z2 z4⟩⟩, fun z2 => ⟨fun z3 => absurd z3 z2, fun _ => ⟨fun z3 => fin 1 ?_, fun z3 => ⟨fun z4 => fin 1 ?_, fun z4 => fin 0 ?_⟩⟩⟩⟩⟩
      · rw [hst, if_pos z]
      · rw [hst, if_neg z, if_pos z2, if_pos z3]
      · rw [hst, if_neg z, if_pos z2, if_neg z3]
      · rw [hst, if_neg z, if_neg z2, if_pos z3]
      · rw [hst, if_neg z, if_neg z2, if_neg z3, if_pos z4]
      · rw [hst, if_neg z, if_neg z2, if_neg z3, if_neg z4]
  have h0 := key (p - 6) 0 (by omega) M (kG.rf M) (by rw [Nat.pow_zero, Nat.div_one]; exact hg)
  rw [Nat.pow_zero, Nat.mod_one, Nat.sub_zero] at h0
  exact ⟨p - 6 + 1, h0⟩
