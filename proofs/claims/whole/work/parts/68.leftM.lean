/-! exact numbers: the reference's rest; its reckoning of exact numbers as one -/
/-- the rest of amounts x / 10^p by y / 10^q, at the finer of the two scales -/
def lw (x p y q : Nat) : Nat := if q < p then (if x / 10 ^ (p - q) < y then x else x % (y * 10 ^ (p - q))) else x * 10 ^ (q - p) % y
theorem lw_le (x p y q : Nat) (hy : 0 < y) (hx : x < 1000000000000000) (hyl : y < 1000000000000000) : lw x p y q < 1000000000000000 := by
  unfold lw
  split
  · split
    · exact hx
    · exact Nat.lt_of_le_of_lt (Nat.mod_le _ _) hx
  · have := Nat.mod_lt (x * 10 ^ (q - p)) hy
    omega
theorem s_M_left {a b : Int} {p q : Nat} {M : nf_M} {post : Unit → nf_M → Prop} (ha : lim a) (hb : lim b) (hb0 : b ≠ 0) (hp : p ≤ 6) (hq : q ≤ 6) (h9 : mg_I M 19 9 = 0) (k : ∀ M', resM (decide (sgd (decide (a < 0)) (lw a.natAbs p b.natAbs q) < 0)) (dz (if p < q then q else p) (lw a.natAbs p b.natAbs q)) M M' → post () M') : P_M_left (zL a) (zI p) (zL b) (zI q) M post := by
  have hx : a.natAbs < 1000000000000000 := by omega
  have hy : b.natAbs < 1000000000000000 := by omega
  have hy0 : 0 < b.natAbs := by omega
  have hl := lw_le a.natAbs p b.natAbs q hy0 hx hy
  unfold P_M_left
  refine s_M_amount (by omega) (s_M_amount (by omega) ?_)
  have hneg : zL a < (0 : Int64) ↔ a < 0 := zL_neg0 (by omega)
  generalize a.natAbs = x at *
  generalize b.natAbs = y at *
  have hyn : ¬ zL y = 0 := by rw [el0, zLeq (by omega) (by omega)]; omega
  have keep : ∀ u : Int, u.natAbs = lw x p y q → u = sgd (decide (a < 0)) (lw x p y q) → B_M_left_105 post (zI p) (zI q) (zL u) M := fun u hu hs => by
    unfold B_M_left_105 B_M_left_117
    rw [zlt (by omega) (by omega)]
    rw [← hs, ← hu] at k
    refine ⟨fun z => s_M_keep (by omega) hq h9 (fun M' r => k M' ?_), fun z => s_M_keep (by omega) hp h9 (fun M' r => k M' ?_)⟩
    · rw [if_pos z]; exact r
    · rw [if_neg z]; exact r
  have fin : ∀ r : Nat, r = lw x p y q → ∀ N : Nat, ∀ x13 : Int32, ¬ x13 < zI q → B_M_left_66 post (N + 1) (zL a) (zI p) (zI q) (zL y) (zL r) x13 M := fun r hr N x13 h13 => by
    unfold B_M_left_66
    rw [hneg, zL_neg]
    refine ⟨fun z => absurd z h13, fun _ => ⟨fun z => keep _ (by omega) ?_, fun z => keep _ (by omega) ?_⟩⟩
    · unfold sgd
      rw [decide_eq_true z, hr]
      rfl
    · unfold sgd
      rw [decide_eq_false z, hr]
      rfl
  rw [zlt (by omega) (by omega), zI_sub]
  refine ⟨fun z => ?_, fun z => ⟨hyn, ?_⟩⟩
  · rw [show (p : Int) - q = ((p - q : Nat) : Int) by omega]
    have hpl := pow_lt19 (k := p - q) (by omega)
    have hp0 := p_pos (p - q)
    have hlw : lw x p y q = if x / 10 ^ (p - q) < y then x else x % (y * 10 ^ (p - q)) := by unfold lw; rw [if_pos z]
    have hd := Nat.div_le_self x (10 ^ (p - q))
    have h61 : ∀ r : Nat, r = lw x p y q → B_M_left_61 post (zL a) (zI p) (zI q) (zL y) (zL r) M := fun r hr => ⟨1, fin r hr 0 _ (by rw [zlt (by omega) (by omega)]; omega)⟩
    refine s_M_power (by omega) ⟨pw_ne (by omega), ?_⟩
    rw [lN_z]
    have ed : zL x / zL ((10 ^ (p - q) : Nat) : Int) = zL (x / 10 ^ (p - q) : Nat) := by
      generalize 10 ^ (p - q) = A at *
      exact zdiv (by omega) (by omega)
    rw [ed, zLlt (by generalize x / 10 ^ (p - q) = D at *; omega) (by omega)]
    refine ⟨fun z2 => h61 x (by rw [hlw, if_pos z2]), fun z2 => s_M_power (by omega) ?_⟩
    rw [lN_z, zLmul]
    have hle : y * 10 ^ (p - q) ≤ x := by
      have h1 : y ≤ x / 10 ^ (p - q) := by omega
      have h2 := Nat.div_mul_le_self x (10 ^ (p - q))
      exact Nat.le_trans (Nat.mul_le_mul_right _ h1) h2
    have hpos : 0 < y * 10 ^ (p - q) := Nat.mul_pos hy0 hp0
    have hr : x % (y * 10 ^ (p - q)) = lw x p y q := by rw [hlw, if_neg z2]
    generalize y * 10 ^ (p - q) = B at *
    rw [zmod (by omega) (by omega)]
    exact ⟨by rw [el0, zLeq (by omega) (by omega)]; omega, h61 _ hr⟩
  · rw [zmod (by omega) (by omega)]
    have hlw : lw x p y q = x * 10 ^ (q - p) % y := by unfold lw; rw [if_neg z]
    have key : ∀ r i : Nat, p + i + r = q → B_M_left_66 post (r + 1) (zL a) (zI p) (zI q) (zL y) (zL (x * 10 ^ i % y : Nat)) (zI (p + i : Nat)) M := by
      intro r
      induction r with
      | zero =>
        intro i hi
        refine fin _ ?_ 0 _ (by rw [zlt (by omega) (by omega)]; omega)
        rw [hlw, show q - p = i by omega]
      | succ r ih =>
        intro i hi
        have hm : x * 10 ^ i % y < y := Nat.mod_lt _ hy0
        obtain ⟨s1, -, -⟩ := qstep x y i hy0
        unfold B_M_left_66
        refine ⟨fun _ => ⟨hyn, fun t2 e2 => ?_⟩, fun z2 => absurd (show zI (p + i : Nat) < zI (q : Nat) by rw [zlt (by omega) (by omega)]; omega) z2⟩
        rw [e10, zLmul, zmod (by omega) (by omega), ← s1] at e2
        rw [e2, z_s]
        exact ih (i + 1) (by omega)
    have h0 := key (q - p) 0 (by omega)
    rw [Nat.pow_zero, Nat.mul_one] at h0
    exact ⟨q - p + 1, h0⟩
