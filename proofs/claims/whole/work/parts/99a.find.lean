/-! the digits that a floating number is written with -/
/-- ten to the k-th as a double -/
def tM (k : Int) : UInt64 := if k < 0 then FP.ddiv FP.dconst1 (tn (-k).toNat) else tn k.toNat
def chk (i j : Nat) : Bool :=
  let e : Int := (i : Int) - 8
  let q : Int := e - j
  if q ≤ 0 then decide (zv (tM (e + 1)) * zv (tn (-q).toNat) ≤ (4 * 10 ^ (j + 1) + 1 : Nat) * 2 ^ 1072 * (O1 : Int)) && decide (3 * 2 ^ 1072 * (O1 : Int) ≤ zv (tM e) * zv (tn (-q).toNat))
  else decide (zv (tM (e + 1)) * (O1 : Int) ≤ (4 * 10 ^ (j + 1) + 1 : Nat) * 2 ^ 1072 * zv (tn q.toNat)) && decide (3 * 2 ^ 1072 * zv (tn q.toNat) ≤ zv (tM e) * (O1 : Int))
theorem chk_ok : ∀ i, i < 23 → ∀ j, j < 15 → chk i j = true := by decide +kernel
theorem tM_ok : ∀ i : Nat, i < 24 → okD (tM ((i : Int) - 8)) ∧ 0 < zv (tM ((i : Int) - 8)) := by decide +kernel
theorem tn_pos : ∀ n, n < 23 → 0 < zv (tn n) := by decide +kernel
/-- e is the power of the first digit -/
def ldg (d : UInt64) (e : Int) : Prop := -8 ≤ e ∧ e ≤ 14 ∧ zv (tM e) ≤ zv d ∧ ∀ k, e < k → k ≤ 15 → zv d < zv (tM k)
theorem ldg_1 {d : UInt64} {e e' : Int} (h : ldg d e) (h' : ldg d e') : e = e' := by
  obtain ⟨a, b, c, f⟩ := h
  obtain ⟨a', b', c', f'⟩ := h'
  rcases Int.lt_trichotomy e e' with q | q | q
  · have := f e' q (by omega)
    omega
  · exact q
  · have := f' e q (by omega)
    omega
theorem half_up {w : UInt64} {n : Nat} (hw : okD w) (h1 : 3 * 2 ^ 1072 ≤ zv w) (h2 : zv w ≤ (4 * n + 1 : Nat) * 2 ^ 1072) : wq w ≤ n ∧ ∀ m : Nat, ev w m → 1 ≤ m ∧ m ≤ n := by
  have eO : (O1 : Int) = 4 * 2 ^ 1072 := by decide +kernel
  have hp : (0 : Int) < 2 ^ 1072 := by decide +kernel
  have h0 : ¬ zv w < 0 := by generalize (2 : Int) ^ 1072 = P at *; omega
  have hwf := wf w
  have hf := fq_lt w
  have ez : zv w = (wq w : Int) * (O1 : Int) + fq w := by
    have : ((zv w).natAbs : Int) = zv w := by omega
    rw [← this, hwf, Int.natCast_add, Int.natCast_mul]
  have fl : flo w = (wq w : Int) := by unfold flo; rw [if_neg h0]
  have rs : rsE w = fq w := by unfold rsE; rw [if_neg h0]
  have hU : upc 5 (rsE w) (flo w) = ((O1 : Int) < 2 * rsE w ∨ (2 * rsE w = O1 ∧ ¬ flo w % 2 = 0)) := rfl
  rw [Int.natCast_add, Int.natCast_mul, Int.add_mul, Int.mul_assoc] at h2
  have hOp : 0 < (O1 : Int) := by have := O1_pos; omega
  have hle : wq w ≤ n := by
    refine Nat.le_of_not_lt fun q => ?_
    have h3 : ((n : Int) + 1) * (O1 : Int) ≤ (wq w : Int) * (O1 : Int) := Int.mul_le_mul_of_nonneg_right (by omega) (by omega)
    rw [Int.add_mul, Int.one_mul, eO] at h3
    rw [eO] at ez
    have h4 : (n : Int) * (4 * 2 ^ 1072) = 4 * ((n : Int) * 2 ^ 1072) := by rw [Int.mul_left_comm]
    have h5 : ((4 : Nat) : Int) * ((n : Int) * 2 ^ 1072) = 4 * ((n : Int) * 2 ^ 1072) := rfl
    rw [h5] at h2
    rw [h4] at h3
    generalize (wq w : Int) * (4 * 2 ^ 1072) = A at *
    generalize (n : Int) * 2 ^ 1072 = B at *
    generalize (2 : Int) ^ 1072 = P at *
    omega
  refine ⟨hle, fun m hm => ?_⟩
  unfold ev at hm
  rw [hU, fl, rs] at hm
  by_cases hz : wq w = 0
  · rw [hz, Int.natCast_zero, Int.zero_mul, Int.zero_add] at ez
    rw [hz] at hm hle
    rw [eO] at hm
    have hn : 1 ≤ n := by
      refine Nat.le_of_not_lt fun q => ?_
      have : n = 0 := by omega
      subst this
      rw [Int.natCast_zero, Int.zero_mul, Int.mul_zero] at h2
      generalize (2 : Int) ^ 1072 = P at *
      omega
    generalize (2 : Int) ^ 1072 = P at *
    omega
  · by_cases hn : wq w = n
    · have h3 : ¬ ((O1 : Int) < 2 * (fq w : Int) ∨ (2 * (fq w : Int) = O1 ∧ ¬ (wq w : Int) % 2 = 0)) := by
        rw [hn, eO] at ez
        have h4 : (n : Int) * (4 * 2 ^ 1072) = 4 * ((n : Int) * 2 ^ 1072) := by rw [Int.mul_left_comm]
        have h5 : ((4 : Nat) : Int) * ((n : Int) * 2 ^ 1072) = 4 * ((n : Int) * 2 ^ 1072) := rfl
        rw [h4] at ez
        rw [h5] at h2
        rw [eO]
        generalize (n : Int) * 2 ^ 1072 = B at *
        generalize (2 : Int) ^ 1072 = P at *
        omega
      rcases hm with ⟨a, b⟩ | ⟨a, b⟩
      · exact absurd a h3
      · omega
    · omega
/-- what comes before the point -/
theorem tms_b {d : UInt64} {e : Int} {j : Nat} (hd : FP.Core.DFin d) (h : ldg d e) (hj : j < 15) : okD (tms d (-(e - j))) ∧ 3 * 2 ^ 1072 ≤ zv (tms d (-(e - j))) ∧ zv (tms d (-(e - j))) ≤ (4 * 10 ^ (j + 1) + 1 : Nat) * 2 ^ 1072 := by
  obtain ⟨h1, h2, h3, h4⟩ := h
  obtain ⟨i, hi⟩ : ∃ i : Nat, e = (i : Int) - 8 := ⟨(e + 8).toNat, by omega⟩
  have hi23 : i < 23 := by omega
  have hc := chk_ok i hi23 j hj
  unfold chk at hc
  rw [← hi] at hc
  dsimp only at hc
  have hlt := h4 (e + 1) (by omega) (by omega)
  have hd0 : 0 < zv d := by
    have := (tM_ok i (by omega)).2
    rw [← hi] at this
    omega
  have q11 : 4 * 10 ^ (j + 1) + 1 < 2 ^ 53 := by
    have : 10 ^ (j + 1) ≤ 10 ^ 15 := Nat.pow_le_pow_right (by decide) (by omega)
    generalize 10 ^ (j + 1) = P at *
    omega
  obtain ⟨V, hV, eV⟩ := rep_mk (c := 4 * 10 ^ (j + 1) + 1) (k := 1072) q11 (by decide)
  obtain ⟨V', hV', eV'⟩ := rep_mk (c := 3) (k := 1072) (by decide) (by decide)
  have c1 : ((4 * 10 ^ (j + 1) + 1 : Nat) * 2 ^ 1072 : Int) = zv V := by rw [eV, Int.natCast_mul, Int.natCast_pow]; rfl
  have c2 : (3 * 2 ^ 1072 : Int) = zv V' := by rw [eV', Int.natCast_mul, Int.natCast_pow]; rfl
  have p1 : 0 ≤ zv V := by rw [eV]; omega
  have p2 : 0 ≤ zv V' := by rw [eV']; omega
  rw [c1, c2]
  by_cases hq : e - j ≤ 0
  · rw [if_pos hq, Bool.and_eq_true, decide_eq_true_iff, decide_eq_true_iff, c1, c2] at hc
    have et : tms d (-(e - j)) = FP.Core.dmul d (tn (-(e - j)).toNat) := by
      unfold tms
      rw [if_neg (by omega)]
    have htp := tn_pos (-(e - j)).toNat (by omega)
    obtain ⟨b1, b2, b3⟩ := dmul_b hd (tn_F (n := (-(e - j)).toNat) (by omega)) hd0 htp
    rw [et]
    have nA : ∀ z : Int, 0 ≤ z → ((z.natAbs : Nat) : Int) = z := fun z hz => by omega
    have up : (zv d).natAbs * (zv (tn (-(e - j)).toNat)).natAbs ≤ (zv V).natAbs * O1 := by
      have g1 : zv d * zv (tn (-(e - j)).toNat) ≤ zv (tM (e + 1)) * zv (tn (-(e - j)).toNat) := Int.mul_le_mul_of_nonneg_right (by omega) (by omega)
      have g2 := Int.le_trans g1 hc.1
      rw [← nA _ (show 0 ≤ zv d by omega), ← nA _ (show 0 ≤ zv (tn (-(e - j)).toNat) by omega), ← nA _ p1, ← Int.natCast_mul, ← Int.natCast_mul] at g2
      exact Int.ofNat_le.mp g2
    have lo : (zv V').natAbs * O1 ≤ (zv d).natAbs * (zv (tn (-(e - j)).toNat)).natAbs := by
      have g1 : zv (tM e) * zv (tn (-(e - j)).toNat) ≤ zv d * zv (tn (-(e - j)).toNat) := Int.mul_le_mul_of_nonneg_right h3 (by omega)
      have g2 := Int.le_trans hc.2 g1
      rw [← nA _ (show 0 ≤ zv d by omega), ← nA _ (show 0 ≤ zv (tn (-(e - j)).toNat) by omega), ← nA _ p2, ← Int.natCast_mul, ← Int.natCast_mul] at g2
      exact Int.ofNat_le.mp g2
    exact ⟨b1, (b3 V' hV' p2).2 lo, (b3 V hV p1).1 up⟩
  · rw [if_neg hq, Bool.and_eq_true, decide_eq_true_iff, decide_eq_true_iff, c1, c2] at hc
    have et : tms d (-(e - j)) = FP.Core.ddiv d (tn (e - j).toNat) := by
      unfold tms
      rw [if_pos (by omega), Int.neg_neg]
    have htp := tn_pos (e - j).toNat (by omega)
    obtain ⟨b1, b2, b3⟩ := ddiv_b hd (tn_F (n := (e - j).toNat) (by omega)) hd0 htp
    rw [et]
    have nA : ∀ z : Int, 0 ≤ z → ((z.natAbs : Nat) : Int) = z := fun z hz => by omega
    have up : (zv d).natAbs * O1 ≤ (zv V).natAbs * (zv (tn (e - j).toNat)).natAbs := by
      have g1 : zv d * (O1 : Int) ≤ zv (tM (e + 1)) * (O1 : Int) := Int.mul_le_mul_of_nonneg_right (by omega) (by omega)
      have g2 := Int.le_trans g1 hc.1
      rw [← nA _ (show 0 ≤ zv d by omega), ← nA _ (show 0 ≤ zv (tn (e - j).toNat) by omega), ← nA _ p1, ← Int.natCast_mul, ← Int.natCast_mul] at g2
      exact Int.ofNat_le.mp g2
    have lo : (zv V').natAbs * (zv (tn (e - j).toNat)).natAbs ≤ (zv d).natAbs * O1 := by
      have g1 : zv (tM e) * (O1 : Int) ≤ zv d * (O1 : Int) := Int.mul_le_mul_of_nonneg_right h3 (by omega)
      have g2 := Int.le_trans hc.2 g1
      rw [← nA _ (show 0 ≤ zv d by omega), ← nA _ (show 0 ≤ zv (tn (e - j).toNat) by omega), ← nA _ p2, ← Int.natCast_mul, ← Int.natCast_mul] at g2
      exact Int.ofNat_le.mp g2
    exact ⟨b1, (b3 V' hV' p2).2 lo, (b3 V hV p1).1 up⟩
