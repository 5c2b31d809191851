/-! exact numbers: the reference's row of digits -/
def vd (ds : Nat → Nat) : Nat → Nat
  | 0 => 0
  | n + 1 => 10 * vd ds n + ds n
def isG (M : nf_M) (w n : Nat) : Prop := n ≤ 80 ∧ mg_I M 19 13 = zI n ∧ ∃ ds : Nat → Nat, (∀ i, i < n → mg_I M 26 i = zI (ds i) ∧ ds i < 10) ∧ vd ds n = w
/-- what the digits' methods keep: the notes of a throw too -/
def kG (M M' : nf_M) : Prop := kO M M' ∧ mg_I M' 19 9 = mg_I M 19 9 ∧ mg_I M' 19 0 = mg_I M 19 0
theorem kG.rf (M : nf_M) : kG M M := ⟨kO.rf M, rfl, rfl⟩
theorem kG.tr {A B C : nf_M} (h1 : kG A B) (h2 : kG B C) : kG A C := ⟨h1.1.tr h2.1, h2.2.1.trans h1.2.1, h2.2.2.trans h1.2.2⟩
theorem vd_lt (ds : Nat → Nat) : ∀ n, (∀ i, i < n → ds i < 10) → vd ds n < 10 ^ n := by
  intro n
  induction n with
  | zero => intro _; exact Nat.one_pos
  | succ n ih =>
    intro h
    have h1 := ih (fun i hi => h i (by omega))
    have h2 := h n (by omega)
    unfold vd
    rw [Nat.pow_succ]
    omega
theorem vd_ext {ds es : Nat → Nat} : ∀ n, (∀ i, i < n → ds i = es i) → vd ds n = vd es n := by
  intro n
  induction n with
  | zero => intro _; rfl
  | succ n ih =>
    intro h
    unfold vd
    rw [ih (fun i hi => h i (by omega)), h n (by omega)]
theorem isG_lt {M : nf_M} {w n : Nat} (h : isG M w n) : w < 10 ^ n := by
  obtain ⟨-, -, ds, h1, h2⟩ := h
  rw [← h2]
  exact vd_lt ds n (fun i hi => (h1 i hi).2)
/-- one digit more -/
theorem isG_push {M : nf_M} {w n d : Nat} (h : isG M w n) (hn : n < 80) (hd : d < 10) : isG (ms_I (ms_I M 26 n (zI d)) 19 13 (zI (n + 1 : Nat))) (10 * w + d) (n + 1) ∧ kG M (ms_I (ms_I M 26 n (zI d)) 19 13 (zI (n + 1 : Nat))) := by
  obtain ⟨h0, h1, ds, h2, h3⟩ := h
  refine ⟨⟨by omega, rfl, up ds n d, fun i hi => ?_, ?_⟩, ?_⟩
  · have e : mg_I (ms_I (ms_I M 26 n (zI d)) 19 13 (zI (n + 1 : Nat))) 26 i = if i = n then zI d else mg_I M 26 i := rfl
    rw [e]
    unfold up
    by_cases q : i = n
    · rw [if_pos q, if_pos q]; exact ⟨rfl, hd⟩
    · rw [if_neg q, if_neg q]; exact h2 i (by omega)
  · unfold vd
    have e1 : vd (up ds n d) n = vd ds n := vd_ext n (fun i hi => by unfold up; rw [if_neg (by omega)])
    have e2 : up ds n d n = d := by unfold up; rw [if_pos rfl]
    rw [e1, e2, h3]
  · exact ⟨(kO_26 M n _).tr (kO_19 _ 13 _ (by decide) (by decide)), rfl, rfl⟩
/-- one digit less -/
theorem isG_pop {M : nf_M} {w n : Nat} (h : isG M w (n + 1)) : isG (ms_I M 19 13 (zI n)) (w / 10) n ∧ kG M (ms_I M 19 13 (zI n)) ∧ mg_I M 26 n = zI (w % 10 : Nat) := by
  obtain ⟨h0, h1, ds, h2, h3⟩ := h
  have h4 := (h2 n (by omega)).2
  unfold vd at h3
  refine ⟨⟨by omega, rfl, ds, fun i hi => h2 i (by omega), by omega⟩, ⟨kO_19 M 13 _ (by decide) (by decide), rfl, rfl⟩, ?_⟩
  rw [(h2 n (by omega)).1]
  congr 2
  omega
theorem dig_step {v n r : Nat} (h : r < n) : v % 10 ^ n / 10 ^ r = 10 * (v % 10 ^ n / 10 ^ (r + 1)) + v / 10 ^ r % 10 := by
  obtain ⟨j, rfl⟩ : ∃ j, n = r + (j + 1) := ⟨n - r - 1, by omega⟩
  have e1 : v % 10 ^ (r + (j + 1)) / 10 ^ r = v / 10 ^ r % 10 ^ (j + 1) := by
    rw [Nat.pow_add, Nat.mod_mul_right_div_self]
  have e2 : v % 10 ^ (r + (j + 1)) / 10 ^ (r + 1) = v / 10 ^ r % 10 ^ (j + 1) / 10 := by
    rw [← e1, Nat.div_div_eq_div_mul, Nat.pow_succ]
  rw [e1, e2]
  have e3 : v / 10 ^ r % 10 ^ (j + 1) % 10 = v / 10 ^ r % 10 := Nat.mod_mod_of_dvd _ (by rw [Nat.pow_succ]; exact Nat.dvd_mul_left _ _)
  omega
theorem s_M_addDigits {v n w m : Nat} {M : nf_M} {post : Unit → nf_M → Prop} (hv : v < 9223372036854775808) (hn : n ≤ 19) (hm : m + n ≤ 80) (hG : isG M w m) (k : ∀ M', kG M M' → isG M' (w * 10 ^ n + v % 10 ^ n) (m + n) → post () M') : P_M_addDigits (zL v) (zI n) M post := by
  have key : ∀ r : Nat, r ≤ n → ∀ M1 : nf_M, kG M M1 → isG M1 (w * 10 ^ (n - r) + v % 10 ^ n / 10 ^ r) (m + (n - r)) → B_M_addDigits_5 post (r + 1) (zL v) (zI ((r : Int) - 1)) M1 := by
    intro r
    induction r with
    | zero =>
      intro hr M1 hk hg
      unfold B_M_addDigits_5
      rw [Nat.sub_zero, Nat.pow_zero, Nat.div_one] at hg
      exact ⟨fun _ => k M1 hk hg, fun z => absurd (show zI (((0 : Nat) : Int) - 1) < 0 by decide) z⟩
    | succ r ih =>
      intro hr M1 hk hg
      unfold B_M_addDigits_5
      have ex : zI (((r + 1 : Nat) : Int) - 1) = zI r := by congr 1; omega
      rw [ex]
      refine ⟨fun z => ?_, fun _ => s_M_power (by omega) ⟨pw_ne (by omega), fun t4 e4 => ?_⟩⟩
      · rw [i32_lt, z_of (by omega), t0] at z
        omega
      have hp := pow_lt19 (k := r) (by omega)
      have hpp := p_pos r
      have hq : v / 10 ^ r < 9223372036854775808 := Nat.lt_of_le_of_lt (Nat.div_le_self _ _) hv
      have e5 : t4 = zI (v / 10 ^ r % 10 : Nat) := by
        rw [e4]
        show ((zL v / pw r) - (zL v / pw r) / 10 * 10).toInt32 = _
        rw [pw_z, zdiv hv (by omega), e10, zmod hq (by omega), zL_i (by omega) (by omega)]
      have hG1 := hg
      obtain ⟨h0, h1, -⟩ := hg
      rw [h1]
      refine ⟨z_in (by omega) (by omega), fun M6 e6 t7 e7 M8 e8 => ?_⟩
      have e9 : mg_I M6 19 13 = zI (m + (n - (r + 1)) : Nat) := by rw [e6]; exact h1
      rw [z_cl (by omega), e5] at e6
      rw [e9, show (1 : Int32) = zI (1 : Nat) by decide, zI_add] at e7
      have hpush := isG_push hG1 (by omega) (show v / 10 ^ r % 10 < 10 by omega)
      have e10' : M8 = ms_I (ms_I M1 26 (m + (n - (r + 1))) (zI (v / 10 ^ r % 10 : Nat))) 19 13 (zI (m + (n - (r + 1)) + 1 : Nat)) := by
        rw [e8, e7, e6]
        rfl
      rw [show (-1 : Int32) = zI (-1) by decide, zI_add]
      refine ih (by omega) M8 (hk.tr (by rw [e10']; exact hpush.2)) ?_
      rw [e10']
      have e11 : w * 10 ^ (n - r) + v % 10 ^ n / 10 ^ r = 10 * (w * 10 ^ (n - (r + 1)) + v % 10 ^ n / 10 ^ (r + 1)) + v / 10 ^ r % 10 := by
        rw [dig_step (show r < n by omega), show n - r = (n - (r + 1)) + 1 by omega, Nat.pow_succ]
        generalize 10 ^ (n - (r + 1)) = a
        generalize v % 10 ^ n / 10 ^ (r + 1) = b
        generalize v / 10 ^ r % 10 = d
        rw [Nat.mul_add, ← Nat.mul_assoc, Nat.mul_comm 10 (w * a)]
        omega
      rw [e11, show m + (n - r) = m + (n - (r + 1)) + 1 by omega]
      exact hpush.1
  unfold P_M_addDigits
  intro t1 e1
  refine ⟨n + 1, ?_⟩
  have e2 : t1 = zI ((n : Int) - 1) := by rw [e1, show (1 : Int32) = zI 1 by decide, zI_sub]
  rw [e2]
  refine key n (Nat.le_refl _) M (kG.rf M) ?_
  rw [Nat.sub_self, Nat.pow_zero, Nat.mul_one, Nat.add_zero, Nat.div_eq_of_lt (Nat.mod_lt _ (p_pos n)), Nat.add_zero]
  exact hG
