/-! floating numbers written: the system -/
def expL (m : Nat) (q : Int) : List Nat := [48 + m / 10 ^ (nd m - 1) % 10] ++ ([46] ++ ((if nd m = 1 then [48] else dl m (nd m - 1)) ++ ([69] ++ ((if q + (nd m - 1 : Nat) < 0 then [45] else []) ++ numL (q + (nd m - 1 : Nat)).natAbs 0))))
def plaL (m : Nat) (q : Int) : List Nat := numL (m * 10 ^ q.toNat) (-q).toNat
def pla (d : UInt64) : Prop := zv (tM (-6)) ≤ zv d ∧ zv d < zv (tM 6)
def sgL (x : UInt64) : List Nat := if zv x < 0 then [45] else []
/-- what is written of a floating number: 3 thrown, or 0 and characters -/
def wri (sg : Bool) (x : UInt64) (k : Nat) (L : List Nat) : Prop :=
  (zv x = 0 ∧ k = 0 ∧ ((x = 0 ∧ L = [48]) ∨ (¬ x = 0 ∧ L = [45, 48]))) ∨
  (isInf x ∧ k = 0 ∧ L = sgL x ++ [73, 78, 70]) ∨
  (zv x ≠ 0 ∧ ¬ isInf x ∧ (zv (dab x) < zv (tM (-8)) ∨ zv (tM 15) ≤ zv (dab x)) ∧ k = 3) ∨
  (zv x ≠ 0 ∧ ¬ isInf x ∧ zv (tM (-8)) ≤ zv (dab x) ∧ zv (dab x) < zv (tM 15) ∧ k = 0 ∧ ∃ e j m m' q', ldg (dab x) e ∧ FR sg (dab x) e j m ∧ ST m (e - j) m' q' ∧ ((pla (dab x) ∧ L = sgL x ++ plaL m' q') ∨ (¬ pla (dab x) ∧ L = sgL x ++ expL m' q')))
theorem inf_nz {x : UInt64} (h : isInf x) : zv x ≠ 0 := fun q => by
  have := zvbig0
  unfold isInf at h
  rw [q] at h
  omega
theorem wri_1 {sg : Bool} {x : UInt64} {k k' : Nat} {L L' : List Nat} (h : wri sg x k L) (h' : wri sg x k' L') : k = k' ∧ (k = 0 → L = L') := by
  rcases h with ⟨a, b, c⟩ | ⟨a, b, c⟩ | ⟨a, b, c, f⟩ | ⟨a, b, c, f, g, e, j, m, m', q', p1, p2, p3, p4⟩ <;> rcases h' with ⟨a', b', c'⟩ | ⟨a', b', c'⟩ | ⟨a', b', c', f'⟩ | ⟨a', b', c', f', g', e', j', m1, m1', q1', p1', p2', p3', p4'⟩
  · refine ⟨by omega, fun _ => ?_⟩
    rcases c with ⟨c1, c2⟩ | ⟨c1, c2⟩ <;> rcases c' with ⟨d1, d2⟩ | ⟨d1, d2⟩
    · rw [c2, d2]
    · exact absurd c1 d1
    · exact absurd d1 c1
    · rw [c2, d2]
  · exact absurd a (inf_nz a')
  · exact absurd a a'
  · exact absurd a a'
  · exact absurd a' (inf_nz a)
  · exact ⟨by omega, fun _ => by rw [c, c']⟩
  · exact absurd a b'
  · exact absurd a b'
  · exact absurd a' a
  · exact absurd a' b
  · exact ⟨by omega, fun _ => by omega⟩
  · omega
  · exact absurd a' a
  · exact absurd a' b
  · omega
  · refine ⟨by omega, fun _ => ?_⟩
    have := ldg_1 p1 p1'
    subst this
    obtain ⟨r1, r2⟩ := FR_1 p2 p2'
    subst r1 r2
    obtain ⟨s1, s2⟩ := ST_1 p3 p3'
    subst s1 s2
    rcases p4 with ⟨c1, c2⟩ | ⟨c1, c2⟩ <;> rcases p4' with ⟨d1, d2⟩ | ⟨d1, d2⟩
    · rw [c2, d2]
    · exact absurd c1 d1
    · exact absurd d1 c1
    · rw [c2, d2]
theorem tM_6 : ∀ i : Nat, i < 9 → zv (tM 6) ≤ zv (tM (6 + (i : Int))) := by decide +kernel
/-- the bounds of what is written -/
theorem ST_b {sg : Bool} {d : UInt64} {e : Int} {j m m' : Nat} {q' : Int} (hd : FP.Core.DFin d) (he : ldg d e) (hF : FR sg d e j m) (hS : ST m (e - j) m' q') : 1 ≤ m' ∧ m' ≤ m ∧ m' ≤ 1000000000000000 ∧ -22 ≤ q' ∧ q' ≤ 40 ∧ (pla d → q' < 16 ∧ -20 ≤ q' ∧ m' * 10 ^ q'.toNat ≤ 1000000000000000) := by
  have hmx : mxd sg ≤ 15 := by unfold mxd; split <;> decide
  have hj := hF.1
  obtain ⟨t1, t2, t3⟩ := tms_b hd he (j := j) (by omega)
  obtain ⟨u1, u2⟩ := (half_up t1 t2 t3).2 m hF.2.1
  have hp15 : 10 ^ (j + 1) ≤ 10 ^ 15 := Nat.pow_le_pow_right (by decide) (by omega)
  have hp2 : 10 ^ 15 = 1000000000000000 := by decide
  obtain ⟨e1, e2, e3, e4⟩ := he
  obtain ⟨h1, i, h2, h3⟩ := hS
  have hi0 : 0 < 10 ^ i := Nat.pow_pos (by decide)
  have hm1 : 1 ≤ m' := by omega
  have hmm : m' ≤ m := by rw [h2]; exact Nat.le_mul_of_pos_right _ hi0
  have hi15 : i ≤ 15 := by
    refine Nat.le_of_not_lt fun q => ?_
    have g1 : 10 ^ 16 ≤ 10 ^ i := Nat.pow_le_pow_right (by decide) (by omega)
    have g2 : 1 * 10 ^ i ≤ m' * 10 ^ i := Nat.mul_le_mul_right _ hm1
    omega
  refine ⟨hm1, hmm, by omega, by omega, by omega, fun hp => ?_⟩
  have he5 : e ≤ 5 := by
    refine Int.not_lt.mp fun q => ?_
    have := tM_6 (e - 6).toNat (by omega)
    rw [show 6 + (((e - 6).toNat : Nat) : Int) = e by omega] at this
    have := hp.2
    omega
  have he6 : -6 ≤ e := by
    refine Int.not_lt.mp fun q => ?_
    have := e4 (-6) (by omega) (by decide)
    have := hp.1
    omega
  have hv : m' * 10 ^ q'.toNat ≤ 1000000000000000 := by
    by_cases hq : 0 ≤ e - j
    · have g1 : q'.toNat = (e - j).toNat + i := by omega
      rw [g1, Nat.pow_add, Nat.mul_comm (10 ^ (e - j).toNat), ← Nat.mul_assoc, ← h2]
      refine Nat.le_trans (Nat.mul_le_mul_right _ u2) ?_
      rw [← Nat.pow_add]
      refine Nat.le_trans (Nat.pow_le_pow_right (by decide) (show j + 1 + (e - j).toNat ≤ 15 by omega)) (by decide)
    · have g1 : q'.toNat ≤ i := by omega
      have g2 : 10 ^ q'.toNat ≤ 10 ^ i := Nat.pow_le_pow_right (by decide) g1
      have g3 : m' * 10 ^ q'.toNat ≤ m' * 10 ^ i := Nat.mul_le_mul_left _ g2
      omega
  refine ⟨?_, by omega, hv⟩
  refine Int.not_le.mp fun q => ?_
  have g1 : 10 ^ 16 ≤ 10 ^ q'.toNat := Nat.pow_le_pow_right (by decide) (by omega)
  have g2 : 1 * 10 ^ q'.toNat ≤ m' * 10 ^ q'.toNat := Nat.mul_le_mul_right _ hm1
  omega
theorem s_JM_maxZ {a b : Int} {M : nf_M} {post : Int32 → nf_M → Prop} (ha : -1000 < a ∧ a < 1000) (hb : -1000 < b ∧ b < 1000) (k : post (zI (if a < b then b else a)) M) : P_JM_max (zI a) (zI b) M post := by
  unfold P_JM_max B_JM_max_10
  rw [zI_lt (by omega) (by omega) (by omega) (by omega)]
  refine ⟨fun z => ?_, fun z => ?_⟩
  · rw [if_pos z] at k
    exact k
  · rw [if_neg z] at k
    exact k
theorem kR_L {M M' : nf_M} (h : kR true M M') : mg_L M' 8 0 = mg_L M 8 0 ∧ mg_I M' 8 1 = mg_I M 8 1 := ⟨by unfold mg_L; rw [h.2.1], by unfold mg_I; rw [h.1]⟩
theorem s_F_wp57 {m : Nat} {q : Int} {M0 : nf_M} {post : Unit → nf_M → Prop} (hm : m < 10000000000000000) (hm1 : 1 ≤ m) (hq : -40 < q ∧ q < 60) (h1 : mg_L M0 8 0 = zL m) (h2 : mg_I M0 8 1 = zI q) : ∀ (p : Nat) (L : List Nat) (M : nf_M), p ≤ 16 → L.length + p ≤ 25 → wF M L → kR true M0 M → (∀ M', kR true M0 M' → wF M' (L ++ (dl m p ++ ([69] ++ ((if q + (nd m - 1 : Nat) < 0 then [45] else []) ++ numL (q + (nd m - 1 : Nat)).natAbs 0)))) → post () M') → B_F_writeWithPower_57 post (p + 1) (zI (nd m - 1 : Nat)) (zI ((p : Int) - 1)) M := by
  have hn16 : nd m ≤ 16 := (nd_le (by omega)).mpr hm
  intro p
  induction p with
  | zero =>
    intro L M hp hL hw hk kk
    unfold B_F_writeWithPower_57
    refine ⟨fun _ => ?_, fun z => absurd (show zI ((0 : Nat) - 1) < (0 : Int32) by decide) z⟩
    rw [show (69 : Int32) = zI (69 : Nat) by decide]
    refine s_R_addL hw (by omega) (by decide) (fun M1 k1 w1 t3 e3 => ?_)
    rw [(kR_L (hk.tr k1)).2, h2, zI_add] at e3
    obtain ⟨y, hy⟩ : ∃ y : Int, y = q + (nd m - 1 : Nat) := ⟨_, rfl⟩
    rw [← hy] at e3 kk
    rw [e3, show (0 : Int32) = zI 0 by decide, zI_lt (by omega) (by omega) (by omega) (by omega), show (45 : Int32) = zI (45 : Nat) by decide]
    rw [show dl m 0 = [] from rfl, List.nil_append] at kk
    have h117 : ∀ (S : List Nat) (M2 : nf_M), S.length ≤ 30 → wF M2 S → kR true M0 M2 → (∀ M', kR true M0 M' → wF M' (S ++ numL y.natAbs 0) → post () M') → B_F_writeWithPower_117 post (zI y) M2 := by
      intro S M2 hS w2 k2 kk2
      unfold B_F_writeWithPower_117 P_JM_abs_II B_JM_abs_II_10
      have hgo : ∀ z : Int32, z = zI y.natAbs → P_R_addNumber true (z.toInt64) (0 : Int32) M2 (fun _ M4 => post () M4) := fun z ez => by
        rw [ez, zI_l (by omega) (by omega), e0i]
        exact s_R_addNumber (by omega) (by decide) (by omega) w2 (fun M3 k3 w3 => kk2 M3 (k2.tr k3) w3)
      rw [show (0 : Int32) = zI 0 by decide, zI_lt (by omega) (by omega) (by omega) (by omega), zI_neg]
      exact ⟨fun z => hgo _ (by congr 1; omega), fun z => hgo _ (by congr 1; omega)⟩
    have hlen : (L ++ [69]).length = L.length + 1 := by rw [List.length_append]; rfl
    refine ⟨fun z => s_R_addL w1 (by omega) (by decide) (fun M2 k2 w2 => h117 _ M2 (by rw [List.length_append, hlen]; simp only [List.length_cons, List.length_nil]; omega) w2 (hk.tr (k1.tr k2)) (fun M' hk' hw' => kk M' hk' ?_)), fun z => h117 _ M1 (by omega) w1 (hk.tr k1) (fun M' hk' hw' => kk M' hk' ?_)⟩
    · rw [if_pos z]
      rw [List.append_assoc, List.append_assoc] at hw'
      exact hw'
    · rw [if_neg z, List.nil_append]
      rw [List.append_assoc] at hw'
      exact hw'
  | succ p ih =>
    intro L M hp hL hw hk kk
    unfold B_F_writeWithPower_57
    rw [show ((p + 1 : Nat) : Int) - 1 = (p : Int) by omega, (kR_L hk).1, h1]
    refine ⟨fun z => absurd z (by rw [i32_lt, t0, z_of (by omega)]; omega), fun _ => s_F_digitAt hm (by omega) (s_R_addL hw (by omega) (by have := Nat.mod_lt (m / 10 ^ p) (show 0 < 10 by decide); omega) (fun M1 k1 w1 => ?_))⟩
    rw [show (-1 : Int32) = zI (-1) by decide, zI_add, show (p : Int) + -1 = (p : Int) - 1 by omega]
    refine ih (L ++ [48 + m / 10 ^ p % 10]) M1 (by omega) (by rw [List.length_append]; simp only [List.length_cons, List.length_nil]; omega) w1 (hk.tr k1) (fun M' hk' hw' => kk M' hk' ?_)
    rw [List.append_assoc] at hw'
    exact hw'
theorem s_F_writeWithPower {m : Nat} {q : Int} {L : List Nat} {M : nf_M} {post : Unit → nf_M → Prop} (hm : m < 10000000000000000) (hm1 : 1 ≤ m) (hq : -40 < q ∧ q < 60) (hL : L.length ≤ 1) (hw : wF M L) (h1 : mg_L M 8 0 = zL m) (h2 : mg_I M 8 1 = zI q) (k : ∀ M', kR true M M' → wF M' (L ++ expL m q) → post () M') : P_F_writeWithPower M post := by
  have hn16 : nd m ≤ 16 := (nd_le (by omega)).mpr hm
  have hn0 : nd m ≠ 0 := fun q => by
    have := (nd_0 (v := m) (by omega)).mp q
    omega
  unfold P_F_writeWithPower B_F_writeWithPower_53
  rw [h1]
  refine s_F_digitCount hm (fun t3 e3 => ?_)
  rw [if_neg hn0, e1i, zI_sub, show (nd m : Int) - (1 : Nat) = ((nd m - 1 : Nat) : Int) by omega] at e3
  rw [e3, h1]
  refine s_F_digitAt hm (by omega) (s_R_addL hw (by omega) (by have := Nat.mod_lt (m / 10 ^ (nd m - 1)) (show 0 < 10 by decide); omega) (fun M1 k1 w1 => ?_))
  have hl1 : (L ++ [48 + m / 10 ^ (nd m - 1) % 10]).length = L.length + 1 := by rw [List.length_append]; rfl
  rw [show (46 : Int32) = zI (46 : Nat) by decide]
  refine s_R_addL w1 (by omega) (by decide) (fun M2 k2 w2 => ?_)
  have hl2 : (L ++ [48 + m / 10 ^ (nd m - 1) % 10] ++ [46]).length = L.length + 2 := by rw [List.length_append, hl1]; rfl
  rw [z0' (by omega), show (48 : Int32) = zI (48 : Nat) by decide]
  unfold expL at k
  have k12 := k1.tr k2
  refine ⟨fun z => s_R_addL w2 (by omega) (by decide) (fun M3 k3 w3 t1 e1 => ?_), fun z t1 e1 => ?_⟩
  · have hn1 : nd m = 1 := by omega
    rw [e1i, zI_sub] at e1
    have h := s_F_wp57 (post := post) hm hm1 hq h1 h2 0 _ M3 (by decide) (by rw [List.length_append, hl2]; simp only [List.length_cons, List.length_nil]; omega) w3 (k12.tr k3) (fun M' hk' hw' => k M' hk' (by
      rw [if_pos hn1]
      rw [show dl m 0 = [] from rfl, List.nil_append, List.append_assoc, List.append_assoc, List.append_assoc] at hw'
      exact hw'))
    rw [e1]
    refine ⟨0 + 1, ?_⟩
    rw [show ((nd m - 1 : Nat) : Int) - (1 : Nat) = ((0 : Nat) : Int) - 1 by omega]
    exact h
  · rw [e1i, zI_sub] at e1
    have h := s_F_wp57 (post := post) hm hm1 hq h1 h2 (nd m - 1) _ M2 (by omega) (by rw [hl2]; omega) w2 k12 (fun M' hk' hw' => k M' hk' (by
      rw [if_neg (show ¬ nd m = 1 by omega)]
      rw [List.append_assoc, List.append_assoc] at hw'
      exact hw'))
    rw [e1]
    exact ⟨nd m - 1 + 1, h⟩
