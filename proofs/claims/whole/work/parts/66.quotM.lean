/-! exact numbers: the reference's quotient -/
theorem zLi {n : Nat} (h : n < 2147483648) : (zL n).toInt32 = zI n := zL_i (by omega) (by omega)
theorem z_s (i : Nat) : zI (i : Int) + (1 : Int32) = zI ((i + 1 : Nat) : Int) := by
  rw [e1i, zI_add]
  rfl
theorem qstep (x y i : Nat) (hy0 : 0 < y) : x * 10 ^ (i + 1) % y = x * 10 ^ i % y * 10 % y ∧ x * 10 ^ (i + 1) / y = x * 10 ^ i / y * 10 + x * 10 ^ i % y * 10 / y ∧ x * 10 ^ i % y * 10 / y < 10 := by
  have hm : x * 10 ^ i % y < y := Nat.mod_lt _ hy0
  have hdm := Nat.div_add_mod (x * 10 ^ i) y
  have e0 : x * 10 ^ (i + 1) = x * 10 ^ i * 10 := by rw [Nat.pow_succ, ← Nat.mul_assoc]
  rw [e0]
  generalize x * 10 ^ i = z at *
  generalize hq : z % y = q at *
  generalize z / y = g at *
  have e1 : z * 10 = y * (g * 10) + q * 10 := by
    rw [← hdm]
    grind
  rw [e1]
  refine ⟨Nat.mul_add_mod _ _ _, by rw [Nat.mul_add_div hy0], ?_⟩
  rw [Nat.div_lt_iff_lt_mul hy0]
  omega
theorem vd_div (ds : Nat → Nat) (n : Nat) : ∀ j, (∀ i, i < n + j → ds i < 10) → vd ds (n + j) / 10 ^ j = vd ds n := by
  intro j
  induction j with
  | zero => intro _; rw [Nat.pow_zero, Nat.div_one]; rfl
  | succ j ih =>
    intro h
    have h1 := ih (fun i hi => h i (by omega))
    have h2 := h (n + j) (by omega)
    have e : vd ds (n + (j + 1)) = 10 * vd ds (n + j) + ds (n + j) := rfl
    rw [e, Nat.pow_succ, Nat.mul_comm (10 ^ j), ← Nat.div_div_eq_div_mul, show (10 * vd ds (n + j) + ds (n + j)) / 10 = vd ds (n + j) by omega]
    exact h1
theorem isG_popn {M : nf_M} {w n j : Nat} (h : isG M w (n + j)) : isG (ms_I M 19 13 (zI n)) (w / 10 ^ j) n ∧ kG M (ms_I M 19 13 (zI n)) := by
  obtain ⟨h0, h1, ds, h2, h3⟩ := h
  refine ⟨⟨by omega, rfl, ds, fun i hi => h2 i (by omega), ?_⟩, kO_19 M 13 _ (by decide) (by decide), rfl, rfl⟩
  rw [← h3]
  exact (vd_div ds n j (fun i hi => (h2 i hi).2)).symm
theorem s_M_quot130 {a b : Int} {y r w n : Nat} {x7 : Int32} {rd : Bool} {M0 M : nf_M} {post : Unit → nf_M → Prop} {xy0 : Int32} (ha : lim a) (hb : lim b) (h7 : x7 = if rd then 1 else 0) (hy : y < 1000000000000000) (hr : r < y) (hn : 7 ≤ n) (hxy : xy0 = zI n) (hg : isG (ms_I M 19 13 (zI n)) w n) (hkk : kG M (ms_I M 19 13 (zI n))) (h9 : mg_I M 19 9 = 0) (hk : kH M0 M) (hW : rou w (if rd then lf r y else 0) < 10 ^ n) (k : ∀ M', resM (oth a b) (dz (if rd then 6 else 0) (rou w (if rd then lf r y else 0))) M0 M' → post () M') : B_M_quotient_130 post (zL a) (zL b) x7 (zL y) (zL r) xy0 M := by
  have fin : ∀ (x1 : Int32) (c : Nat), c = (if rd then lf r y else 0) → x1 = (if oth a b then 1 else 0) → P_M_settle x1 (zI (if rd then 6 else 0 : Nat)) (zI c) (ms_I M 19 13 (zI n)) (fun _ M2 => post () M2) := fun x1 c hc h1 => by
    have hl := lf_le r y
    refine s_M_settle_small (neg := oth a b) h1 (by rw [hc]; split <;> omega) (by split <;> omega) (by split <;> omega) (by omega) hg (by rw [hkk.2.1]; exact h9) (by rw [hc]; exact hW) (fun M' q => k M' (resM_of (hk.tr hkk.H) ?_))
    rw [hc] at q
    exact q
  have f175 : ∀ c : Nat, c = lf r y → B_M_quotient_175 post (zL a) (zL b) x7 (zI c) (ms_I M 19 13 (zI n)) := fun c hc => by
    have f209 : ∀ x1 : Int32, x1 = (if oth a b then 1 else 0) → B_M_quotient_209 post x7 (zI c) x1 (ms_I M 19 13 (zI n)) := fun x1 h1 => by
      unfold B_M_quotient_209 B_M_quotient_220 B_M_quotient_231
      cases rd with
      | true =>
        refine ⟨fun z => absurd (h7.symm.trans z) (by decide), fun _ => ⟨fun z => absurd (h7.symm.trans z) (by decide), fun _ => ?_⟩⟩
        exact fin x1 c (by rw [hc]; rfl) h1
      | false =>
        refine ⟨fun _ => ⟨fun _ => ?_, fun z => absurd h7 z⟩, fun z => absurd h7 z⟩
        exact fin x1 0 rfl h1
    unfold B_M_quotient_175 B_M_quotient_189 B_M_quotient_201
    rw [zL_neg0 (by omega), zL_neg0 (by omega)]
    refine ⟨fun za => ⟨fun zb => ⟨fun _ => f209 0 ?_, fun z => absurd rfl z⟩, fun zb => ⟨fun z => absurd z (by decide), fun _ => f209 1 ?_⟩⟩, fun za => ⟨fun zb => ⟨fun z => absurd z (by decide), fun _ => f209 1 ?_⟩, fun zb => ⟨fun _ => f209 0 ?_, fun z => absurd rfl z⟩⟩⟩
    · rw [oth_f (Or.inl ⟨za, zb⟩)]; rfl
    · rw [oth_t (Or.inl ⟨za, zb⟩)]; rfl
    · rw [oth_t (Or.inr ⟨za, zb⟩)]; rfl
    · rw [oth_f (Or.inr ⟨za, zb⟩)]; rfl
  unfold B_M_quotient_130
  intro M1 e1
  rw [hxy] at e1
  subst e1
  have esub : zL y - zL r = zL (y - r : Nat) := by rw [zL_sub]; congr 1; omega
  rw [esub, el0, zLeq (by omega) (by omega), zLlt (by omega) (by omega), zLeq (by omega) (by omega)]
  unfold lf at f175
  refine ⟨fun z => f175 0 ?_, fun z => ⟨fun z2 => f175 3 ?_, fun z2 => ⟨fun z3 => f175 2 ?_, fun z3 => f175 1 ?_⟩⟩⟩
  · (repeat' split) <;> omega
  · (repeat' split) <;> omega
  · (repeat' split) <;> omega
  · (repeat' split) <;> omega
/-- the whole part of the quotient of amounts at so many places, or at so many places less -/
def qw (x y : Nat) (e : Int) : Nat := if e < 0 then x / y / 10 ^ (-e).toNat else x * 10 ^ e.toNat / y
def qr (x y : Nat) (e : Int) : Nat := if e < 0 then x % y else x * 10 ^ e.toNat % y
theorem s_M_quotient {a b : Int} {p q : Nat} {rd : Bool} {x7 : Int32} {M : nf_M} {post : Unit → nf_M → Prop} (ha : lim a) (hb : lim b) (hb0 : b ≠ 0) (hp : p ≤ 6) (hq : q ≤ 6) (h7 : x7 = if rd then 1 else 0) (h9 : mg_I M 19 9 = 0) (k : ∀ M', resM (oth a b) (dz (if rd then 6 else 0) (rou (qw a.natAbs b.natAbs ((q : Int) - p + (if rd then 6 else 0))) (if rd then lf (qr a.natAbs b.natAbs ((q : Int) - p + (if rd then 6 else 0))) b.natAbs else 0))) M M' → post () M') : P_M_quotient (zL a) (zI p) (zL b) (zI q) x7 M post := by
  obtain ⟨g1, g2⟩ := isG_0 M
  unfold P_M_quotient
  refine s_M_amount (by omega) (s_M_amount (by omega) ?_)
  intro M5 e5
  rw [← e5] at g1 g2
  have hx : a.natAbs < 1000000000000000 := by omega
  have hy : b.natAbs < 1000000000000000 := by omega
  have hy0 : 0 < b.natAbs := by omega
  generalize a.natAbs = x at hx k ⊢
  generalize b.natAbs = y at hy hy0 k ⊢
  have hyn : ¬ zL y = 0 := by rw [el0, zLeq (by omega) (by omega)]; omega
  have hdiv := Nat.div_le_self x y
  rw [zmod (by omega) (by omega), zdiv (by omega) (by omega), e19i]
  refine ⟨hyn, s_M_addDigits (by omega) (by omega) (by omega) g1 (fun M8 k8 g8 => ⟨hyn, fun t10 e10' => ?_⟩)⟩
  have hw8 : 0 * 10 ^ 19 + x / y % 10 ^ 19 = x / y := by
    generalize x / y = D at hdiv ⊢
    omega
  rw [hw8] at g8
  rw [e10']
  have h51 : ∀ c : Int, c = (if rd then 6 else 0) → B_M_quotient_51 post (zL a) (zL b) x7 (zL y) (zL (x % y : Nat)) (zI c) (zI q - zI p) M8 := by
    intro c hc
    unfold B_M_quotient_51
    intro t1 e1
    rw [zI_sub, zI_add] at e1
    rw [← hc] at k
    have hcb : -6 ≤ (q : Int) - p + c ∧ (q : Int) - p + c ≤ 12 ∧ (rd = true → 0 ≤ (q : Int) - p + c) := by
      rw [hc]
      cases rd with
      | true =>
        refine ⟨?_, ?_, fun _ => ?_⟩ <;> simp <;> omega
      | false =>
        refine ⟨?_, ?_, fun z => absurd z (by decide)⟩ <;> simp <;> omega
    generalize (q : Int) - p + c = e at e1 k hcb
    subst e1
    have hmod : ∀ z : Nat, z % y < y := fun z => Nat.mod_lt _ hy0
    by_cases he : e < 0
    · refine ⟨1, ?_⟩
      unfold B_M_quotient_57
      have e0 : ¬ (0 : Int32) < zI e := by rw [i32_lt, t0, zI_ti (by omega) (by omega)]; omega
      have e00 : zI e < (0 : Int32) := by rw [i32_lt, t0, zI_ti (by omega) (by omega)]; omega
      refine ⟨fun z => absurd z e0, fun _ => ⟨fun _ => ?_, fun z => absurd e00 z⟩⟩
      obtain ⟨j, hj⟩ : ∃ j : Nat, e = -(j : Int) := ⟨(-e).toNat, by omega⟩
      obtain ⟨m, hm⟩ : ∃ m : Nat, 19 = m + j := ⟨19 - j, by omega⟩
      have g9 : isG M8 (x / y) (m + j) := by rw [← hm]; exact g8
      obtain ⟨p1, p2⟩ := isG_popn g9
      unfold qw qr at k
      rw [if_pos he, if_pos he, show (-e).toNat = j by omega] at k
      have hlt := isG_lt p1
      cases rd with
      | true => exact absurd (hcb.2.2 rfl) (by omega)
      | false =>
        refine s_M_quot130 (rd := false) (M0 := M) (n := m) ha hb h7 hy (hmod x) (by omega) (by rw [g8.2.1, zI_add]; congr 1; omega) p1 p2 ((g2.tr k8).2.1.trans h9) (g2.tr k8).H ?_ k
        rw [if_neg (by decide), rou_0]
        exact hlt
    · obtain ⟨K, hK⟩ : ∃ K : Nat, e = (K : Int) := ⟨e.toNat, by omega⟩
      subst hK
      have key : ∀ r i : Nat, i + r = K → ∀ M1 : nf_M, kG M8 M1 → isG M1 (x * 10 ^ i / y) (19 + i) → B_M_quotient_57 post (r + 1) (zL a) (zL b) x7 (zL y) (zL (x * 10 ^ i % y : Nat)) (zI (K : Int)) (zI i) M1 := by
        intro r
        induction r with
        | zero =>
          intro i hi M1 k1 g9
          have : i = K := by omega
          subst this
          unfold B_M_quotient_57
          have e00 : ¬ zI (i : Int) < (0 : Int32) := by rw [i32_lt, t0, z_of (by omega)]; omega
          refine ⟨fun z => absurd z (by rw [zlt (by omega) (by omega)]; omega), fun _ => ⟨fun z => absurd z e00, fun _ => ?_⟩⟩
          unfold qw qr at k
          rw [if_neg he, if_neg he, show (i : Int).toNat = i by omega] at k
          have hkk := (g2.tr k8).tr k1
          have g10 : isG (ms_I M1 19 13 (zI (19 + i : Nat))) (x * 10 ^ i / y) (19 + i) := ⟨g9.1, rfl, g9.2.2⟩
          refine s_M_quot130 (M0 := M) (n := 19 + i) ha hb h7 hy (hmod _) (by omega) g9.2.1 g10 ⟨kO_19 M1 13 _ (by decide) (by decide), rfl, rfl⟩ (hkk.2.1.trans h9) hkk.H ?_ k
          have h1 : x * 10 ^ i / y ≤ x * 10 ^ i := Nat.div_le_self _ _
          have h2 : x * 10 ^ i ≤ 1000000000000000 * 10 ^ i := Nat.mul_le_mul_right _ (by omega)
          have h3 := p_pos i
          have h4 : 10 ^ (19 + i) = 10 ^ 19 * 10 ^ i := Nat.pow_add _ _ _
          have h5 : ∀ c w : Nat, rou w c ≤ w + 1 := fun c w => by unfold rou; split <;> omega
          have h6 := h5 (if rd then lf (x * 10 ^ i % y) y else 0) (x * 10 ^ i / y)
          rw [h4]
          generalize 10 ^ i = A at *
          omega
        | succ r ih =>
          intro i hi M1 k1 g9
          obtain ⟨s1, s2, s3⟩ := qstep x y i hy0
          have hm := hmod (x * 10 ^ i)
          unfold B_M_quotient_57
          refine ⟨fun _ t1 e1 => ⟨hyn, fun t3 e3 => ?_⟩, fun z => absurd (show zI i < zI (K : Int) by rw [zlt (by omega) (by omega)]; omega) z⟩
          rw [e10, zLmul] at e1
          rw [e1, zdiv (by omega) (by omega), zLi (Nat.lt_of_lt_of_le s3 (by decide))] at e3
          rw [g9.2.1]
          refine ⟨z_in (by omega) (by omega), fun M5' e5' => ⟨hyn, fun t7 e7 t8 e8 M9 e9 => ?_⟩⟩
          rw [z_cl (by omega), e3] at e5'
          have e13 : mg_I M5' 19 13 = zI (19 + i : Nat) := by rw [e5']; exact g9.2.1
          rw [e13, e1i, zI_add] at e8
          rw [e1, zmod (by omega) (by omega), ← s1] at e7
          obtain ⟨q1, q2⟩ := isG_push g9 (by omega) s3
          have em : M9 = ms_I (ms_I M1 26 (19 + i) (zI (x * 10 ^ i % y * 10 / y : Nat))) 19 13 (zI (19 + i + 1 : Nat)) := by
            rw [e9, e8, e5']
            rfl
          have en : zI (i : Int) + (1 : Int32) = zI ((i + 1 : Nat) : Int) := z_s i
          rw [e7, en]
          refine ih (i + 1) (by omega) M9 (k1.tr (by rw [em]; exact q2)) ?_
          rw [em, s2, Nat.mul_comm (x * 10 ^ i / y) 10]
          exact q1
      refine ⟨K + 1, ?_⟩
      have h0 := key K 0 (by omega) M8 (kG.rf M8) (by rw [Nat.pow_zero, Nat.mul_one]; exact g8)
      rw [Nat.pow_zero, Nat.mul_one] at h0
      exact h0
  refine ⟨fun z => ?_, fun z => ?_⟩
  · cases rd with
    | true => exact absurd (h7.symm.trans z) (by decide)
    | false => exact h51 0 rfl
  · cases rd with
    | true => exact h51 6 rfl
    | false => exact absurd h7 z
