/-! floating numbers written: the reference -/
theorem s_M_width {v : Nat} {M : nf_M} {post : Int32 → nf_M → Prop} (h1 : 1 ≤ v) (hv : v < 10000000000000000) (k : post (zI (nd v)) M) : P_M_width (zL v) M post := by
  have hn16 : nd v ≤ 16 := (nd_le (by omega)).mpr hv
  have hn0 : nd v ≠ 0 := fun q => by
    have := (nd_0 (v := v) (by omega)).mp q
    omega
  have key : ∀ (r i : Nat), r + i = 18 → 1 ≤ i → B_M_width_4 post (r + 1) (zL v) (zI (if nd v ≤ i then nd v else i : Nat)) (zI i) M := by
    intro r
    induction r with
    | zero =>
      intro i hr hi
      unfold B_M_width_4
      rw [show (18 : Int32) = zI (18 : Nat) by decide, zlt (by omega) (by omega), if_pos (by omega)]
      exact ⟨fun z => by omega, fun _ => k⟩
    | succ r ih =>
      intro i hr hi
      have hp := pow_lt19 (k := i) (by omega)
      unfold B_M_width_4 B_M_width_26
      rw [show (18 : Int32) = zI (18 : Nat) by decide, zlt (by omega) (by omega)]
      refine ⟨fun _ => s_M_power (by omega) ?_, fun z => by omega⟩
      rw [lN_z, zLlt (by omega) (by generalize 10 ^ i = P at *; omega), ← nd_le (by omega), z_s]
      have h := ih (i + 1) (by omega) (by omega)
      refine ⟨fun z => ?_, fun z => ?_⟩
      · rw [if_pos z]
        rw [if_pos (by omega)] at h
        exact h
      · have e : (if nd v ≤ i + 1 then nd v else i + 1) = i + 1 := by split <;> omega
        rw [e] at h
        exact h
  unfold P_M_width
  have h := key 17 1 rfl (by decide)
  have e : (if nd v ≤ 1 then nd v else 1) = 1 := by split <;> omega
  rw [e] at h
  exact ⟨18, h⟩
theorem numL_0 (v : Nat) : numL v 0 = dl v (if nd v = 0 then 1 else nd v) := by
  unfold numL numT
  rw [Nat.pow_zero, Nat.div_one, if_neg (Nat.lt_irrefl 0), List.append_nil]
theorem mx1 (n : Nat) : (if n < 1 then 1 else n) = (if n = 0 then 1 else n) := by split <;> split <;> omega
theorem s_M_addReal103 {m : Nat} {M0 : nf_M} {post : Unit → nf_M → Prop} (hm : m < 10000000000000000) : ∀ (p : Nat) (L : List Nat) (M : nf_M), p ≤ 30 → L.length + p ≤ 300 → oM M L → kQ M0 M → (∀ M', kQ M0 M' → oM M' (L ++ dl m p) → post () M') → B_M_addReal_103 post (p + 1) (zL m) (zI ((p : Int) - 1)) M := by
  intro p
  induction p with
  | zero =>
    intro L M hp hL ho hk kk
    unfold B_M_addReal_103 B_M_addReal_243
    exact ⟨fun _ => kk M hk (by rw [show dl m 0 = [] from rfl, List.append_nil]; exact ho), fun z => absurd (show zI ((0 : Nat) - 1) < (0 : Int32) by decide) z⟩
  | succ p ih =>
    intro L M hp hL ho hk kk
    have hmod := Nat.mod_lt (m / 10 ^ p) (show 0 < 10 by decide)
    have hdv := Nat.div_le_self m (10 ^ p)
    unfold B_M_addReal_103 B_M_addReal_135
    rw [show ((p + 1 : Nat) : Int) - 1 = (p : Int) by omega, show (17 : Int32) = zI (17 : Nat) by decide, zlt (by omega) (by omega)]
    have next : ∀ d : Nat, d = m / 10 ^ p % 10 → P_M_add ((48 : Int32) + zI d) M (fun _ M2 => B_M_addReal_103 post (p + 1) (zL m) (zI (p : Int) + (-1 : Int32)) M2) := fun d hd => by
      rw [ch32 d (by omega)]
      refine s_M_addL ho (by omega) (fun M1 k1 o1 => ?_)
      rw [show (-1 : Int32) = zI (-1) by decide, zI_add, show (p : Int) + -1 = (p : Int) - 1 by omega]
      refine ih (L ++ [48 + d]) M1 (by omega) (by rw [List.length_append]; simp only [List.length_cons, List.length_nil]; omega) o1 (hk.tr k1) (fun M' hk' ho' => kk M' hk' ?_)
      rw [List.append_assoc, hd] at ho'
      exact ho'
    refine ⟨fun z => absurd z (by rw [i32_lt, t0, z_of (by omega)]; omega), fun _ => ⟨fun z => ?_, fun z => s_M_power (by omega) ⟨pw_ne (by omega), ?_⟩⟩⟩
    · have h16 : 10 ^ 16 ≤ 10 ^ p := pp_le (by omega)
      have e0 : m / 10 ^ p = 0 := Nat.div_eq_of_lt (Nat.lt_of_lt_of_le hm h16)
      have h := next 0 (by rw [e0])
      rw [e0i]
      exact h
    · have hpp := pow_lt19 (k := p) (by omega)
      rw [lN_z, zdiv (by omega) (by generalize 10 ^ p = P at *; omega), e10, zmod (by omega) (by omega), zLi (by omega)]
      exact next _ rfl
theorem s_M_addReal {m : Nat} {q : Int} {x4 : Int32} {L : List Nat} {M : nf_M} {post : Unit → nf_M → Prop} (hm1 : 1 ≤ m) (hm : m ≤ 1000000000000000) (hq : -23 < q ∧ q < 23) (hL : L.length ≤ 10) (ho : oM M L) (hb : ∀ m' q', ST m q m' q' → 1 ≤ m' ∧ m' ≤ 1000000000000000 ∧ -22 ≤ q' ∧ q' ≤ 40 ∧ (¬ x4 = 0 → q' < 16 ∧ -20 ≤ q' ∧ m' * 10 ^ q'.toNat ≤ 1000000000000000)) (k : ∀ m' q', ST m q m' q' → ∀ M', kQ M M' → oM M' (L ++ (if x4 = 0 then expL m' q' else plaL m' q')) → post () M') : P_M_addReal (zL m) (zI q) x4 M post := by
  have key : ∀ (r i a : Nat), r + i = 16 → m = a * 10 ^ i → 1 ≤ a → B_M_addReal_6 post (r + 1) x4 (zL a) (zI (q + i)) M := by
    intro r
    induction r with
    | zero =>
      intro i a hr he ha
      exfalso
      have hi : i = 16 := by omega
      subst hi
      have : 1 * 10 ^ 16 ≤ a * 10 ^ 16 := Nat.mul_le_mul_right _ ha
      omega
    | succ r ih =>
      intro i a hr he ha
      have hp : 0 < 10 ^ i := Nat.pow_pos (by decide)
      have hab : a ≤ m := by rw [he]; exact Nat.le_mul_of_pos_right _ hp
      unfold B_M_addReal_6
      rw [e10, zmod (by omega) (by omega), el0, zLeq (by omega) (by omega), zdiv (by omega) (by omega)]
      refine ⟨fun z t1 e1 => ?_, fun z => ?_⟩
      · rw [e1, e1i, zI_add, show q + (i : Int) + (1 : Nat) = q + ((i + 1 : Nat) : Int) by omega]
        refine ih (i + 1) (a / 10) (by omega) ?_ (by omega)
        rw [he, Nat.pow_succ, Nat.mul_comm (10 ^ i) 10, ← Nat.mul_assoc]
        congr 1
        omega
      · have hST : ST m q a (q + i) := ⟨z, i, he, rfl⟩
        obtain ⟨b1, b2, b3, b4, b5⟩ := hb _ _ hST
        have k := k _ _ hST
        generalize q + (i : Int) = y at *
        have hn16 : nd a ≤ 16 := (nd_le (by omega)).mpr (by omega)
        have hn0 : nd a ≠ 0 := fun q => by
          have := (nd_0 (v := a) (by omega)).mp q
          omega
        have hpn : 10 ^ (nd a - 1) ≤ 10 ^ 15 := pp_le (by omega)
        have hpn2 : 10 ^ 15 = 1000000000000000 := by decide
        have hpn0 : 0 < 10 ^ (nd a - 1) := Nat.pow_pos (by decide)
        have hdv := Nat.div_le_self a (10 ^ (nd a - 1))
        have hmd := Nat.mod_lt a hpn0
        refine s_M_width (by omega) (by omega) ?_
        rw [e1i, zI_sub, show (nd a : Int) - (1 : Nat) = ((nd a - 1 : Nat) : Int) by omega]
        refine ⟨fun z4 => s_M_power (by omega) ⟨pw_ne (by omega), ?_⟩, fun z4 => ?_⟩
        · rw [lN_z, zdiv (by omega) (by omega)]
          have hnd := nd_div (v := a) (nd a - 1) (by omega)
          refine s_M_addNumber (by omega) (by decide) (by omega) ho (fun M1 k1 o1 => ?_)
          have e1 : dl (a / 10 ^ (nd a - 1)) (if nd (a / 10 ^ (nd a - 1)) < 1 then 1 else nd (a / 10 ^ (nd a - 1))) = [48 + a / 10 ^ (nd a - 1) % 10] := by
            rw [hnd, show nd a - (nd a - 1) = 1 by omega, if_neg (by decide)]
            show [48 + a / 10 ^ (nd a - 1) / 10 ^ 0 % 10] = _
            rw [Nat.pow_zero, Nat.div_one]
          rw [e1] at o1
          have hl1 : (L ++ [48 + a / 10 ^ (nd a - 1) % 10]).length = L.length + 1 := by rw [List.length_append]; rfl
          rw [show (46 : Int32) = zI (46 : Nat) by decide]
          refine s_M_addL o1 (by omega) (fun M2 k2 o2 => s_M_power (by omega) ⟨pw_ne (by omega), ?_⟩)
          have hl2 : (L ++ [48 + a / 10 ^ (nd a - 1) % 10] ++ [46]).length = L.length + 2 := by rw [List.length_append, hl1]; rfl
          rw [lN_z, zmod (by omega) (by omega), zlt (by omega) (by omega)]
          have h194 : ∀ least : Nat, least = (if nd a = 1 then 1 else nd a - 1) → B_M_addReal_194 post (zI y) (zI (nd a)) (zI least) (zL (a % 10 ^ (nd a - 1) : Nat)) M2 := by
            intro least hleast
            unfold B_M_addReal_194 B_M_addReal_223 B_M_addReal_239 B_M_addReal_243
            have hl19 : least ≤ 16 := by rw [hleast]; split <;> omega
            have e2 : dl (a % 10 ^ (nd a - 1)) (if nd (a % 10 ^ (nd a - 1)) < least then least else nd (a % 10 ^ (nd a - 1))) = (if nd a = 1 then [48] else dl a (nd a - 1)) := by
              have hle := (nd_le (v := a % 10 ^ (nd a - 1)) (k := nd a - 1) (by omega)).mpr hmd
              by_cases h1 : nd a = 1
              · rw [if_pos h1] at hleast ⊢
                have : a % 10 ^ (nd a - 1) = 0 := by rw [h1]; exact Nat.mod_one a
                rw [this, hleast]
                decide
              · rw [if_neg h1] at hleast ⊢
                rw [hleast]
                have : (if nd (a % 10 ^ (nd a - 1)) < nd a - 1 then nd a - 1 else nd (a % 10 ^ (nd a - 1))) = nd a - 1 := by split <;> omega
                rw [this]
                exact dl_mod a (nd a - 1) (nd a - 1) (Nat.le_refl _)
            refine s_M_addNumber (by omega) (by omega) (by omega) o2 (fun M3 k3 o3 => ?_)
            rw [e2] at o3
            have hl3 : (if nd a = 1 then [48] else dl a (nd a - 1)).length ≤ 16 := by
              split
              · exact (by decide : 1 ≤ 16)
              · rw [dl_len]; omega
            have hl4 : (L ++ [48 + a / 10 ^ (nd a - 1) % 10] ++ [46] ++ (if nd a = 1 then [48] else dl a (nd a - 1))).length ≤ L.length + 18 := by rw [List.length_append, hl2]; omega
            rw [show (69 : Int32) = zI (69 : Nat) by decide]
            refine s_M_addL o3 (by omega) (fun M4 k4 o4 t5 e5 => ?_)
            rw [zI_add, e1i, zI_sub, show y + (nd a : Int) - (1 : Nat) = y + (nd a - 1 : Nat) by omega] at e5
            have kk : ∀ M', kQ M M' → oM M' (L ++ expL a y) → post () M' := fun M' hk ho' => k M' hk (by rw [if_pos z4]; exact ho')
            unfold expL at kk
            obtain ⟨w, hw⟩ : ∃ w : Int, w = y + (nd a - 1 : Nat) := ⟨_, rfl⟩
            rw [← hw] at e5 kk
            rw [e5, show (0 : Int32) = zI 0 by decide, zI_lt (by omega) (by omega) (by omega) (by omega), show (45 : Int32) = zI (45 : Nat) by decide]
            have kall := k1.tr (k2.tr (k3.tr k4))
            have hfin : ∀ (S : List Nat) (M5 : nf_M), S.length ≤ 40 → oM M5 S → kQ M M5 → (∀ M', kQ M M' → oM M' (S ++ numL w.natAbs 0) → post () M') → ((w < 0 → P_M_addNumber ((-zI w).toInt64) (1 : Int32) M5 (fun _ M2 => post () M2)) ∧ (¬ w < 0 → P_M_addNumber ((zI w).toInt64) (1 : Int32) M5 (fun _ M2 => post () M2))) := by
              intro S M5 hS o5 k5 kk5
              have hgo : ∀ z : Int32, z = zI w.natAbs → P_M_addNumber (z.toInt64) (1 : Int32) M5 (fun _ M2 => post () M2) := fun z ez => by
                rw [ez, zI_l (by omega) (by omega), e1i]
                refine s_M_addNumber (by omega) (by decide) (by omega) o5 (fun M6 k6 o6 => kk5 M6 (k5.tr k6) ?_)
                rw [mx1] at o6
                rw [numL_0]
                exact o6
              rw [zI_neg]
              exact ⟨fun q => hgo _ (by congr 1; omega), fun q => hgo _ (by congr 1; omega)⟩
            have hl5 : (L ++ [48 + a / 10 ^ (nd a - 1) % 10] ++ [46] ++ (if nd a = 1 then [48] else dl a (nd a - 1)) ++ [69]).length ≤ L.length + 19 := by rw [List.length_append]; simp only [List.length_cons, List.length_nil]; omega
            have z0w : zI w < zI 0 ↔ w < 0 := zI_lt (by omega) (by omega) (by omega) (by omega)
            refine ⟨fun q => s_M_addL o4 (by omega) (fun M5 k5 o5 => ?_), fun q => ?_⟩
            · have h := hfin _ M5 (by rw [List.length_append]; simp only [List.length_cons, List.length_nil]; omega) o5 (kall.tr k5) (fun M' hk ho' => kk M' hk (by
                rw [if_pos q]
                simp only [List.append_assoc] at ho' ⊢
                exact ho'))
              exact h
            · have h := hfin _ M4 (by omega) o4 kall (fun M' hk ho' => kk M' hk (by
                rw [if_neg q]
                simp only [List.append_assoc, List.nil_append] at ho' ⊢
                exact ho'))
              exact h
          refine ⟨fun q => h194 _ (by rw [if_neg (by omega)]), fun q => ?_⟩
          exact h194 1 (by rw [if_pos (by omega)])
        · obtain ⟨c1, c2, c3⟩ := b5 z4
          have kk : ∀ M', kQ M M' → oM M' (L ++ plaL a y) → post () M' := fun M' hk ho' => k M' hk (by rw [if_neg z4]; exact ho')
          unfold plaL at kk
          have h81 : ∀ v : Nat, v = a * 10 ^ y.toNat / 10 ^ (-y).toNat → B_M_addReal_81 post (zL a) (zI y) (zL v) M := by
            intro v hv
            have hvle : v ≤ 1000000000000000 := by
              rw [hv]
              exact Nat.le_trans (Nat.div_le_self _ _) c3
            have hnv : nd v ≤ 16 := (nd_le (by omega)).mpr (by omega)
            unfold B_M_addReal_81 B_M_addReal_96
            rw [e1i]
            refine s_M_addNumber (by omega) (by decide) (by omega) ho (fun M1 k1 o1 => ?_)
            rw [mx1] at o1
            have hlen : (L ++ dl v (if nd v = 0 then 1 else nd v)).length ≤ L.length + 16 := by
              rw [List.length_append, dl_len]
              split <;> omega
            unfold numL numT at kk
            rw [← hv] at kk
            rw [show (0 : Int32) = zI 0 by decide, zI_lt (by omega) (by omega) (by omega) (by omega), show (46 : Int32) = zI (46 : Nat) by decide, zI_neg, zI_sub]
            refine ⟨fun q => s_M_addL o1 (by omega) (fun M2 k2 o2 t1 e1 => ?_), fun q t1 e1 => ?_⟩
            · have e2 : -y - ((1 : Nat) : Int) = (((-y).toNat : Nat) : Int) - 1 := by omega
              rw [e1, e2]
              have ey : a * 10 ^ y.toNat = a := by rw [show y.toNat = 0 by omega, Nat.pow_zero, Nat.mul_one]
              refine ⟨(-y).toNat + 1, s_M_addReal103 (by omega) (-y).toNat _ M2 (by omega) (by rw [List.length_append]; simp only [List.length_cons, List.length_nil]; omega) o2 (k1.tr k2) (fun M' hk ho' => kk M' hk ?_)⟩
              rw [if_pos (show 0 < (-y).toNat by omega), ey]
              rw [List.append_assoc, List.append_assoc] at ho'
              exact ho'
            · have e2 : -y - ((1 : Nat) : Int) < 0 := by omega
              rw [e1]
              refine ⟨1, ?_⟩
              unfold B_M_addReal_103 B_M_addReal_243
              rw [show (0 : Int32) = zI 0 by decide, zI_lt (by omega) (by omega) (by omega) (by omega)]
              refine ⟨fun _ => kk M1 k1 ?_, fun q2 => absurd e2 q2⟩
              rw [if_neg (show ¬ 0 < (-y).toNat by omega), List.append_nil]
              exact o1
          rw [show (0 : Int32) = zI 0 by decide, zI_lt (by omega) (by omega) (by omega) (by omega), zI_neg, show (19 : Int32) = zI 19 by decide, zI_lt (by omega) (by omega) (by omega) (by omega)]
          refine ⟨fun q => ⟨fun q2 => ?_, fun q2 => ?_⟩, fun q => ?_⟩
          · have ey : -y = (((-y).toNat : Nat) : Int) := by omega
            rw [ey]
            refine s_M_power (by omega) ⟨pw_ne (by omega), ?_⟩
            have hpp := pow_lt19 (k := (-y).toNat) (by omega)
            rw [lN_z, zdiv (by omega) (by generalize 10 ^ (-y).toNat = P at *; omega)]
            exact h81 _ (by rw [show y.toNat = 0 by omega, Nat.pow_zero, Nat.mul_one])
          · refine h81 0 ?_
            rw [show y.toNat = 0 by omega, Nat.pow_zero, Nat.mul_one]
            have h16 : 10 ^ 16 ≤ 10 ^ (-y).toNat := pp_le (by omega)
            exact (Nat.div_eq_of_lt (by omega)).symm
          · have ey : y = ((y.toNat : Nat) : Int) := by omega
            rw [ey]
            refine s_M_power (by omega) ?_
            rw [lN_z, zLmul]
            have h := h81 (a * 10 ^ y.toNat) (by rw [show (-y).toNat = 0 by omega, Nat.pow_zero, Nat.div_one])
            rw [ey] at h
            exact h
  unfold P_M_addReal
  have h := key 16 0 m rfl (by rw [Nat.pow_zero, Nat.mul_one]) hm1
  rw [show q + ((0 : Nat) : Int) = q by omega] at h
  exact ⟨17, h⟩
