/-! Roman numerals: the reference; letters -/
theorem zdivI {a b : Nat} (ha : a < 2147483648) (hb : b < 2147483648) : zI a / zI b = zI (a / b : Nat) := by
  rw [zI_div (by omega) (by omega) (by omega) (by omega), Int.tdiv_eq_ediv_of_nonneg (by omega)]
  rfl
theorem zmodI {a b : Nat} (ha : a < 2147483648) (hb : b < 2147483648) : zI a - zI a / zI b * zI b = zI (a % b : Nat) := by
  rw [zdivI ha hb, zI_mul, zI_sub]
  congr 1
  have h := Nat.div_add_mod a b
  have h2 : a / b * b = b * (a / b) := Nat.mul_comm _ _
  rw [← Int.natCast_mul]
  omega
theorem s_M_rom96 {b : Bool} {x1 x2 x3 : Int32} {x i : Nat} {k2 : Int32 → Int32 → Int32 → nf_M → Prop} {post : Unit → nf_M → Prop} {M0 : nf_M} (hx : x < 10) (hi : i < 7) (hb : x2 = 0 ↔ b = false) : ∀ (r : Nat) (L : List Nat) (M : nf_M), r ≤ x % 5 → L.length + r ≤ 200 → oM M L → kQ M0 M → (∀ M', kQ M0 M' → oM M' (L ++ List.replicate r (rm b i)) → k2 x1 x2 (x3 + (-1 : Int32)) M') → B_M_addRoman_96 k2 post (r + 1) x1 x2 x3 (zI x) (zI i) (zI (x % 5 - r : Nat)) M := by
  intro r
  induction r with
  | zero =>
    intro L M hr hL ho hk kk
    unfold B_M_addRoman_96 B_M_addRoman_121
    rw [e5i, zmodI (by omega) (by decide), zlt (by omega) (by omega)]
    exact ⟨fun q => by omega, fun _ => kk M hk (by rw [List.replicate_zero, List.append_nil]; exact ho)⟩
  | succ r ih =>
    intro L M hr hL ho hk kk
    unfold B_M_addRoman_96
    have hm : x % 5 < 5 := Nat.mod_lt _ (by decide)
    rw [e5i, zmodI (by omega) (by decide), zlt (by omega) (by omega), z_s, show x % 5 - (r + 1) + 1 = x % 5 - r by omega]
    refine ⟨fun _ => s_M_roman hi hb (s_M_addL ho (by omega) (fun M1 k1 o1 => ih (L ++ [rm b i]) M1 (by omega) (by
      rw [List.length_append]
      simp only [List.length_cons, List.length_nil]
      omega) o1 (hk.tr k1) (fun M' hk' ho' => kk M' hk' ?_))), fun q => by omega⟩
    rw [List.append_assoc] at ho'
    rw [List.replicate_succ]
    exact ho'
theorem s_M_addRoman {b : Bool} {v : Nat} {x2 : Int32} {M : nf_M} {post : Unit → nf_M → Prop} (hv : v < 4000) (hb : x2 = 0 ↔ b = false) (ho : oM M []) (k : ∀ M', kQ M M' → oM M' (mOut b v 4) → post () M') : P_M_addRoman (zI v) x2 M post := by
  have key : ∀ (n : Nat) (L : List Nat) (M1 : nf_M), n ≤ 4 → L.length + 8 * n ≤ 100 → oM M1 L → kQ M M1 → (∀ M', kQ M M' → oM M' (L ++ mOut b v n) → post () M') → B_M_addRoman_2 post (n + 1) (zI v) x2 (zI ((n : Int) - 1)) M1 := by
    intro n
    induction n with
    | zero =>
      intro L M1 hn hL o1 hk kk
      unfold B_M_addRoman_2
      exact ⟨fun _ => kk M1 hk (by rw [show mOut b v 0 = [] from rfl, List.append_nil]; exact o1), fun z => absurd (show zI ((0 : Nat) - 1) < (0 : Int32) by decide) z⟩
    | succ n ih =>
      intro L M1 hn hL o1 hk kk
      have hp : 10 ^ n ≤ 1000 := Nat.le_trans (Nat.pow_le_pow_right (by decide) (show n ≤ 3 by omega)) (by decide)
      have hp0 : 0 < 10 ^ n := Nat.pow_pos (by decide)
      have hd := Nat.div_le_self v (10 ^ n)
      obtain ⟨x, hx⟩ : ∃ x : Nat, x = v / 10 ^ n % 10 := ⟨_, rfl⟩
      have hx10 : x < 10 := by rw [hx]; exact Nat.mod_lt _ (by decide)
      have hx3 : n = 3 → x < 4 := fun e => by
        rw [hx, e]
        omega
      unfold B_M_addRoman_2
      rw [show ((n + 1 : Nat) : Int) - 1 = (n : Int) by omega]
      refine ⟨fun z => absurd z (by rw [i32_lt, t0, z_of (by omega)]; omega), fun _ => s_M_power (by omega) ?_⟩
      have ep : (lN (10 ^ n)).toInt32 = zI (10 ^ n : Nat) := by rw [lN_z, zLi (by omega)]
      rw [ep, z0' (by omega)]
      refine ⟨by omega, fun t4 e4 t5 e5 => ?_⟩
      rw [zdivI (by omega) (by omega), show (10 : Int32) = zI (10 : Nat) by decide, zmodI (by omega) (by decide), ← hx] at e4
      rw [show (2 : Int32) = zI (2 : Nat) by decide, zI_mul, show ((2 : Nat) : Int) * (n : Int) = ((2 * n : Nat) : Int) by omega] at e5
      rw [e4, e5, zeqI 9 9 (by decide) (by omega) (by omega), zeqI 4 4 (by decide) (by omega) (by omega), show (4 : Int32) = zI (4 : Nat) by decide, zlt (by omega) (by omega), z_s]
      have next : ∀ (S : List Nat) (M2 : nf_M), S.length ≤ 8 → S = mD b n x → oM M2 (L ++ S) → kQ M M2 → B_M_addRoman_2 post (n + 1) (zI v) x2 (zI (n : Int) + (-1 : Int32)) M2 := fun S M2 hS eS o2 k2 => by
        rw [show (-1 : Int32) = zI (-1) by decide, zI_add, show (n : Int) + -1 = (n : Int) - 1 by omega]
        refine ih (L ++ S) M2 (by omega) (by rw [List.length_append]; omega) o2 k2 (fun M' hk' ho' => kk M' hk' ?_)
        rw [List.append_assoc, eS, hx] at ho'
        exact ho'
      have h36 : x = 9 ∨ x = 4 → B_M_addRoman_36 (fun x1 x2 x3 z => B_M_addRoman_2 post (n + 1) x1 x2 x3 z) post (zI v) x2 (zI n) (zI x) (zI (2 * n : Nat)) M1 := fun h94 => by
        have hn3 : n < 3 := by
          refine Nat.lt_of_not_le fun q => ?_
          have := hx3 (by omega)
          omega
        unfold B_M_addRoman_36 B_M_addRoman_65 B_M_addRoman_121
        refine s_M_roman (by omega) hb (s_M_addL o1 (by omega) (fun M2 k2 o2 => ?_))
        rw [zeqI 9 9 (by decide) (by omega) (by omega), z_s, show (2 : Int32) = zI (2 : Nat) by decide, zI_add, show ((2 * n : Nat) : Int) + ((2 : Nat) : Int) = ((2 * n + 2 : Nat) : Int) by omega]
        have hl : (L ++ [rm b (2 * n)]).length < 400 := by rw [List.length_append]; simp only [List.length_cons, List.length_nil]; omega
        refine ⟨fun z => s_M_roman (by omega) hb (s_M_addL o2 hl (fun M3 k3 o3 => next [rm b (2 * n), rm b (2 * n + 2)] M3 (show 2 ≤ 8 by decide) ?_ (by rw [List.append_assoc] at o3; exact o3) (hk.tr (k2.tr k3)))), fun z => s_M_roman (by omega) hb (s_M_addL o2 hl (fun M3 k3 o3 => next [rm b (2 * n), rm b (2 * n + 1)] M3 (show 2 ≤ 8 by decide) ?_ (by rw [List.append_assoc] at o3; exact o3) (hk.tr (k2.tr k3))))⟩
        · unfold mD
          rw [if_pos z]
        · unfold mD
          rw [if_neg z, if_pos (by omega)]
      have h93 : ∀ (S : List Nat) (M2 : nf_M), S.length ≤ 1 → ¬ x = 9 → ¬ x = 4 → S = (if 4 < x then [rm b (2 * n + 1)] else []) → oM M2 (L ++ S) → kQ M M2 → B_M_addRoman_93 (fun x1 x2 x3 z => B_M_addRoman_2 post (n + 1) x1 x2 x3 z) post (zI v) x2 (zI n) (zI x) (zI (2 * n : Nat)) M2 := fun S M2 hS n9 n4 eS o2 k2 => by
        unfold B_M_addRoman_93
        have hm : x % 5 < 5 := Nat.mod_lt _ (by decide)
        have h := s_M_rom96 (k2 := fun x1 x2 x3 z => B_M_addRoman_2 post (n + 1) x1 x2 x3 z) (post := post) (x1 := zI v) (x3 := zI n) (M0 := M) (i := 2 * n) hx10 (by omega) hb (x % 5) (L ++ S) M2 (Nat.le_refl _) (by rw [List.length_append]; omega) o2 k2 (fun M' hk' ho' => next (S ++ List.replicate (x % 5) (rm b (2 * n))) M' (by rw [List.length_append, List.length_replicate]; omega) ?_ (by rw [List.append_assoc] at ho'; exact ho') hk')
        · rw [Nat.sub_self] at h
          exact ⟨_, h⟩
        · unfold mD
          rw [if_neg n9, if_neg n4, eS]
      refine ⟨fun z => h36 (Or.inl z), fun n9 => ⟨fun z => h36 (Or.inr z), fun n4 => ⟨fun z => ?_, fun z => h93 [] M1 (by decide) n9 n4 (by rw [if_neg z]) (by rw [List.append_nil]; exact o1) hk⟩⟩⟩
      have hn3 : n < 3 := by
        refine Nat.lt_of_not_le fun q => ?_
        have := hx3 (by omega)
        omega
      exact s_M_roman (by omega) hb (s_M_addL o1 (by omega) (fun M2 k2 o2 => h93 [rm b (2 * n + 1)] M2 (show 1 ≤ 1 by decide) n9 n4 (by rw [if_pos z]) o2 (hk.tr k2)))
  unfold P_M_addRoman
  have h := key 4 [] M (by decide) (by decide) ho (kQ.rf M) (fun M' hk hw => k M' hk (by rw [List.nil_append] at hw; exact hw))
  rw [show ((4 : Nat) : Int) - 1 = ((3 : Nat) : Int) by decide] at h
  rw [show (3 : Int32) = zI (3 : Nat) by decide]
  exact ⟨5, h⟩
