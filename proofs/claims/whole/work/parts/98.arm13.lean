/-! letters -/
def let1 (st : Nat) (u : Int) (L : List Nat) : Prop :=
  ((st = 1 ∨ st = 2) ∧ 1 ≤ u ∧ ∃ n, n ≤ 11 ∧ lcn u.toNat n ∧ L = rvl (fun i => (if st = 1 then 97 else 65) + dg u.toNat i) n) ∨
  ((st = 3 ∨ st = 4) ∧ 1 ≤ u ∧ u ≤ 3999 ∧ L = mOut (decide (st = 4)) u.toNat 4) ∨
  (¬ ((st = 1 ∨ st = 2) ∧ 1 ≤ u) ∧ ¬ ((st = 3 ∨ st = 4) ∧ 1 ≤ u ∧ u ≤ 3999) ∧ L = exL u 0)
theorem let1_1 {st : Nat} {u : Int} {L L' : List Nat} (h : let1 st u L) (h' : let1 st u L') : L = L' := by
  rcases h with ⟨a, b, n, n1, n2, e⟩ | ⟨a, b, c, e⟩ | ⟨a, b, e⟩ <;> rcases h' with ⟨a', b', n', n1', n2', e'⟩ | ⟨a', b', c', e'⟩ | ⟨a', b', e'⟩
  · have := lcn_1 n2 n2'
    subst this
    rw [e, e']
  · omega
  · exact absurd ⟨a, b⟩ a'
  · omega
  · rw [e, e']
  · exact absurd ⟨a, b, c⟩ b'
  · exact absurd ⟨a', b'⟩ a
  · exact absurd ⟨a', b', c'⟩ b
  · rw [e, e']
theorem rm_le : ∀ b : Bool, ∀ i, i < 12 → rm b i ≤ 126 := by decide
theorem mD_ok (b : Bool) {k x : Nat} (hk : k < 4) (hx : x < 10) : (mD b k x).length ≤ 8 ∧ ∀ c ∈ mD b k x, c ≤ 126 := by
  have hm : x % 5 < 5 := Nat.mod_lt _ (by decide)
  have h0 := rm_le b (2 * k) (by omega)
  have h1 := rm_le b (2 * k + 1) (by omega)
  have h2 := rm_le b (2 * k + 2) (by omega)
  unfold mD
  split
  · exact ⟨show 2 ≤ 8 by decide, cons_le h0 (one_le h2)⟩
  · split
    · exact ⟨show 2 ≤ 8 by decide, cons_le h0 (one_le h1)⟩
    · refine ⟨?_, app_le ?_ (fun c hc => ?_)⟩
      · rw [List.length_append, List.length_replicate]
        split
        · simp only [List.length_cons, List.length_nil]; omega
        · simp only [List.length_nil]; omega
      · split
        · exact one_le h1
        · exact nil_le
      · have := (List.mem_replicate.mp hc).2
        omega
theorem mOut_ok (b : Bool) (v : Nat) : ∀ n, n ≤ 4 → (mOut b v n).length ≤ 8 * n ∧ ∀ c ∈ mOut b v n, c ≤ 126
  | 0, _ => ⟨Nat.zero_le _, nil_le⟩
  | n + 1, h => by
    have h1 := mOut_ok b v n (by omega)
    have h2 := mD_ok b (k := n) (x := v / 10 ^ n % 10) (by omega) (Nat.mod_lt _ (by decide))
    unfold mOut
    exact ⟨by rw [List.length_append]; omega, app_le h2.2 h1.2⟩
theorem let1_ok {st : Nat} {u : Int} {L : List Nat} (lu : lim u) (h : let1 st u L) : L.length ≤ 128 ∧ ∀ c ∈ L, c ≤ 126 := by
  rcases h with ⟨a, b, n, n1, n2, e⟩ | ⟨a, b, c, e⟩ | ⟨a, b, e⟩
  · rw [e]
    refine ⟨by rw [rvl_len]; omega, rvl_le n (fun i _ => ?_)⟩
    have : dg u.toNat i < 26 := Nat.mod_lt _ (by decide)
    show (if st = 1 then 97 else 65) + dg u.toNat i ≤ 126
    split <;> omega
  · have := mOut_ok (decide (st = 4)) u.toNat 4 (by decide)
    rw [e]
    exact ⟨by omega, this.2⟩
  · have := exL_ok lu (show 0 ≤ 6 by decide)
    rw [e]
    exact ⟨by omega, this.1⟩
theorem s_F_letters {x1 x2 : Int32} {M : nf_M} {rg : Nat → nf_V} {post : Int32 → nf_M → Prop} {ex : Nat → nf_M → Prop} (hc : cv M rg) (hv : okR rg) (h0 : ¬ inR x1 ∨ ¬ (0 ≤ x2.toInt ∧ x2.toInt < 5) → ex 0 M) (h2 : ∀ st r : Nat, st < 5 → r < 8 → x2 = zI st → x1 = zI r → ¬ (1 ≤ (rg r).1.toInt ∧ (rg r).1.toInt < 8) → ex 2 M) (h1 : ∀ (st r t : Nat) (u : Int), st < 5 → r < 8 → x2 = zI st → x1 = zI r → 1 ≤ t → t < 8 → lim u → rg r = (zI t, zL u, 0, 0) → ∀ L, let1 st u L → ∀ M', kE M M' → wF M' L → post (zI L.length) M') : P_F_letters x1 x2 M post ex := by
  unfold P_F_letters B_F_letters_25
  rw [show (5 : Int32) = zI (5 : Nat) by decide]
  refine s_F_register (fun r hr er => s_F_checkIndex (by decide) (fun st hst est => ?_) (fun z => h0 (Or.inr z))) (fun z => h0 (Or.inl z))
  have va := hv r hr
  have g := hc r hr
  have gT : mg_T M (rgn r) = (rg r).1 := congrArg (fun c : nf_V => c.1) g
  refine s_V_holdsUnits (fun z => ⟨fun q => absurd q (by decide), fun _ => ?_⟩) (fun z => ⟨fun _ => h2 st r hst hr est er (by rw [gT] at z; omega), fun q => absurd rfl q⟩)
  rw [gT] at z
  obtain ⟨t, p, u, oa, eA⟩ := okV_X va z.1 z.2
  have et : (zI (t : Int)).toInt = t := by have := oa.1; exact z_of (by omega)
  have gt : mg_T M (rgn r) = zI t := by
    have := congrArg (fun c : nf_V => c.1) g
    rw [eA] at this
    exact this
  have t8 := oa.1
  have lu : lim u := ⟨oa.2.1, oa.2.2.1⟩
  have l1 := lu.1
  have l2 := lu.2
  rw [gt, z0' (by omega)]
  refine ⟨fun z0 => h2 st r hst hr est er (by rw [eA]; show ¬ (1 ≤ (zI (t : Int)).toInt ∧ _); omega), fun z0 => ?_⟩
  have p0 : p = 0 := oa.2.2.2.2.2 (by omega)
  subst p0
  have h := h1 st r t u hst hr est er (by omega) t8 lu eA
  have gu : mg_U M (rgn r) = zL u := by
    have := congrArg (fun c : nf_V => c.2.1) g
    rw [eA] at this
    exact this
  have gs : mg_S M (rgn r) = zI (0 : Nat) := by
    have := congrArg (fun c : nf_V => c.2.2.1) g
    rw [eA] at this
    exact this
  have e127 : ∀ (L : List Nat) (M' : nf_M), let1 st u L → kR true M M' → wF M' L → B_F_letters_127 post ex M' := fun L M' hL hk hw => by
    unfold B_F_letters_127
    rw [hw.1]
    exact h L hL M' hk.E hw
  have e122 : ¬ ((st = 1 ∨ st = 2) ∧ 1 ≤ u) → ¬ ((st = 3 ∨ st = 4) ∧ 1 ≤ u ∧ u ≤ 3999) → B_F_letters_122 post ex (rgn r) M := fun n1 n2 => by
    unfold B_F_letters_122
    exact s_F_writeUnits lu (by decide) gu gs (fun M' hk hw => e127 _ M' (Or.inr (Or.inr ⟨n1, n2, rfl⟩)) hk hw)
  have eun : 1 ≤ u → zL u = zL (u.toNat : Nat) := fun q => by rw [Int.toNat_of_nonneg (by omega)]
  have e90 : ∀ g : Int32, ((g = 0 ∧ ¬ st = 2) ∨ (g = 1 ∧ st = 2)) ∨ ¬ ((st = 1 ∨ st = 2) ∧ 1 ≤ u) → ¬ ((st = 3 ∨ st = 4) ∧ 1 ≤ u ∧ u ≤ 3999) → B_F_letters_90 post ex (zI st) (rgn r) g M := fun g hg n2 => by
    unfold B_F_letters_90 B_F_letters_100
    rw [zeqI 1 1 (by decide) (by omega) (by omega), zeqI 2 2 (by decide) (by omega) (by omega), gu, show (1 : Int64) = zL 1 by decide, zL_lt (by omega) (by omega) (by omega) (by omega)]
    have hal : st = 1 ∨ st = 2 → ¬ u < 1 → P_F_writeAlphabet (zL u) g M (fun _ M2 => B_F_letters_127 post ex M2) := fun hs hu => by
      rw [eun (by omega)]
      have hg2 : (g = 0 ∧ ¬ st = 2) ∨ (g = 1 ∧ st = 2) := by
        rcases hg with q | q
        · exact q
        · exact absurd ⟨hs, by omega⟩ q
      refine s_F_writeAlphabet (base := if st = 1 then 97 else 65) (by omega) ?_ (fun n n1 n2' M' hk hw => e127 _ M' (Or.inl ⟨hs, by omega, n, n1, n2', rfl⟩) hk hw)
      rcases hg2 with ⟨q1, q2⟩ | ⟨q1, q2⟩
      · exact Or.inl ⟨q1, by rw [if_pos (by omega)]⟩
      · exact Or.inr ⟨by rw [q1]; decide, by rw [if_neg (by omega)]⟩
    exact ⟨fun q => ⟨fun q2 => e122 (by omega) (by omega), fun q2 => hal (Or.inl q) q2⟩, fun q => ⟨fun q2 => ⟨fun q3 => e122 (by omega) (by omega), fun q3 => hal (Or.inr q2) q3⟩, fun q2 => e122 (by omega) n2⟩⟩
  have e50 : ∀ g : Int32, (g = 0 ∧ ¬ st = 2 ∧ ¬ st = 4) ∨ (g = 1 ∧ (st = 2 ∨ st = 4)) → B_F_letters_50 post ex (zI st) (rgn r) g M := fun g hg => by
    unfold B_F_letters_50
    rw [show (3 : Int32) = zI (3 : Nat) by decide, zlt (by omega) (by omega), gu, show (1 : Int64) = zL 1 by decide, show (3999 : Int64) = zL 3999 by decide, zL_lt (by omega) (by omega) (by omega) (by omega), zL_lt (by omega) (by omega) (by omega) (by omega)]
    refine ⟨fun q => e90 g ?_ (by omega), fun q => ⟨fun q2 => e90 g (Or.inr (by omega)) (by omega), fun q2 => ⟨fun q3 => e90 g (Or.inr (by omega)) (by omega), fun q3 => ?_⟩⟩⟩
    · rcases hg with ⟨a, b⟩ | ⟨a, b⟩
      · exact Or.inl (Or.inl ⟨a, b.1⟩)
      · exact Or.inl (Or.inr ⟨a, by omega⟩)
    · rw [eun (by omega)]
      refine s_F_writeRoman (b := decide (st = 4)) (by omega) ?_ (fun M' hk hw => e127 _ M' (Or.inr (Or.inl ⟨by omega, by omega, by omega, rfl⟩)) hk hw)
      rcases hg with ⟨a, b, c⟩ | ⟨a, b⟩
      · rw [a, decide_eq_false c]
        exact ⟨fun _ => rfl, fun _ => rfl⟩
      · rw [a, decide_eq_true (show st = 4 by omega)]
        exact ⟨fun q => absurd q (by decide), fun q => absurd q (by decide)⟩
  subst est
  unfold B_F_letters_45
  rw [zeqI 2 2 (by decide) (by omega) (by omega), zeqI 4 4 (by decide) (by omega) (by omega)]
  exact ⟨fun q => e50 1 (Or.inr ⟨rfl, Or.inl q⟩), fun q => ⟨fun q2 => e50 1 (Or.inr ⟨rfl, Or.inr q2⟩), fun q2 => e50 0 (Or.inl ⟨rfl, q, q2⟩)⟩⟩
theorem s_M_letters {x1 x2 : Int32} {M : nf_M} {rg : Nat → nf_V} {post : Int32 → nf_M → Prop} (hc : mv M rg) (hv : okR rg) (h0 : ¬ inR x1 ∨ ¬ (0 ≤ x2.toInt ∧ x2.toInt < 5) → ∀ a M', kO M M' → mg_I M' 19 0 = 1 → post a M') (h2 : ∀ st r : Nat, st < 5 → r < 8 → x2 = zI st → x1 = zI r → ¬ (1 ≤ (rg r).1.toInt ∧ (rg r).1.toInt < 8) → ∀ a M', kO M M' → mg_I M' 19 0 = 2 → post a M') (h1 : ∀ (st r t : Nat) (u : Int), st < 5 → r < 8 → x2 = zI st → x1 = zI r → 1 ≤ t → t < 8 → lim u → rg r = (zI t, zL u, 0, 0) → ∀ L, let1 st u L → ∀ M', kU2 M M' → oM M' L → mg_I M' 19 0 = 0 → post (zI L.length) M') : P_M_letters x1 x2 M post := by
  have hthr : ∀ v : Int32, 0 < v → (∀ a M', kO M M' → mg_I M' 19 0 = v → post a M') → B_M_letters_47 post x1 x2 v M := fun v hv0 hp => by
    unfold B_M_letters_47
    intro M1 e1
    have e6 : mg_I M1 19 0 = v := by rw [e1]; rfl
    rw [e6]
    exact ⟨fun _ => hp _ M1 (by rw [e1]; exact kO_19 M 0 v (by decide) (by decide)) e6, fun z => absurd hv0 z⟩
  have h17 : (¬ inR x1 ∨ ¬ (0 ≤ x2.toInt ∧ x2.toInt < 5)) → B_M_letters_17 post x1 x2 M := fun z => by
    unfold B_M_letters_17
    exact hthr 1 (by decide) (h0 z)
  unfold P_M_letters
  refine s_M_isRegister (fun ra => ⟨fun z => absurd z (by decide), fun _ => ?_⟩) (fun z => ⟨fun _ => h17 (Or.inl z), fun q => absurd rfl q⟩)
  obtain ⟨r, hr, er, -, cr⟩ := rg_n ra
  have t4 : (4 : Int32).toInt = 4 := by decide
  have t1' : (1 : Int32).toInt = 1 := by decide
  have t7 : (7 : Int32).toInt = 7 := by decide
  have ta : mg_I M 22 r = (rg r).1 := congrArg (fun c : nf_V => c.1) (hc r hr)
  have va := hv r hr
  rw [i32_lt, i32_lt, t0, t4, cr, ta, i32_lt, i32_lt, t1', t7]
  unfold B_M_letters_42
  refine ⟨fun z => h17 (Or.inr (by omega)), fun z1 => ⟨fun z => h17 (Or.inr (by omega)), fun z2 => ?_⟩⟩
  obtain ⟨st, hst, est⟩ : ∃ st : Nat, st < 5 ∧ x2 = zI st := ⟨x2.toInt.toNat, by omega, by rw [Int.toNat_of_nonneg (by omega), zI_to]⟩
  refine ⟨vp_in_iff.mpr ra, fun z => hthr 2 (by decide) (h2 st r hst hr est er (by omega)), fun z3 => ⟨vp_in_iff.mpr ra, fun z => hthr 2 (by decide) (h2 st r hst hr est er (by omega)), fun z4 => ?_⟩⟩
  obtain ⟨t, p, u, oa, eA⟩ := okV_X va (by omega) (by omega)
  have t8 := oa.1
  have et : (rg r).1.toInt = t := by rw [eA]; exact z_of (by omega)
  have lu : lim u := ⟨oa.2.1, oa.2.2.1⟩
  have l1 := lu.1
  have l2 := lu.2
  have p0 : p = 0 := oa.2.2.2.2.2 (by omega)
  subst p0
  have h := h1 st r t u hst hr est er (by omega) t8 lu eA
  subst est er
  unfold B_M_letters_47
  intro M1 e1
  have e6 : mg_I M1 19 0 = 0 := by rw [e1]; rfl
  have hin := z_in hr (show 8 < 2147483648 by decide)
  rw [e6, z_cl (by omega)]
  refine ⟨fun z => absurd z (by decide), fun _ => ⟨hin, fun t3 e3 M4 e4 => ?_⟩⟩
  have eu : mg_L M1 23 r = zL u := by
    have := congrArg (fun c : nf_V => c.2.1) (hc r hr)
    rw [eA] at this
    rw [e1]
    exact this
  rw [eu] at e3
  have n4 : mg_I M4 19 0 = 0 := by rw [e4]; exact e6
  have o4 : oM M4 [] := ⟨by rw [e4]; rfl, fun i hi => absurd hi (Nat.not_lt_zero _)⟩
  have k4 : kU2 M M4 := by rw [e4, e1]; exact (kU2_19 M 0 0 (by decide)).tr (kU2_19 _ 3 0 (by decide))
  have e150 : ∀ (L : List Nat) (M' : nf_M), let1 st u L → kU M4 M' → oM M' L → B_M_letters_150 post M' := fun L M' hL hk ho => by
    unfold B_M_letters_150
    rw [ho.1]
    exact h L hL M' (k4.tr hk.w) ho (hk.2.2.2.2.2.trans n4)
  have e144 : ¬ ((st = 1 ∨ st = 2) ∧ 1 ≤ u) → ¬ ((st = 3 ∨ st = 4) ∧ 1 ≤ u ∧ u ≤ 3999) → B_M_letters_144 post (zL u) M4 := fun n1 n2 => by
    unfold B_M_letters_144
    rw [e0i]
    refine s_M_addExact lu (by decide) (by decide) o4 (fun M' hk ho => e150 (exL u 0) M' (Or.inr (Or.inr ⟨n1, n2, rfl⟩)) hk.U ?_)
    rw [List.nil_append] at ho
    exact ho
  have eun : 1 ≤ u → zL u = zL (u.toNat : Nat) := fun q => by rw [Int.toNat_of_nonneg (by omega)]
  have e106 : ¬ ((st = 1 ∨ st = 2) ∧ 1 ≤ u) → B_M_letters_106 post (zI st) (zL u) M4 := fun n1 => by
    unfold B_M_letters_106 B_M_letters_138
    rw [show (2 : Int32) = zI (2 : Nat) by decide, zlt (by omega) (by omega), show (0 : Int64) = zL 0 by decide, zL_lt (by omega) (by omega) (by omega) (by omega), show (4000 : Int64) = zL 4000 by decide, zL_lt (by omega) (by omega) (by omega) (by omega), zeqI 4 4 (by decide) (by omega) (by omega)]
    have hro : ∀ (g : Int32), (g = 0 ↔ decide (st = 4) = false) → 2 < st → 0 < u → u < 4000 → P_M_addRoman ((zL u).toInt32) g M4 (fun _ M2 => B_M_letters_150 post M2) := fun g hg a b c => by
      rw [zL_i (by omega) (by omega), show zI u = zI (u.toNat : Nat) by rw [Int.toNat_of_nonneg (by omega)]]
      exact s_M_addRoman (by omega) hg o4 (fun M' hk ho => e150 _ M' (Or.inr (Or.inl ⟨by omega, by omega, by omega, rfl⟩)) hk.U ho)
    refine ⟨fun a => ⟨fun b => ⟨fun c => ⟨fun d => hro 1 ?_ a b c, fun d => hro 0 ?_ a b c⟩, fun c => e144 n1 (by omega)⟩, fun b => e144 n1 (by omega)⟩, fun a => e144 n1 (by omega)⟩
    · rw [decide_eq_true d]
      exact ⟨fun q => absurd q (by decide), fun q => absurd q (by decide)⟩
    · rw [decide_eq_false d]
      exact ⟨fun _ => rfl, fun _ => rfl⟩
  rw [e3, show (0 : Int32) = zI (0 : Nat) by decide, zlt (by omega) (by omega), show (3 : Int32) = zI (3 : Nat) by decide, zlt (by omega) (by omega), show (0 : Int64) = zL 0 by decide, zL_lt (by omega) (by omega) (by omega) (by omega), zeqI 1 1 (by decide) (by omega) (by omega)]
  unfold B_M_letters_100
  have hal : ∀ base : Nat, base = (if st = 1 then 97 else 65) → st = 1 ∨ st = 2 → 0 < u → P_M_addLetters (zL u) (zI base) M4 (fun _ M2 => B_M_letters_150 post M2) := fun base eb hs hu => by
    rw [eun (by omega)]
    refine s_M_addLetters (by omega) (by rw [eb]; split <;> decide) o4 (fun n n1 n2 M' hk ho => e150 _ M' (Or.inl ⟨hs, by omega, n, n1, n2, rfl⟩) hk ?_)
    rw [← eb]
    exact ho
  exact ⟨fun a => ⟨fun b => ⟨fun c => ⟨fun d => hal 97 (by rw [if_pos d]) (Or.inl d) c, fun d => hal 65 (by rw [if_neg d]) (by omega) c⟩, fun c => e106 (by omega)⟩, fun b => e106 (by omega)⟩, fun a => e106 (by omega)⟩
theorem kE_mv {M M1 : nf_M} {n m : Nat} {tx ou : Nat → Nat} {rg : Nat → nf_V} (h : iv_1 M n tx m ou rg) (k : kF M M1) : mv M1 rg := fun i hi => (kF_rg k i).trans (iv_mv h i hi)
theorem nf_arm13 (x1 x2 : Int32) (M : nf_M) (h : iv_I M) : P_arm13 x1 x2 M iv_I := by
  obtain ⟨n, tx, m, ou, rg, hI⟩ := h
  have hv0 : vp_in (0 : Int32) 1 := by rw [vp_in_iff]; decide
  show P_L_letters x1 x2 M (fun r1 M2 => P_M_letters x1 x2 M2 (fun r3 M4 => endL r1 r3 M4))
  have hv := iv_ok hI
  unfold P_L_letters
  refine s_F_letters (iv_cv hI) hv (fun z => c_0 0 rfl ?_) (fun st r hst hr est er z => c_0 1 rfl ?_) (fun st r t u hst hr est er ht1 ht8 lu eA L hL M1 k1 w1 t3 e3 => ⟨hv0, fun M5 e5 => ?_⟩)
  · rw [nI_z]
    refine s_M_letters (iv_mv hI) hv (fun _ a M' hk e => end_thr ⟨n, tx, m, ou, rg, iv_no hI (kD.rf M) hk⟩ (e.trans (by decide)) (by decide)) (fun st r hst hr est er _ => ?_) (fun st r t u hst hr est er _ _ _ _ => ?_)
    · exfalso
      rcases z with z | z
      · exact z (by rw [er]; exact in_z hr)
      · exact z (zin hst (by decide) est)
    · exfalso
      rcases z with z | z
      · exact z (by rw [er]; exact in_z hr)
      · exact z (zin hst (by decide) est)
  · rw [nI_z]
    refine s_M_letters (iv_mv hI) hv (fun z2 => ?_) (fun st' r' hst' hr' est' er' _ a M' hk e => end_thr ⟨n, tx, m, ou, rg, iv_no hI (kD.rf M) hk⟩ (e.trans (by decide)) (by decide)) (fun st' r' t u hst' hr' est' er' ht1 ht8 lu eA => ?_)
    · exfalso
      rcases z2 with z | z
      · exact z (by rw [er]; exact in_z hr)
      · exact z (zin hst (by decide) est)
    · exfalso
      have q1 := z_inj hr hr' er er'
      subst q1
      refine z ?_
      rw [eA]
      show 1 ≤ (zI (t : Int)).toInt ∧ (zI (t : Int)).toInt < 8
      rw [z_of (by omega)]
      omega
  · have hok := let1_ok lu hL
    rw [show (0 : Int32).toNatClampNeg = 0 by decide] at e5
    have m5 : mv M5 rg := fun i hi => by
      rw [e5]
      show rgM M1 i = _
      exact kE_mv hI k1.1 i hi
    refine s_M_letters m5 hv (fun z2 => ?_) (fun st' r' hst' hr' est' er' z2 => ?_) (fun st' r' t' u' hst' hr' est' er' ht1' ht8' lu' eA' L' hL' M' hk ho e0 => ?_)
    · exfalso
      rcases z2 with z | z
      · exact z (by rw [er]; exact in_z hr)
      · exact z (zin hst (by decide) est)
    · exfalso
      have q1 := z_inj hr hr' er er'
      subst q1
      refine z2 ?_
      rw [eA]
      show 1 ≤ (zI (t : Int)).toInt ∧ (zI (t : Int)).toInt < 8
      rw [z_of (by omega)]
      omega
    · have q1 := z_inj hr hr' er er'
      have q2 := zinj (by omega) (by omega) est est'
      subst q1 q2
      have q3 := eA.symm.trans eA'
      injection q3 with x1' x2'
      injection x2' with x2' x3'
      have lu1 := lu.1
      have lu2 := lu.2
      have lu1' := lu'.1
      have lu2' := lu'.2
      rw [zL_eq (by omega) (by omega) (by omega) (by omega)] at x2'
      subst x2'
      have q4 := let1_1 hL hL'
      subst q4
      rw [e5] at hk
      refine end_ok ⟨n, tx, _, _, rg, iv_outp hI k1 w1 hk ho hok.1 hok.2⟩ e0 ?_
      have e27 : mg_L M' 27 = mg_L (ms_L M1 27 0 t3) 27 := hk.2.2.2.1
      rw [e27, e3]
      rfl
