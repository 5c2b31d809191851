/-! type -/
def okb (c : Nat) : Prop := c = 0 ∨ (32 ≤ c ∧ c ≤ 126)
def cnt (f : Nat → Nat) : Nat → Nat
  | 0 => 0
  | j + 1 => (if f j = 0 then 0 else 1) + cnt f j
def apn (f : Nat → Nat) : Nat → Nat → Nat
  | 0, n => n
  | j + 1, n => if f j = 0 then apn f j n else apn f j (n + 1)
def apt (f : Nat → Nat) : Nat → Nat → (Nat → Nat) → Nat → Nat
  | 0, _, tx => tx
  | j + 1, n, tx => if f j = 0 then apt f j n tx else apt f j (n + 1) (up tx n (f j))
theorem apn_cnt (f : Nat → Nat) : ∀ j n, apn f j n = n + cnt f j := by
  intro j
  induction j with
  | zero => intro n; rfl
  | succ j ih =>
    intro n
    unfold apn cnt
    by_cases h : f j = 0
    · rw [if_pos h, if_pos h, ih]; omega
    · rw [if_neg h, if_neg h, ih]; omega
theorem cnt_le (f : Nat → Nat) : ∀ j, cnt f j ≤ j := by
  intro j
  induction j with
  | zero => exact Nat.le_refl _
  | succ j ih => unfold cnt; split <;> omega
theorem apt_ok (f : Nat → Nat) : ∀ j n tx, (∀ k, k < j → okb (f k)) → (∀ i, i < n → 32 ≤ tx i ∧ tx i ≤ 126) → ∀ i, i < apn f j n → 32 ≤ apt f j n tx i ∧ apt f j n tx i ≤ 126 := by
  intro j
  induction j with
  | zero => intro n tx _ h i hi; exact h i hi
  | succ j ih =>
    intro n tx hb h i hi
    unfold apt
    unfold apn at hi
    by_cases h0 : f j = 0
    · rw [if_pos h0] at hi ⊢
      exact ih n tx (fun k hk => hb k (by omega)) h i hi
    · rw [if_neg h0] at hi ⊢
      refine ih (n + 1) _ (fun k hk => hb k (by omega)) (fun i hi => ?_) i hi
      unfold up
      by_cases e : i = n
      · rw [if_pos e]
        rcases hb j (by omega) with q | q
        · exact absurd q h0
        · exact q
      · rw [if_neg e]; exact h i (by omega)
theorem by8_lt (x : Int64) (k : Nat) : by8 x k < 256 := Nat.mod_lt _ (by decide)
theorem z32 : (32 : Int32) = zI (32 : Nat) := by decide
theorem z126 : (126 : Int32) = zI (126 : Nat) := by decide
theorem zlt {a b : Nat} (ha : a < 2147483648) (hb : b < 2147483648) : zI a < zI b ↔ a < b := by rw [zI_lt (by omega) (by omega) (by omega) (by omega)]; omega
theorem zeq {a b : Nat} (ha : a < 2147483648) (hb : b < 2147483648) : zI a = zI b ↔ a = b := by rw [zI_eq (by omega) (by omega) (by omega) (by omega)]; omega
theorem z0' {a : Nat} (ha : a < 2147483648) : zI a = (0 : Int32) ↔ a = 0 := zeq (b := 0) ha (by decide)
theorem s_F_type2 (x : Int64) (post : Int32 → nf_M → Prop) : ∀ (j n : Nat) (tx : Nat → Nat) (M : nf_M), j ≤ 8 → rowF M false n tx → n + cnt (by8 x) j ≤ 40 → (∀ M' : nf_M, kR false M M' → rowF M' false (apn (by8 x) j n) (apt (by8 x) j n tx) → post 1 M') → B_F_type_82 post (j + 1) x (zI (8 * (j : Int) - 8)) M := by
  intro j
  induction j with
  | zero =>
    intro n tx M hj hr hn k
    unfold B_F_type_82
    exact ⟨fun _ => k M (kR.rf _ _) hr, fun h => absurd (show zI (8 * ((0 : Nat) : Int) - 8) < 0 by decide) h⟩
  | succ j ih =>
    intro n tx M hj hr hn k
    unfold B_F_type_82
    have ex : zI (8 * ((j + 1 : Nat) : Int) - 8) = zI (8 * j : Nat) := by congr 1; omega
    rw [ex]
    refine ⟨fun h => ?_, fun _ => ?_⟩
    · rw [i32_lt, z_of (by omega)] at h
      have e0 : (0 : Int32).toInt = 0 := by decide
      omega
    · intro t et
      rw [by8_u x (by omega)] at et
      have hlt := by8_lt x j
      have e8 : zI (8 * j : Nat) + (-8 : Int32) = zI (8 * (j : Int) - 8) := by
        rw [show (-8 : Int32) = zI (-8) by decide, zI_add]
        congr 1
      unfold B_F_type_113
      rw [e8, et, z0' (by omega)]
      unfold cnt at hn
      refine ⟨fun h0 => ?_, fun h0 => ?_⟩
      · rw [if_pos h0] at hn
        refine ih n tx M (by omega) hr (by omega) (fun M' hk hr' => k M' hk ?_)
        unfold apn apt
        rw [if_pos h0, if_pos h0]
        exact hr'
      · rw [if_neg h0] at hn
        have ec : ((zI (by8 x j)).toUInt32 % 65536).toInt32 = zI (by8 x j) := by
          rw [← nI_z, pk_char, nI_z, nI_z]
          have : (zI (by8 x j : Nat)).toBitVec.toNat = by8 x j % 2 ^ 32 := by rw [← nI_z]; rfl
          rw [this]
          congr 1
          omega
        rw [ec]
        refine s_R_add hr (show n < 40 by omega) (by omega) (fun M' hk hr' => ?_)
        refine ih (n + 1) _ M' (by omega) hr' (by omega) (fun M2 hk2 hr2 => k M2 (hk.tr hk2) ?_)
        unfold apn apt
        rw [if_neg h0, if_neg h0]
        exact hr2
theorem s_F_type1 (x : Int64) (post : Int32 → nf_M → Prop) {M : nf_M} {n : Nat} (hN : mg_N M false = zI n) (hn40 : n ≤ 40) : ∀ (j c : Nat), j ≤ 8 → c + j ≤ 8 → ((∀ k, k < j → okb (by8 x k)) → n + (c + cnt (by8 x) j) ≤ 40 → ∃ n9 : Nat, B_F_type_82 post n9 x (56 : Int32) M) → (¬ (∀ k, k < j → okb (by8 x k)) ∨ 40 < n + (c + cnt (by8 x) j) → post 0 M) → B_F_type_6 post (j + 1) x (zI c) (zI (8 * (j : Int) - 8)) M := by
  intro j
  have e40 : (40 : Int32) = zI (40 : Nat) := by decide
  induction j with
  | zero =>
    intro c hj hc k1 k0
    unfold B_F_type_6
    refine ⟨fun _ => ?_, fun h => absurd (show zI (8 * ((0 : Nat) : Int) - 8) < 0 by decide) h⟩
    rw [hN, zI_add, e40, show (n : Int) + c = ((n + c : Nat) : Int) by omega, zlt (by omega) (by omega)]
    exact ⟨fun h => k0 (Or.inr h), fun h => k1 (fun k hk => absurd hk (Nat.not_lt_zero _)) (show n + (c + 0) ≤ 40 by omega)⟩
  | succ j ih =>
    intro c hj hc k1 k0
    unfold B_F_type_6
    have ex : zI (8 * ((j + 1 : Nat) : Int) - 8) = zI (8 * j : Nat) := by congr 1; omega
    rw [ex]
    refine ⟨fun h => ?_, fun _ => ?_⟩
    · rw [i32_lt, z_of (by omega)] at h
      have e0 : (0 : Int32).toInt = 0 := by decide
      omega
    · intro t et
      rw [by8_u x (by omega)] at et
      have hlt := by8_lt x j
      have e8 : zI (8 * j : Nat) + (-8 : Int32) = zI (8 * (j : Int) - 8) := by
        rw [show (-8 : Int32) = zI (-8) by decide, zI_add]
        congr 1
      have key : okb (by8 x j) → B_F_type_43 (fun x1 x3 x4 z => B_F_type_6 post (j + 1) x1 x3 x4 z) post x (zI c) (zI (8 * j : Nat)) t M := fun hb => by
        unfold B_F_type_43 B_F_type_54
        rw [e8, et, z0' (by omega)]
        have hall : (∀ k, k < j → okb (by8 x k)) → ∀ k, k < j + 1 → okb (by8 x k) := fun h k hk => by
          by_cases e : k = j
          · rw [e]; exact hb
          · exact h k (by omega)
        refine ⟨fun h0 t1 e1 => ?_, fun h0 t1 e1 => ?_⟩
        · rw [show (0 : Int32) = zI (0 : Nat) by decide, zI_add, show (c : Int) + (0 : Nat) = (c : Nat) by omega] at e1
          rw [e1]
          unfold cnt at k1 k0
          rw [if_pos h0] at k1 k0
          refine ih c (by omega) (by omega) (fun h h2 => k1 (hall h) (by omega)) (fun h => k0 (h.imp (fun q z => q (fun k hk => z k (by omega))) (by omega)))
        · rw [show (1 : Int32) = zI (1 : Nat) by decide, zI_add, show (c : Int) + (1 : Nat) = ((c + 1 : Nat) : Int) by omega] at e1
          rw [e1]
          unfold cnt at k1 k0
          rw [if_neg h0] at k1 k0
          refine ih (c + 1) (by omega) (by omega) (fun h h2 => k1 (hall h) (by omega)) (fun h => k0 (h.imp (fun q z => q (fun k hk => z k (by omega))) (by omega)))
      have hbad : ¬ okb (by8 x j) → post 0 M := fun hb => k0 (Or.inl fun z => hb (z j (by omega)))
      unfold B_F_type_41
      have h0e : t = 0 ↔ by8 x j = 0 := by rw [et, z0' (by omega)]
      have h1e : t < 32 ↔ by8 x j < 32 := by rw [et, z32, zlt (by omega) (by omega)]
      have h2e : (126 : Int32) < t ↔ 126 < by8 x j := by rw [et, z126, zlt (by omega) (by omega)]
      rw [h0e, h1e, h2e]
      exact ⟨fun h => key (Or.inl h), fun h => ⟨fun h2 => hbad (by unfold okb; omega), fun h2 => ⟨fun h3 => hbad (by unfold okb; omega), fun h3 => key (Or.inr (by omega))⟩⟩⟩
/-- another array of the text -/
def st20 (M : nf_M) (g : Nat → Int32) : nf_M := (fun o => if o = 20 then g else M.1 o, M.2)
theorem st20_ms (M : nf_M) (g : Nat → Int32) (i : Nat) (v : Int32) : ms_I (st20 M g) 20 i v = st20 M (fun k => if k = i then v else g k) := by
  unfold ms_I st20 nf_u2
  refine Prod.ext (funext fun o => ?_) rfl
  show (if o = 20 then (fun b => if b = i then v else (if o = 20 then g else M.1 o) b) else (if o = 20 then g else M.1 o)) = if o = 20 then (fun k => if k = i then v else g k) else M.1 o
  by_cases h : o = 20
  · rw [if_pos h, if_pos h, if_pos h]
  · rw [if_neg h, if_neg h, if_neg h]
theorem s_M_type1 (x : Int64) (post : Int32 → nf_M → Prop) (M : nf_M) {n0 : Nat} : ∀ (j n : Nat) (g : Nat → Int32) (tx : Nat → Nat), j ≤ 8 → n ≤ 40 → n0 ≤ n → (∀ i, i < n → g i = zI (tx i)) →
    ((∀ k, k < j → okb (by8 x k)) → n + cnt (by8 x) j ≤ 40 → ∀ g' : Nat → Int32, (∀ i, i < apn (by8 x) j n → g' i = zI (apt (by8 x) j n tx i)) → post 1 (ms_I (st20 M g') 19 1 (zI (apn (by8 x) j n)))) →
    (¬ (∀ k, k < j → okb (by8 x k)) ∨ 40 < n + cnt (by8 x) j → ∀ g' : Nat → Int32, (∀ i, i < n0 → g' i = g i) → post 0 (st20 M g')) → B_M_type_14 post (j + 1) x (zI n) (zI ((j : Int) - 1)) (st20 M g) := by
  intro j
  have e40 : (40 : Int32) = zI (40 : Nat) := by decide
  induction j with
  | zero =>
    intro n g tx hj hn hn0 hg k1 k0
    unfold B_M_type_14
    refine ⟨fun _ M1 e1 => ?_, fun h => absurd (show zI (((0 : Nat) : Int) - 1) < 0 by decide) h⟩
    rw [e1]
    exact k1 (fun k hk => absurd hk (Nat.not_lt_zero _)) (show n + 0 ≤ 40 by omega) g hg
  | succ j ih =>
    intro n g tx hj hn hn0 hg k1 k0
    unfold B_M_type_14
    have ex : zI (((j + 1 : Nat) : Int) - 1) = zI (j : Nat) := by congr 1; omega
    rw [ex]
    refine ⟨fun h => ?_, fun _ => ?_⟩
    · rw [i32_lt, z_of (by omega)] at h
      have e0 : (0 : Int32).toInt = 0 := by decide
      omega
    · intro t et
      rw [by8_s x (by omega)] at et
      have hlt := by8_lt x j
      have e8 : zI (j : Nat) + (-1 : Int32) = zI ((j : Int) - 1) := by
        rw [show (-1 : Int32) = zI (-1) by decide, zI_add]
        rfl
      have hall : okb (by8 x j) → (∀ k, k < j → okb (by8 x k)) → ∀ k, k < j + 1 → okb (by8 x k) := fun hb h k hk => by
        by_cases e : k = j
        · rw [e]; exact hb
        · exact h k (by omega)
      have hbad : ¬ okb (by8 x j) → post 0 (st20 M g) := fun hb => k0 (Or.inl fun z => hb (z j (by omega))) g (fun _ _ => rfl)
      unfold B_M_type_58
      have h0e : t = 0 ↔ by8 x j = 0 := by rw [et, z0' (by omega)]
      have h1e : t < 32 ↔ by8 x j < 32 := by rw [et, z32, zlt (by omega) (by omega)]
      have h2e : (126 : Int32) < t ↔ 126 < by8 x j := by rw [et, z126, zlt (by omega) (by omega)]
      have h3e : zI n = (40 : Int32) ↔ n = 40 := by rw [e40, zeq (by omega) (by omega)]
      rw [h0e, h1e, h2e, h3e]
      unfold B_M_type_60 B_M_type_76
      rw [h0e]
      refine ⟨fun h => ⟨fun _ => ?_, fun z => absurd h z⟩, fun h => ⟨fun h2 => hbad (by unfold okb; omega), fun h2 => ⟨fun h3 => hbad (by unfold okb; omega), fun h3 => ⟨fun h4 => ?_, fun h4 => ⟨fun z => absurd z h, fun _ => ⟨z_in (by omega) (by omega), fun M2 e2 => ?_⟩⟩⟩⟩⟩⟩
      · rw [e8]
        unfold cnt apn apt at k1
        unfold cnt at k0
        rw [if_pos h] at k1 k0
        simp only [if_pos h] at k1
        exact ih n g tx (by omega) hn hn0 hg (fun q q2 => k1 (hall (Or.inl h) q) (by omega)) (fun q => k0 (q.imp (fun q z => q (fun k hk => z k (by omega))) (by omega)))
      · refine k0 (Or.inr ?_) g (fun _ _ => rfl)
        unfold cnt
        rw [if_neg h]
        omega
      · have hb : okb (by8 x j) := Or.inr (by omega)
        rw [z_cl (by omega), st20_ms] at e2
        rw [e8, e2, show (1 : Int32) = zI (1 : Nat) by decide, zI_add, show (n : Int) + (1 : Nat) = ((n + 1 : Nat) : Int) by omega]
        unfold cnt apn apt at k1
        unfold cnt at k0
        rw [if_neg h] at k1 k0
        simp only [if_neg h] at k1
        refine ih (n + 1) _ (up tx n (by8 x j)) (by omega) (by omega) (by omega) (fun i hi => ?_) (fun q q2 => k1 (hall hb q) (by omega)) (fun q g' hg' => k0 (q.imp (fun q z => q (fun k hk => z k (by omega))) (by omega)) g' (fun i hi => ?_))
        · unfold up
          by_cases e : i = n
          · rw [if_pos e, if_pos e]; exact et
          · rw [if_neg e, if_neg e]; exact hg i (by omega)
        · rw [hg' i hi, if_neg (by omega)]
theorem st20_id (M : nf_M) : st20 M (mg_I M 20) = M := by
  unfold st20
  refine Prod.ext (funext fun o => ?_) rfl
  show (if o = 20 then mg_I M 20 else M.1 o) = M.1 o
  by_cases h : o = 20
  · rw [if_pos h, h]; rfl
  · rw [if_neg h]
theorem iv_st20 {M : nf_M} {n m : Nat} {tx ou : Nat → Nat} {rg : Nat → nf_V} (h : iv_1 M n tx m ou rg) {g : Nat → Int32} (hg : ∀ i, i < n → g i = mg_I M 20 i) : iv_1 (st20 M g) n tx m ou rg :=
  ⟨h.1, h.2.1, ⟨h.2.2.1.1, fun i hi => (hg i hi).trans (h.2.2.1.2 i hi)⟩, h.2.2.2.1, h.2.2.2.2.1, h.2.2.2.2.2.1, h.2.2.2.2.2.2⟩
theorem nf_arm0 (x1 x2 : Int32) (M : nf_M) (h : iv_I M) : P_arm0 x1 x2 M iv_I := by
  obtain ⟨n, tx, m, ou, rg, hI⟩ := h
  unfold P_arm0
  generalize ((x1.toInt64) <<< ((32 : Int32).toInt64 &&& 63)) ||| ((x2.toInt64) &&& (4294967295 : Int64)) = x
  have hn40 := hI.1.1
  have z40 : ∀ n : Nat, ∃ k, k = n := fun n => ⟨n, rfl⟩
  have hgood : Prop := ∀ k, k < 8 → okb (by8 x k)
  unfold P_F_type
  refine ⟨9, ?_⟩
  have e56 : (56 : Int32) = zI (8 * ((8 : Nat) : Int) - 8) := by decide
  have e7 : (7 : Int32) = zI (((8 : Nat) : Int) - 1) := by decide
  rw [show (0 : Int32) = zI (0 : Nat) by decide, e56]
  refine s_F_type1 x _ hI.2.1.1 hn40 8 0 (by omega) (by omega) (fun hg hc => ?_) (fun hb => ?_)
  · rw [Nat.zero_add] at hc
    refine ⟨9, ?_⟩
    rw [e56]
    refine s_F_type2 x _ 8 n tx M (by omega) hI.2.1 hc (fun M' hk hr => ?_)
    unfold P_M_type
    intro M1 e1 t2 e2
    have et : t2 = zI n := by rw [e2, e1]; exact (kF_tx hk.kF hI.2.2.1).1
    refine ⟨9, ?_⟩
    rw [et, e7, ← st20_id M1]
    refine s_M_type1 x _ M1 (n0 := n) 8 n _ tx (by omega) hn40 (by omega) (fun i hi => ?_) (fun _ _ g' hg' => ?_) (fun q => ?_)
    · rw [e1]; exact (kF_tx hk.kF hI.2.2.1).2 i hi
    · refine ⟨fun _ => ⟨apn (by8 x) 8 n, apt (by8 x) 8 n tx, m, ou, rg, ?_⟩, fun z => absurd rfl z⟩
      have hT : okT (apn (by8 x) 8 n) (apt (by8 x) 8 n tx) := ⟨by rw [apn_cnt]; omega, apt_ok _ 8 n tx hg hI.1.2⟩
      have hk2 : kR false M (M'.1, M'.2) := hk
      rw [e1]
      refine ⟨hT, hr, ⟨rfl, hg'⟩, hI.2.2.2.1, hk.row (b := false) hI.2.2.2.2.1, kF_ou hk.kF hI.2.2.2.2.2.1, fun r hr8 => ?_⟩
      obtain ⟨q1, q2, q3⟩ := hI.2.2.2.2.2.2 r hr8
      exact ⟨q1, (kF_rg hk.kF r).trans q2, (hk.rg _).trans q3⟩
    · rcases q with q | q
      · exact absurd hg q
      · omega
  · rw [Nat.zero_add] at hb
    unfold P_M_type
    intro M1 e1 t2 e2
    have et : t2 = zI n := by rw [e2, e1]; exact hI.2.2.1.1
    refine ⟨9, ?_⟩
    rw [et, e7, ← st20_id M1]
    refine s_M_type1 x _ M1 (n0 := n) 8 n _ tx (by omega) hn40 (by omega) (fun i hi => ?_) (fun q q2 => ?_) (fun q g' hg' => ?_)
    · rw [e1]; exact hI.2.2.1.2 i hi
    · rcases hb with z | z
      · exact absurd q z
      · omega
    · refine ⟨fun _ => ⟨n, tx, m, ou, rg, ?_⟩, fun z => absurd rfl z⟩
      refine iv_st20 ?_ hg'
      rw [e1]
      exact iv_scr hI 0
