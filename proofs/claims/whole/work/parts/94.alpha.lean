/-! letters a, b, .. z, aa, .. -/
def vs (v : Nat) : Nat → Nat
  | 0 => v
  | i + 1 => (vs v i - 1) / 26
def dg (v i : Nat) : Nat := (vs v i - 1) % 26
def lcn (v n : Nat) : Prop := vs v n = 0 ∧ ∀ i, i < n → 0 < vs v i
theorem lcn_1 {v n n' : Nat} (h : lcn v n) (h' : lcn v n') : n = n' := by
  rcases Nat.lt_trichotomy n n' with q | q | q
  · have := h'.2 n q
    have := h.1
    omega
  · exact q
  · have := h.2 n' q
    have := h'.1
    omega
theorem vs_le (v : Nat) : ∀ i, vs v i * 26 ^ i ≤ v
  | 0 => by show v * 26 ^ 0 ≤ v; rw [Nat.pow_zero, Nat.mul_one]; exact Nat.le_refl _
  | i + 1 => by
    have h := vs_le v i
    show (vs v i - 1) / 26 * 26 ^ (i + 1) ≤ v
    rw [Nat.pow_succ, Nat.mul_comm (26 ^ i) 26, ← Nat.mul_assoc]
    refine Nat.le_trans (Nat.mul_le_mul_right _ ?_) h
    omega
theorem vs_11 {v : Nat} (h : v < 1000000000000000) : vs v 11 = 0 := by
  have := vs_le v 11
  have e : 26 ^ 11 = 3670344486987776 := by decide
  rw [e] at this
  omega
theorem vs_b {v : Nat} (h : v < 1000000000000000) : ∀ i, vs v i < 1000000000000000
  | 0 => h
  | i + 1 => by
    have := vs_b h i
    show (vs v i - 1) / 26 < _
    omega
/-- the last first -/
def rvl (g : Nat → Nat) : Nat → List Nat
  | 0 => []
  | p + 1 => g p :: rvl g p
theorem rvl_len (g : Nat → Nat) : ∀ n, (rvl g n).length = n
  | 0 => rfl
  | n + 1 => by show (rvl g n).length + 1 = n + 1; rw [rvl_len g n]
theorem rvl_get (g : Nat → Nat) : ∀ n i, i < n → lf' (rvl g n) i = g (n - 1 - i)
  | 0, i, h => absurd h (Nat.not_lt_zero _)
  | n + 1, 0, _ => rfl
  | n + 1, i + 1, h => by
    show lf' (rvl g n) i = _
    rw [rvl_get g n i (by omega)]
    congr 1
    omega
theorem rvl_le {g : Nat → Nat} : ∀ n, (∀ i, i < n → g i ≤ 126) → ∀ c ∈ rvl g n, c ≤ 126
  | 0, _ => nil_le
  | n + 1, h => cons_le (h n (by omega)) (rvl_le n (fun i hi => h i (by omega)))
theorem row_ext {M : nf_M} {b : Bool} {n : Nat} {f g : Nat → Nat} (h : rowF M b n f) (e : ∀ i, i < n → f i = g i) : rowF M b n g := ⟨h.1, fun i hi => by rw [h.2 i hi, e i hi]⟩
theorem c_ok : ∀ c : Nat, c < 127 → (((zL (c : Int)).toInt32).toUInt32 % 65536).toInt32 = zI (c : Int) := by decide
/-- a row turned -/
theorem s_R_turn {n : Nat} {f : Nat → Nat} {M : nf_M} {post : Unit → nf_M → Prop} (hn : n ≤ 100) (hf : ∀ i, i < n → f i < 65536) (h : rowF M true n f) (k : ∀ M', kR true M M' → rowF M' true n (fun i => f (n - 1 - i)) → post () M') : P_R_turn true M post := by
  have hcap : nI (nf_cap true) = zI (128 : Nat) := by rw [nI_z]; rfl
  have hc128 : nf_cap true = 128 := rfl
  have key : ∀ (r i : Nat) (M1 : nf_M), r + i = n → kR true M M1 → rowF M1 true n (fun k => if k < i ∨ n - 1 - i < k then f (n - 1 - k) else f k) → B_R_turn_9 post (r + 1) true (zI i) (zI ((n : Int) - 1 - i)) M1 := by
    intro r
    induction r with
    | zero =>
      intro i M1 hr hk hw
      unfold B_R_turn_9 B_R_turn_58
      rw [zI_lt (by omega) (by omega) (by omega) (by omega)]
      refine ⟨fun z => by omega, fun _ => k M1 hk (row_ext hw (fun j hj => ?_))⟩
      show (if j < i ∨ n - 1 - i < j then f (n - 1 - j) else f j) = f (n - 1 - j)
      rw [if_pos (by omega)]
    | succ r ih =>
      intro i M1 hr hk hw
      unfold B_R_turn_9 B_R_turn_58
      rw [hcap, zI_lt (by omega) (by omega) (by omega) (by omega)]
      refine ⟨fun z => ?_, fun z => k M1 hk (row_ext hw (fun j hj => ?_))⟩
      · have ej : (n : Int) - 1 - i = ((n - 1 - i : Nat) : Int) := by omega
        rw [ej, zlt (by omega) (by omega), z_cl (by omega), z_cl (by omega)]
        have h1 : mg_C M1 true i = zI (f i) := by
          have := hw.2 i (by omega)
          dsimp only at this
          rw [if_neg (by omega)] at this
          exact this
        have h2 : mg_C M1 true (n - 1 - i) = zI (f (n - 1 - i)) := by
          have := hw.2 (n - 1 - i) (by omega)
          dsimp only at this
          rw [if_neg (by omega)] at this
          exact this
        refine ⟨fun _ => ⟨z_in (by omega) (by decide), fun t2 e2 => ⟨z_in (by omega) (by decide), fun t4 e4 => ⟨z_in (by omega) (by decide), fun M6 e6 => ⟨z_in (by omega) (by decide), fun M8 e8 => ?_⟩⟩⟩⟩, fun q => by omega⟩
        rw [h1] at e2
        rw [h2] at e4
        rw [e4, z_ch (hf _ (by omega))] at e6
        rw [e2, z_ch (hf _ (by omega))] at e8
        have e9 : zI ((n - 1 - i : Nat) : Int) + (-1 : Int32) = zI ((n : Int) - 1 - ((i + 1 : Nat) : Int)) := by
          rw [show (-1 : Int32) = zI (-1) by decide, zI_add]
          congr 1
          omega
        rw [z_s, e9]
        refine ih (i + 1) M8 (by omega) (hk.tr ?_) ⟨?_, fun l hl => ?_⟩
        · rw [e8, e6]
          exact ⟨rfl, rfl, rfl, rfl, rfl, rfl, rfl, rfl, rfl⟩
        · rw [e8, e6]
          exact hw.1
        · have e10 : mg_C M8 true l = if l = n - 1 - i then zI (f i) else if l = i then zI (f (n - 1 - i)) else mg_C M1 true l := by
            rw [e8, e6]
            rfl
          rw [e10]
          have hl3 := hw.2 l hl
          dsimp only at hl3 ⊢
          by_cases c1 : l = n - 1 - i
          · rw [if_pos c1, if_pos (by omega)]
            congr 3
            omega
          · rw [if_neg c1]
            by_cases c2 : l = i
            · rw [if_pos c2, if_pos (by omega), c2]
            · rw [if_neg c2, hl3]
              by_cases c3 : l < i ∨ n - 1 - i < l
              · rw [if_pos c3, if_pos (by omega)]
              · rw [if_neg c3, if_neg (by omega)]
      · by_cases c : j < i ∨ n - 1 - i < j
        · rw [if_pos c]
        · rw [if_neg c]
          congr 1
          omega
  unfold P_R_turn
  intro t1 e1
  rw [h.1, e1i, zI_sub] at e1
  refine ⟨n + 1, ?_⟩
  have := key n 0 M (by omega) (kR.rf true M) (row_ext h (fun j hj => by rw [if_neg (by omega)]))
  rw [e1]
  have e2 : (n : Int) - (1 : Nat) = (n : Int) - 1 - ((0 : Nat) : Int) := by omega
  rw [e2]
  exact this
theorem s_F_writeAlphabet {v : Nat} {x3 : Int32} {base : Nat} {M : nf_M} {post : Unit → nf_M → Prop} (hv : v < 1000000000000000) (hb : (x3 = 0 ∧ base = 97) ∨ (¬ x3 = 0 ∧ base = 65)) (k : ∀ n, n ≤ 11 → lcn v n → ∀ M', kR true M M' → wF M' (rvl (fun i => base + dg v i) n) → post () M') : P_F_writeAlphabet (zL v) x3 M post := by
  have hd : ∀ i, dg v i < 26 := fun i => Nat.mod_lt _ (by decide)
  have hbb : base ≤ 97 := by omega
  have key : ∀ (r i : Nat) (M1 : nf_M), r + i = 11 → (∀ j, j < i → 0 < vs v j) → kR true M M1 → rowF M1 true i (fun j => base + dg v j) → B_F_writeAlphabet_10 post (r + 1) x3 (zL (vs v i)) M1 := by
    intro r
    have fin : ∀ (i : Nat) (M1 : nf_M), i ≤ 11 → (∀ j, j < i → 0 < vs v j) → vs v i = 0 → kR true M M1 → rowF M1 true i (fun j => base + dg v j) → B_F_writeAlphabet_72 post M1 := by
      intro i M1 hi hj h0 hk hw
      unfold B_F_writeAlphabet_72
      refine s_R_turn (by omega) (fun j _ => by have := hd j; show base + dg v j < 65536; omega) hw (fun M2 k2 w2 => k i hi ⟨h0, hj⟩ M2 (hk.tr k2) ?_)
      unfold wF
      rw [rvl_len]
      exact row_ext w2 (fun j hj => (rvl_get (fun i => base + dg v i) i j hj).symm)
    induction r with
    | zero =>
      intro i M1 hr hj hk hw
      have hi : i = 11 := by omega
      have h0 : vs v i = 0 := by rw [hi]; exact vs_11 hv
      unfold B_F_writeAlphabet_10
      rw [el0, zLlt (by omega) (by omega)]
      exact ⟨fun z => by omega, fun _ => fin i M1 (by omega) hj h0 hk hw⟩
    | succ r ih =>
      intro i M1 hr hj hk hw
      have hb2 := vs_b hv i
      unfold B_F_writeAlphabet_10 B_F_writeAlphabet_44
      rw [el0, zLlt (by omega) (by omega), hw.1, show (15 : Int32) = zI (15 : Nat) by decide, zlt (by omega) (by omega)]
      refine ⟨fun z => ⟨fun _ => ?_, fun q => by omega⟩, fun z => fin i M1 (by omega) hj (by omega) hk hw⟩
      have e1 : zL (vs v i : Nat) - (1 : Int64) = zL (vs v i - 1 : Nat) := by
        rw [show (1 : Int64) = zL (1 : Nat) by decide, zL_sub]
        congr 1
        omega
      have e26 : (26 : Int64) = zL (26 : Nat) := by decide
      rw [e1, e26, zmod (by omega) (by omega), zdiv (by omega) (by omega)]
      have hch : ∀ b : Nat, b ≤ 97 → ((((zI (b : Int)).toInt64 + zL ((vs v i - 1) % 26 : Nat)).toInt32).toUInt32 % 65536).toInt32 = zI ((b + dg v i : Nat) : Int) := fun b hb' => by
        rw [zI_l (by omega) (by omega), zLadd]
        exact c_ok (b + dg v i) (by have := hd i; omega)
      have hgo : ∀ b : Nat, b = base → P_R_add true (((((zI (b : Int)).toInt64 + zL ((vs v i - 1) % 26 : Nat)).toInt32).toUInt32 % 65536).toInt32) M1 (fun _ M2 => ∀ t3 : Int64, t3 = zL ((vs v i - 1) / 26 : Nat) → B_F_writeAlphabet_10 post (r + 1) x3 t3 M2) := fun b eb => by
        rw [hch b (by omega), eb]
        refine s_R_add hw (by show i < 128; omega) (by have := hd i; omega) (fun M2 k2 w2 t3 e3 => ?_)
        rw [e3]
        refine ih (i + 1) M2 (by omega) (fun j hj' => ?_) (hk.tr k2) (row_ext w2 (fun j hj' => ?_))
        · by_cases c : j < i
          · exact hj j c
          · have : j = i := by omega
            rw [this]
            exact z
        · unfold up
          by_cases c : j = i
          · rw [if_pos c, c]
          · rw [if_neg c]
      rcases hb with ⟨b1, b2⟩ | ⟨b1, b2⟩
      · exact ⟨fun _ => hgo 97 b2.symm, fun q => absurd b1 q⟩
      · exact ⟨fun q => absurd q b1, fun _ => hgo 65 b2.symm⟩
  unfold P_F_writeAlphabet
  exact s_R_clearL (fun M1 k1 w1 => ⟨12, key 11 0 M1 rfl (fun j hj => absurd hj (Nat.not_lt_zero _)) k1 ⟨w1.1, fun i hi => absurd hi (Nat.not_lt_zero _)⟩⟩)
theorem s_M_addLetters {v base : Nat} {M : nf_M} {post : Unit → nf_M → Prop} (hv : v < 1000000000000000) (hb : base ≤ 97) (ho : oM M []) (k : ∀ n, n ≤ 11 → lcn v n → ∀ M', kU M M' → oM M' (rvl (fun i => base + dg v i) n) → post () M') : P_M_addLetters (zL v) (zI base) M post := by
  have hd : ∀ i, dg v i < 26 := fun i => Nat.mod_lt _ (by decide)
  have h64 : ∀ (n p : Nat) (L : List Nat) (M1 : nf_M), n ≤ 11 → p ≤ n → L.length + p = n → lcn v n → kU M M1 → oM M1 L → (∀ i, i < n → mg_I M1 26 i = zI (dg v i)) → (∀ M', kU M M' → oM M' (L ++ rvl (fun i => base + dg v i) p) → post () M') → B_M_addLetters_64 post (p + 1) (zI base) (zI ((p : Int) - 1)) M1 := by
    intro n p
    induction p with
    | zero =>
      intro L M1 hn hp hl hc hk ho1 hg kk
      unfold B_M_addLetters_64
      exact ⟨fun _ => kk M1 hk (by rw [show rvl (fun i => base + dg v i) 0 = [] from rfl, List.append_nil]; exact ho1), fun z => absurd (show zI ((0 : Nat) - 1) < (0 : Int32) by decide) z⟩
    | succ p ih =>
      intro L M1 hn hp hl hc hk ho1 hg kk
      unfold B_M_addLetters_64
      rw [show ((p + 1 : Nat) : Int) - 1 = (p : Int) by omega]
      refine ⟨fun z => absurd z (by rw [i32_lt, t0, z_of (by omega)]; omega), fun _ => ⟨z_in (by omega) (by decide), ?_⟩⟩
      rw [z_cl (by omega), hg p (by omega), zI_add, show ((base : Int) + (dg v p : Int)) = ((base + dg v p : Nat) : Int) by omega]
      refine s_M_addL ho1 (by omega) (fun M2 k2 o2 => ?_)
      rw [show (-1 : Int32) = zI (-1) by decide, zI_add, show (p : Int) + -1 = (p : Int) - 1 by omega]
      refine ih (L ++ [base + dg v p]) M2 hn (by omega) (by rw [List.length_append]; simp only [List.length_cons, List.length_nil]; omega) hc (hk.tr k2.U) o2 (fun i hi => by rw [k2.2.2 26 (by decide) (by decide)]; exact hg i hi) (fun M' hk' ho' => kk M' hk' ?_)
      rw [List.append_assoc] at ho'
      exact ho'
  have h8 : ∀ (r i : Nat) (M1 : nf_M), r + i = 11 → (∀ j, j < i → 0 < vs v j) → kU M M1 → oM M1 [] → mg_I M1 19 13 = zI i → (∀ j, j < i → mg_I M1 26 j = zI (dg v j)) → B_M_addLetters_8 post (r + 1) (zI base) (zL (vs v i)) M1 := by
    intro r
    have fin : ∀ (i : Nat) (M1 : nf_M), i ≤ 11 → (∀ j, j < i → 0 < vs v j) → vs v i = 0 → kU M M1 → oM M1 [] → mg_I M1 19 13 = zI i → (∀ j, j < i → mg_I M1 26 j = zI (dg v j)) → ∀ t7 : Int32, t7 = (mg_I M1 19 13) - (1 : Int32) → (∃ n9 : Nat, B_M_addLetters_64 post n9 (zI base) t7 M1) := by
      intro i M1 hi hj h0 hk ho1 hm hg t7 e7
      rw [hm, e1i, zI_sub] at e7
      rw [e7]
      exact ⟨i + 1, h64 i i [] M1 hi (Nat.le_refl _) (by simp only [List.length_nil]; omega) ⟨h0, hj⟩ hk ho1 hg (fun M' hk' ho' => k i hi ⟨h0, hj⟩ M' hk' ho')⟩
    induction r with
    | zero =>
      intro i M1 hr hj hk ho1 hm hg
      have hi : i = 11 := by omega
      have h0 : vs v i = 0 := by rw [hi]; exact vs_11 hv
      unfold B_M_addLetters_8
      rw [el0, zLlt (by omega) (by omega)]
      exact ⟨fun z => by omega, fun _ => fin i M1 (by omega) hj h0 hk ho1 hm hg⟩
    | succ r ih =>
      intro i M1 hr hj hk ho1 hm hg
      have hb2 := vs_b hv i
      unfold B_M_addLetters_8
      rw [el0, zLlt (by omega) (by omega), hm]
      refine ⟨fun z t1 e1 => ⟨z_in (by omega) (by decide), fun M3 e3 t4 e4 t5 e5 M6 e6 => ?_⟩, fun z => by
        have := fin i M1 (by omega) hj (by omega) hk ho1 hm hg
        rw [hm] at this
        exact this⟩
      have ev : zL (vs v i : Nat) - (1 : Int64) = zL (vs v i - 1 : Nat) := by
        rw [show (1 : Int64) = zL (1 : Nat) by decide, zL_sub]
        congr 1
        omega
      have e26 : (26 : Int64) = zL (26 : Nat) := by decide
      rw [ev, e26, zmod (by omega) (by omega), zLi (by omega)] at e1
      rw [ev, e26, zdiv (by omega) (by omega)] at e4
      rw [z_cl (by omega)] at e3
      have em : mg_I M3 19 13 = zI i := by rw [e3]; exact hm
      rw [em, z_s] at e5
      rw [e4]
      have k3 : kU M1 M6 := by
        rw [e6, e3]
        exact ⟨rfl, rfl, rfl, rfl, fun _ _ => rfl, rfl⟩
      refine ih (i + 1) M6 (by omega) (fun j hj' => ?_) (hk.tr k3) ?_ (by rw [e6, e5]; rfl) (fun j hj' => ?_)
      · by_cases c : j < i
        · exact hj j c
        · have : j = i := by omega
          rw [this]
          exact z
      · rw [e6, e3]
        exact ho1
      · have e8 : mg_I M6 26 j = if j = i then t1 else mg_I M1 26 j := by rw [e6, e3]; rfl
        rw [e8]
        by_cases c : j = i
        · rw [if_pos c, e1, c]
          rfl
        · rw [if_neg c]
          exact hg j (by omega)
  unfold P_M_addLetters
  intro M1 e1
  have k1 : kU M M1 := by rw [e1]; exact kU_19 M 13 0 (by decide) (by decide)
  exact ⟨12, h8 11 0 M1 rfl (fun j hj => absurd hj (Nat.not_lt_zero _)) k1 (by rw [e1]; exact ho) (by rw [e1]; rfl) (fun j hj => absurd hj (Nat.not_lt_zero _))⟩
