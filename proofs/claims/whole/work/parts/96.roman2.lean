/-! Roman hundreds and thousands -/
theorem r4_3 : ∀ b : Bool, ∀ c, c < 10 → ∀ e, e < 100 → r4 b 1 (100 * c + e) = (mD b 2 c, e) := by decide +kernel
theorem rIn_lt {b : Bool} {i k v : Nat} (h : v < rV i) : rIn b i (k + 1) v = ([], v) := by
  show (if v < rV i then _ else _) = _
  rw [if_pos h]
theorem rIn_ge {b : Bool} {i k v : Nat} (h : ¬ v < rV i) : rIn b i (k + 1) v = (lts b (2 * i) ++ (lts b (2 * i + 1) ++ (rIn b i k (v - rV i)).1), (rIn b i k (v - rV i)).2) := by
  show (if v < rV i then _ else _) = _
  rw [if_neg h]
theorem r4_4 (b : Bool) {a e : Nat} (ha : a < 4) (he : e < 1000) : rIn b 0 3 (1000 * a + e) = (mD b 3 a, e) := by
  have e0 : rV 0 = 1000 := rfl
  have hc : a = 0 ∨ a = 1 ∨ a = 2 ∨ a = 3 := by omega
  rcases hc with rfl | rfl | rfl | rfl
  · rw [rIn_lt (by rw [e0]; omega), show 1000 * 0 + e = e by omega]
    cases b <;> rfl
  · rw [rIn_ge (by rw [e0]; omega), rIn_lt (by rw [e0]; omega), e0, show 1000 * 1 + e - 1000 = e by omega]
    cases b <;> rfl
  · rw [rIn_ge (by rw [e0]; omega), rIn_ge (by rw [e0]; omega), rIn_lt (by rw [e0]; omega), e0, show 1000 * 2 + e - 1000 - 1000 = e by omega]
    cases b <;> rfl
  · rw [rIn_ge (by rw [e0]; omega), rIn_ge (by rw [e0]; omega), rIn_ge (by rw [e0]; omega), e0, show rIn b 0 0 (1000 * 3 + e - 1000 - 1000 - 1000) = ([], 1000 * 3 + e - 1000 - 1000 - 1000) from rfl, show 1000 * 3 + e - 1000 - 1000 - 1000 = e by omega]
    cases b <;> rfl
theorem ro (b : Bool) (r i v : Nat) : rOut b (r + 1) i v = (rIn b i 3 v).1 ++ rOut b r (i + 1) (rIn b i 3 v).2 := by
  unfold rOut
  cases r <;> rfl
theorem rom_4 (b : Bool) (r i w : Nat) : rOut b (r + 4) i w = (r4 b i w).1 ++ rOut b r (i + 4) (r4 b i w).2 := by
  rw [ro b (r + 3) i w, ro b (r + 2) (i + 1), ro b (r + 1) (i + 1 + 1), ro b r (i + 1 + 1 + 1)]
  unfold r4
  rw [List.append_assoc, List.append_assoc, List.append_assoc]
theorem rom_eq (b : Bool) {v : Nat} (hv : v < 4000) : rOut b 13 0 v = mOut b v 4 := by
  have h1 : rOut b 13 0 v = (rIn b 0 3 v).1 ++ rOut b 12 1 (rIn b 0 3 v).2 := ro b 12 0 v
  have h2 : ∀ w, rOut b 12 1 w = (r4 b 1 w).1 ++ rOut b 8 5 (r4 b 1 w).2 := fun w => rom_4 b 8 1 w
  have h3 : ∀ w, rOut b 8 5 w = (r4 b 5 w).1 ++ rOut b 4 9 (r4 b 5 w).2 := fun w => rom_4 b 4 5 w
  have h4 : ∀ w, rOut b 4 9 w = (r4 b 9 w).1 := fun w => by
    have := rom_4 b 0 9 w
    rw [show rOut b 0 (9 + 4) (r4 b 9 w).2 = [] from rfl, List.append_nil] at this
    exact this
  have d1 : v = 1000 * (v / 1000) + v % 1000 := by omega
  have d2 : v % 1000 = 100 * (v / 100 % 10) + v % 100 := by omega
  have m : mOut b v 4 = mD b 3 (v / 10 ^ 3 % 10) ++ (mD b 2 (v / 10 ^ 2 % 10) ++ (mD b 1 (v / 10 ^ 1 % 10) ++ (mD b 0 (v / 10 ^ 0 % 10) ++ []))) := rfl
  have f1 : rIn b 0 3 v = (mD b 3 (v / 1000), v % 1000) := by
    have := r4_4 b (a := v / 1000) (e := v % 1000) (by omega) (by omega)
    rw [← d1] at this
    exact this
  have f2 : r4 b 1 (v % 1000) = (mD b 2 (v / 100 % 10), v % 100) := by
    have := r4_3 b (v / 100 % 10) (by omega) (v % 100) (by omega)
    rw [← d2] at this
    exact this
  have f3 := r4_2 b (v % 100) (by omega)
  have f4 := r4_1 b (v % 100 % 10) (by omega)
  rw [h1, f1, h2, f2, h3, f3, h4, f4, m, List.append_nil]
  show mD b 3 (v / 1000) ++ (mD b 2 (v / 100 % 10) ++ (mD b 1 (v % 100 / 10) ++ mD b 0 (v % 100 % 10))) = _
  rw [show v / 10 ^ 3 % 10 = v / 1000 by omega, show v / 10 ^ 2 % 10 = v / 100 % 10 by omega, show v / 10 ^ 1 % 10 = v % 100 / 10 by omega, show v / 10 ^ 0 % 10 = v % 100 % 10 by omega]
theorem s_F_writeRoman {b : Bool} {v : Nat} {x3 : Int32} {M : nf_M} {post : Unit → nf_M → Prop} (hv : v < 4000) (hb : x3 = 0 ↔ b = false) (k : ∀ M', kR true M M' → wF M' (mOut b v 4) → post () M') : P_F_writeRoman (zL v) x3 M post := by
  unfold P_F_writeRoman
  rw [e0i]
  refine s_R_clearL (fun M1 k1 w1 => ?_)
  have h := s_F_rom13 hb 13 0 v [] M1 rfl hv (by decide) w1 k1 (fun M' hk hw => k M' hk (by
    rw [List.nil_append, rom_eq b hv] at hw
    exact hw))
  exact ⟨13 + 1, h⟩
