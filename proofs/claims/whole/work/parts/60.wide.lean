/-! exact numbers: the wide number of the system -/
theorem zdiv {a b : Nat} (ha : a < 9223372036854775808) (hb : b < 9223372036854775808) : zL a / zL b = zL (a / b : Nat) := by
  rw [zL_div (by omega) (by omega) (by omega) (by omega), Int.tdiv_eq_ediv_of_nonneg (by omega)]
  rfl
theorem zmod {a b : Nat} (ha : a < 9223372036854775808) (hb : b < 9223372036854775808) : zL a - zL a / zL b * zL b = zL (a % b : Nat) := by
  rw [zdiv ha hb, zL_mul, zL_sub]
  congr 1
  have h := Nat.div_add_mod a b
  have h2 : a / b * b = b * (a / b) := Nat.mul_comm _ _
  rw [← Int.natCast_mul]
  omega
theorem zLlt {a b : Nat} (ha : a < 9223372036854775808) (hb : b < 9223372036854775808) : zL a < zL b ↔ a < b := by rw [zL_lt (by omega) (by omega) (by omega) (by omega)]; omega
theorem zLeq {a b : Nat} (ha : a < 9223372036854775808) (hb : b < 9223372036854775808) : zL a = zL b ↔ a = b := by rw [zL_eq (by omega) (by omega) (by omega) (by omega)]; omega
theorem zLadd (a b : Nat) : zL a + zL b = zL (a + b : Nat) := by rw [zL_add]; rfl
theorem zLmul (a b : Nat) : zL a * zL b = zL (a * b : Nat) := by rw [zL_mul]; rfl
theorem e15 : (1000000000000000 : Int64) = zL (1000000000000000 : Nat) := by decide
theorem e14 : (100000000000000 : Int64) = zL (100000000000000 : Nat) := by decide
theorem e10 : (10 : Int64) = zL (10 : Nat) := by decide
theorem el2 : (2 : Int64) = zL (2 : Nat) := by decide
theorem el1 : (1 : Int64) = zL (1 : Nat) := by decide
theorem el0 : (0 : Int64) = zL (0 : Nat) := by decide
def isW (M : nf_M) (w : Nat) : Prop := mg_L M 9 0 = zL (w / 1000000000000000 : Nat) ∧ mg_L M 9 1 = zL (w % 1000000000000000 : Nat) ∧ w < 1000000000000000000000000000000000
theorem kD_9 (M : nf_M) (k : Nat) (v : Int64) : kD M (ms_L M 9 k v) := by
  refine ⟨fun o h1 h2 => ⟨rfl, ?_, rfl⟩, ⟨rfl, rfl⟩, fun _ _ => rfl⟩
  show (if o = 9 then _ else mg_L M o) = mg_L M o
  rw [if_neg (by omega)]
theorem kD_92 (M : nf_M) (k j : Nat) (v w : Int64) : kD M (ms_L (ms_L M 9 k v) 9 j w) := (kD_9 M k v).tr (kD_9 _ j w)
theorem g90 (M : nf_M) (v w : Int64) : mg_L (ms_L (ms_L M 9 0 v) 9 1 w) 9 0 = v ∧ mg_L (ms_L (ms_L M 9 0 v) 9 1 w) 9 1 = w := ⟨rfl, rfl⟩
theorem g91 (M : nf_M) (v w : Int64) : mg_L (ms_L (ms_L M 9 1 v) 9 0 w) 9 0 = w ∧ mg_L (ms_L (ms_L M 9 1 v) 9 0 w) 9 1 = v := ⟨rfl, rfl⟩
theorem s_W_become {x : Nat} {M : nf_M} {post : Unit → nf_M → Prop} (hx : x < 9223372036854775808) (k : ∀ M', kD M M' → isW M' x → post () M') : P_W_become (zL x) M post := by
  unfold P_W_become
  intro t1 e1 M2 e2 t3 e3 M4 e4
  rw [e15, zmod hx (by omega)] at e3
  rw [e15, zdiv hx (by omega)] at e1
  subst e1 e2 e3 e4
  exact k _ (kD_92 _ _ _ _ _) ⟨rfl, rfl, by omega⟩
theorem s_W_dropDigit {w : Nat} {M : nf_M} {post : Unit → nf_M → Prop} (hw : isW M w) (k : ∀ M', kD M M' → isW M' (w / 10) → post () M') : P_W_dropDigit M post := by
  obtain ⟨h1, h2, h3⟩ := hw
  unfold P_W_dropDigit
  intro t1 e1 M2 e2 t3 e3 M4 e4
  have e5 : mg_L M2 9 0 = mg_L M 9 0 := by rw [e2]; rfl
  rw [h1, h2, e10, e14, zmod (by omega) (by omega), zdiv (by omega) (by omega), zLmul, zLadd] at e1
  rw [e5, h1, e10, zdiv (by omega) (by omega)] at e3
  subst e1 e2 e3 e4
  refine k _ (kD_92 _ _ _ _ _) ⟨?_, ?_, by omega⟩
  · rw [(g91 _ _ _).1]; congr 2; omega
  · rw [(g91 _ _ _).2]; congr 2; omega
theorem s_W_addDigit {w d : Nat} {M : nf_M} {post : Unit → nf_M → Prop} (hw : isW M w) (hd : d < 10) (hs : w < 10000000000000000000000000000000) (k : ∀ M', kD M M' → isW M' (w * 10 + d) → post () M') : P_W_addDigit (zL d) M post := by
  obtain ⟨h1, h2, h3⟩ := hw
  unfold P_W_addDigit
  intro t1 e1 M2 e2 t3 e3 M4 e4
  have e5 : mg_L M2 9 1 = mg_L M 9 1 := by rw [e2]; rfl
  rw [h1, h2, e10, e14, zdiv (by omega) (by omega), zLmul, zLadd] at e1
  rw [e5, h2, e10, e14, zmod (by omega) (by omega), zLmul, zLadd] at e3
  subst e1 e2 e3 e4
  refine k _ (kD_92 _ _ _ _ _) ⟨?_, ?_, by omega⟩
  · rw [(g90 _ _ _).1]; congr 2; omega
  · rw [(g90 _ _ _).2]; congr 2; omega
theorem s_W_increase {w : Nat} {M : nf_M} {post : Unit → nf_M → Prop} (hw : isW M w) (hs : w < 10000000000000000000000000000000) (k : ∀ M', kD M M' → isW M' (w + 1) → post () M') : P_W_increase M post := by
  obtain ⟨h1, h2, h3⟩ := hw
  unfold P_W_increase B_W_increase_36
  intro t1 e1 M2 e2
  rw [h2, el1, zLadd] at e1
  subst e1
  have e5 : mg_L M2 9 1 = zL (w % 1000000000000000 + 1 : Nat) := by rw [e2]; rfl
  have e6 : mg_L M2 9 0 = mg_L M 9 0 := by rw [e2]; rfl
  rw [e5, e15, zLeq (by omega) (by omega)]
  refine ⟨fun z M3 e3 t4 e4 M5 e7 => ?_, fun z => ?_⟩
  · have e8 : mg_L M3 9 0 = mg_L M2 9 0 := by rw [e3]; rfl
    rw [e8, e6, h1, el1, zLadd] at e4
    subst e3 e4 e7
    refine k _ (by rw [e2]; exact (kD_9 _ _ _).tr (kD_92 _ _ _ _ _)) ⟨?_, ?_, by omega⟩
    · rw [(g91 _ _ _).1]; congr 2; omega
    · rw [(g91 _ _ _).2, el0]; congr 2; omega
  · refine k _ (by rw [e2]; exact kD_9 _ _ _) ⟨?_, ?_, by omega⟩
    · rw [e6, h1]; congr 2; omega
    · rw [e5]; congr 2; omega
/-- zeros behind the point are dropped -/
def dz : Nat → Nat → Nat × Nat
  | 0, w => (w, 0)
  | s + 1, w => if w % 10 = 0 then dz s (w / 10) else (w, s + 1)
theorem s_W_dropZeros {M0 : nf_M} {post : Int32 → nf_M → Prop} : ∀ (s w : Nat) (M : nf_M), s < 1000 → isW M w → kD M0 M → (∀ M', kD M0 M' → isW M' (dz s w).1 → post (zI (dz s w).2) M') → B_W_dropZeros_2 post (s + 1) (zI s) M := by
  intro s
  induction s with
  | zero =>
    intro w M hs hw hk k
    unfold B_W_dropZeros_2 B_W_dropZeros_29
    exact ⟨fun z => absurd z (show ¬ (0 : Int32) < zI (0 : Nat) by decide), fun _ => k M hk hw⟩
  | succ s ih =>
    intro w M hs hw hk k
    unfold B_W_dropZeros_2 B_W_dropZeros_29
    have hpos : (0 : Int32) < zI (s + 1 : Nat) := by rw [i32_lt, t0, z_of (by omega)]; omega
    have hm : ((w % 1000000000000000 : Nat) % 10) = w % 10 := by omega
    rw [hw.2.1, e10, zmod (by omega) (by omega), hm, el0, zLeq (by omega) (by omega)]
    unfold dz at k
    refine ⟨fun _ => ⟨fun z => ?_, fun z => ?_⟩, fun z => absurd hpos z⟩
    · refine s_W_dropDigit hw (fun M' hk' hw' => ?_)
      rw [show (-1 : Int32) = zI (-1) by decide, zI_add, show ((s + 1 : Nat) : Int) + (-1) = (s : Nat) by omega]
      rw [if_pos z] at k
      exact ih (w / 10) M' (by omega) hw' (hk.tr hk') k
    · rw [if_neg z] at k
      exact k M hk hw
/-- half even -/
def rup (q r d : Nat) : Prop := d < 2 * r ∨ (2 * r = d ∧ q % 2 = 1)
theorem s_F_isRoundedUp {q r d : Nat} {M : nf_M} {post : Int32 → nf_M → Prop} (hq : q < 9223372036854775808) (hr : 2 * r < 9223372036854775808) (hd : d < 9223372036854775808) (h1 : rup q r d → post 1 M) (h0 : ¬ rup q r d → post 0 M) : P_F_isRoundedUp (zL q) (zL r) (zL d) M post := by
  unfold P_F_isRoundedUp B_F_isRoundedUp_32 B_F_isRoundedUp_36 B_F_isRoundedUp_37
  rw [el2, zLmul, zmod hq (by omega), el0, zLlt hd (by omega), zLeq (by omega) hd, zLeq (by omega) (by omega)]
  unfold rup at h1 h0
  exact ⟨fun z => ⟨rfl, h1 (Or.inl z)⟩, fun z => ⟨fun z2 => ⟨fun z3 => ⟨rfl, h0 (by omega)⟩, fun z3 => ⟨rfl, h1 (Or.inr ⟨z2, by omega⟩)⟩⟩, fun z2 => ⟨rfl, h0 (by omega)⟩⟩⟩
def rnd (w k : Nat) : Nat := if 10 ^ k < 2 * (w % 10 ^ k) ∨ (2 * (w % 10 ^ k) = 10 ^ k ∧ w / 10 ^ k % 2 = 1) then w / 10 ^ k + 1 else w / 10 ^ k
