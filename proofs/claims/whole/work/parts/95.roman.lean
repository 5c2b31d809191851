/-! Roman numerals -/
def rch (b : Bool) (c : Nat) : Nat := if b then c - 32 else c
def ltc (p : Nat) : Nat := [109, 32, 99, 109, 100, 32, 99, 100, 99, 32, 120, 99, 108, 32, 120, 108, 120, 32, 105, 120, 118, 32, 105, 118, 105, 32].getD p 0
def lts (b : Bool) (p : Nat) : List Nat := if ltc p = 32 then [] else [rch b (ltc p)]
theorem lts_b : ∀ b : Bool, ∀ p, p < 26 → (lts b p).length ≤ 1 ∧ (∀ c ∈ lts b p, c ≤ 126) ∧ nf_ch 4 p = zI (ltc p) ∧ ltc p < 127 ∧ (¬ ltc p = 32 → 65 ≤ ltc p - 32 ∧ ((((zI (ltc p) - (97 : Int32)) + (65 : Int32)).toUInt32 % 65536).toInt32) = zI (ltc p - 32 : Nat)) := by decide
theorem s_F_addRomanLetter {b : Bool} {p : Nat} {x2 : Int32} {L : List Nat} {M : nf_M} {post : Unit → nf_M → Prop} (hp : p < 26) (hb : x2 = 0 ↔ b = false) (hw : wF M L) (hL : L.length < 128) (k : ∀ M', kR true M M' → wF M' (L ++ lts b p) → post () M') : P_F_addRomanLetter (zI p) x2 M post := by
  obtain ⟨l1, l2, l3, l4, l5⟩ := lts_b b p hp
  unfold P_F_addRomanLetter P_JS_length P_JS_charAt B_F_addRomanLetter_22 B_F_addRomanLetter_49 B_F_addRomanLetter_52
  have e26 : nI (nf_lln.getD (4 : Fin 5).val 0) = zI (26 : Nat) := by decide
  dsimp only
  rw [e26, zlt (by omega) (by omega), z_cl (by omega)]
  refine ⟨fun _ => ⟨z_in (show p < nf_lln.getD (4 : Fin 5).val 0 from hp) (by decide), ?_⟩, fun q => absurd hp q⟩
  have e4 : nf_ch (4 : Fin 5).val p = zI (ltc p) := l3
  rw [e4, show (32 : Int32) = zI (32 : Nat) by decide, zeq (by omega) (by omega), hb]
  unfold lts at k
  refine ⟨fun z => k M (kR.rf true M) (by rw [if_pos z, List.append_nil]; exact hw), fun z => ⟨fun q => ?_, fun q => ?_⟩⟩
  · rw [if_neg z, q] at k
    exact s_R_addL hw hL (by omega) (fun M' hk hw' => k M' hk hw')
  · rw [(l5 z).2]
    have hq : b = true := by cases b; exact absurd rfl q; rfl
    rw [if_neg z, hq] at k
    exact s_R_addL hw hL (by omega) (fun M' hk hw' => k M' hk hw')
def rV (i : Nat) : Nat := [1000, 900, 500, 400, 100, 90, 50, 40, 10, 9, 5, 4, 1].getD i 0
theorem rV_ok : ∀ i, i < 13 → (nf_ROM.getD i 0).toInt64 = zL (rV i) ∧ rV i < 2000 := by decide
def rIn (b : Bool) (i : Nat) : Nat → Nat → List Nat × Nat
  | 0, v => ([], v)
  | k + 1, v => if v < rV i then ([], v) else (lts b (2 * i) ++ (lts b (2 * i + 1) ++ (rIn b i k (v - rV i)).1), (rIn b i k (v - rV i)).2)
def rOut (b : Bool) : Nat → Nat → Nat → List Nat
  | 0, _, _ => []
  | r + 1, i, v => (rIn b i 3 v).1 ++ rOut b r (i + 1) (rIn b i 3 v).2
theorem rIn_len (b : Bool) (i : Nat) (hi : i < 13) : ∀ k v, (rIn b i k v).1.length ≤ 2 * k ∧ (rIn b i k v).2 ≤ v
  | 0, v => ⟨Nat.zero_le _, Nat.le_refl _⟩
  | k + 1, v => by
    have h := rIn_len b i hi k (v - rV i)
    have l1 := (lts_b b (2 * i) (by omega)).1
    have l2 := (lts_b b (2 * i + 1) (by omega)).1
    unfold rIn
    split
    · exact ⟨Nat.zero_le _, Nat.le_refl _⟩
    · refine ⟨?_, ?_⟩
      · rw [List.length_append, List.length_append]; omega
      · show (rIn b i k (v - rV i)).2 ≤ v
        omega
theorem s_F_rom25 {b : Bool} {x3 : Int32} {i : Nat} {M0 : nf_M} {k13 : Int32 → Int64 → Int32 → nf_M → Prop} {post : Unit → nf_M → Prop} (hi : i < 13) (hb : x3 = 0 ↔ b = false) : ∀ (k v : Nat) (L : List Nat) (M : nf_M), k ≤ 3 → v < 4000 → L.length + 2 * k ≤ 128 → wF M L → kR true M0 M → (∀ M', kR true M0 M' → wF M' (L ++ (rIn b i k v).1) → k13 x3 (zL (rIn b i k v).2) (zI (i + 1 : Nat)) M') → B_F_writeRoman_25 k13 post (k + 1) x3 (zL v) (zI i) (zI (3 - k : Nat)) M := by
  obtain ⟨r1, r2⟩ := rV_ok i hi
  intro k
  induction k with
  | zero =>
    intro v L M hk hv hL hw hkr kk
    unfold B_F_writeRoman_25 B_F_writeRoman_82
    rw [show (3 : Int32) = zI (3 : Nat) by decide, zlt (by omega) (by omega), z_s]
    exact ⟨fun q => absurd q (by omega), fun _ => kk M hkr (by rw [show (rIn b i 0 v).1 = [] from rfl, List.append_nil]; exact hw)⟩
  | succ k ih =>
    intro v L M hk hv hL hw hkr kk
    unfold B_F_writeRoman_25 B_F_writeRoman_82
    rw [show (3 : Int32) = zI (3 : Nat) by decide, zlt (by omega) (by omega), z_cl (by omega), r1, zLlt (by omega) (by omega), z_s]
    unfold rIn at kk
    refine ⟨fun _ => ⟨z_in hi (by decide), fun z => kk M hkr (by rw [if_pos z, List.append_nil]; exact hw) |> fun h => ?_, fun z => ?_⟩, fun q => absurd (show 3 - (k + 1) < 3 by omega) q⟩
    · rw [if_pos z] at h
      exact h
    · rw [if_neg z] at kk
      rw [show (2 : Int32) = zI (2 : Nat) by decide, zI_mul, show ((2 : Nat) : Int) * (i : Int) = ((2 * i : Nat) : Int) by omega, z_s]
      have l1 := (lts_b b (2 * i) (by omega)).1
      have l2 := (lts_b b (2 * i + 1) (by omega)).1
      refine s_F_addRomanLetter (by omega) hb hw (by omega) (fun M1 k1 w1 => s_F_addRomanLetter (by omega) hb w1 (by rw [List.length_append]; omega) (fun M2 k2 w2 => ⟨z_in hi (by decide), fun t7 e7 => ?_⟩))
      rw [zL_sub, show (v : Int) - (rV i : Int) = ((v - rV i : Nat) : Int) by omega] at e7
      rw [e7, z_s, show 3 - (k + 1) + 1 = 3 - k by omega]
      refine ih (v - rV i) (L ++ lts b (2 * i) ++ lts b (2 * i + 1)) M2 (by omega) (by omega) (by rw [List.length_append, List.length_append]; omega) w2 (hkr.tr (k1.tr k2)) (fun M' hk' hw' => kk M' hk' ?_)
      rw [List.append_assoc, List.append_assoc] at hw'
      exact hw'
theorem s_F_rom13 {b : Bool} {x3 : Int32} {M0 : nf_M} {post : Unit → nf_M → Prop} (hb : x3 = 0 ↔ b = false) : ∀ (r i v : Nat) (L : List Nat) (M : nf_M), r + i = 13 → v < 4000 → L.length + 6 * r ≤ 100 → wF M L → kR true M0 M → (∀ M', kR true M0 M' → wF M' (L ++ rOut b r i v) → post () M') → B_F_writeRoman_13 post (r + 1) x3 (zL v) (zI i) M := by
  intro r
  induction r with
  | zero =>
    intro i v L M hr hv hL hw hk kk
    unfold B_F_writeRoman_13
    rw [show (13 : Int32) = zI (13 : Nat) by decide, zlt (by omega) (by omega)]
    exact ⟨fun q => by omega, fun _ => kk M hk (by rw [show rOut b 0 i v = [] from rfl, List.append_nil]; exact hw)⟩
  | succ r ih =>
    intro i v L M hr hv hL hw hk kk
    have hl := rIn_len b i (by omega) 3 v
    unfold B_F_writeRoman_13
    rw [show (13 : Int32) = zI (13 : Nat) by decide, zlt (by omega) (by omega)]
    refine ⟨fun _ => ⟨4, s_F_rom25 (M0 := M0) (by omega) hb 3 v L M (by decide) hv (by omega) hw hk (fun M' hk' hw' => ih (i + 1) _ _ M' (by omega) (by omega) (by rw [List.length_append]; omega) hw' hk' (fun M2 hk2 hw2 => kk M2 hk2 ?_))⟩, fun q => by omega⟩
    rw [List.append_assoc] at hw2
    exact hw2
/-- the reference's way -/
def rm (b : Bool) (i : Nat) : Nat := rch b ([105, 118, 120, 108, 99, 100, 109].getD i 0)
def mD (b : Bool) (k x : Nat) : List Nat := if x = 9 then [rm b (2 * k), rm b (2 * k + 2)] else if x = 4 then [rm b (2 * k), rm b (2 * k + 1)] else (if 4 < x then [rm b (2 * k + 1)] else []) ++ List.replicate (x % 5) (rm b (2 * k))
def mOut (b : Bool) (v : Nat) : Nat → List Nat
  | 0 => []
  | k + 1 => mD b k (v / 10 ^ k % 10) ++ mOut b v k
theorem rm_ok : ∀ b : Bool, ∀ i : Nat, i < 7 → (((30791150645835369 : Int64) >>> (((8 : Int32) * zI (i : Int)).toInt64 &&& 63)).toInt32) &&& (255 : Int32) = zI ([105, 118, 120, 108, 99, 100, 109].getD i 0 : Nat) ∧ zI ([105, 118, 120, 108, 99, 100, 109].getD i 0 : Nat) - (32 : Int32) = zI ([105, 118, 120, 108, 99, 100, 109].getD i 0 - 32 : Nat) ∧ rm b i ≤ 126 := by decide
theorem s_M_roman {b : Bool} {i : Nat} {x2 : Int32} {M : nf_M} {post : Int32 → nf_M → Prop} (hi : i < 7) (hb : x2 = 0 ↔ b = false) (k : post (zI (rm b i)) M) : P_M_roman (zI i) x2 M post := by
  obtain ⟨a1, a2, a3⟩ := rm_ok b i hi
  unfold P_M_roman B_M_roman_26
  intro t1 e1
  rw [e1, a1, hb]
  unfold rm rch at k
  refine ⟨fun q => ?_, fun q => ?_⟩
  · rw [q] at k
    exact k
  · have hq : b = true := by cases b; exact absurd rfl q; rfl
    rw [hq] at k
    rw [a2]
    exact k
def r4 (b : Bool) (i v : Nat) : List Nat × Nat :=
  ((rIn b i 3 v).1 ++ ((rIn b (i + 1) 3 (rIn b i 3 v).2).1 ++ ((rIn b (i + 2) 3 (rIn b (i + 1) 3 (rIn b i 3 v).2).2).1 ++ (rIn b (i + 3) 3 (rIn b (i + 2) 3 (rIn b (i + 1) 3 (rIn b i 3 v).2).2).2).1)), (rIn b (i + 3) 3 (rIn b (i + 2) 3 (rIn b (i + 1) 3 (rIn b i 3 v).2).2).2).2)
theorem r4_1 : ∀ b : Bool, ∀ w, w < 10 → r4 b 9 w = (mD b 0 w, 0) := by decide +kernel
theorem r4_2 : ∀ b : Bool, ∀ w, w < 100 → r4 b 5 w = (mD b 1 (w / 10), w % 10) := by decide +kernel
