/-! picture: what is written; the system's fill -/
def seg (f : Nat → Nat) : Nat → Nat → List Nat
  | _, 0 => []
  | i, r + 1 => f i :: seg f (i + 1) r
theorem seg_len (f : Nat → Nat) : ∀ r i, (seg f i r).length = r
  | 0, _ => rfl
  | r + 1, i => by
    show (seg f (i + 1) r).length + 1 = r + 1
    rw [seg_len f r (i + 1)]
theorem seg_le {f : Nat → Nat} : ∀ r i, (∀ j, i ≤ j → j < i + r → f j ≤ 126) → ∀ c ∈ seg f i r, c ≤ 126
  | 0, _, _ => nil_le
  | r + 1, i, h => cons_le (h i (Nat.le_refl _) (by omega)) (seg_le r (i + 1) (fun j a b => h j (by omega) (by omega)))
theorem seg_ext {f g : Nat → Nat} : ∀ r i, (∀ j, i ≤ j → j < i + r → f j = g j) → seg f i r = seg g i r
  | 0, _, _ => rfl
  | r + 1, i, h => by
    show f i :: seg f (i + 1) r = g i :: seg g (i + 1) r
    rw [h i (Nat.le_refl _) (by omega), seg_ext r (i + 1) (fun j a b => h j (by omega) (by omega))]
/-- the whole part: k digits of v, a comma in each place that is a multiple of g -/
def wl (v g : Nat) : Nat → List Nat
  | 0 => []
  | k + 1 => (48 + v / 10 ^ k % 10) :: ((if 0 < g ∧ 0 < k ∧ k % g = 0 then [44] else []) ++ wl v g k)
theorem wl_ok (v g : Nat) : ∀ k, (wl v g k).length ≤ 2 * k ∧ ∀ c ∈ wl v g k, c ≤ 126
  | 0 => ⟨Nat.le_refl _, nil_le⟩
  | k + 1 => by
    obtain ⟨a, b⟩ := wl_ok v g k
    have hm := Nat.mod_lt (v / 10 ^ k) (show 0 < 10 by decide)
    unfold wl
    refine ⟨?_, cons_le (by omega) (app_le ?_ b)⟩
    · rw [List.length_cons, List.length_append]
      split
      · simp only [List.length_cons, List.length_nil]; omega
      · simp only [List.length_nil]; omega
    · split
      · exact one_le (by decide)
      · exact nil_le
def cw (v z P : Nat) : Nat := if nd v = 0 ∧ z = 0 ∧ P = 0 then 1 else if nd v < z then z else nd v
def fdg (U t j : Nat) : Nat := if t < j then 48 else 48 + U / 10 ^ (t - j) % 10
def plc (fz t : Nat) : Nat := if fz < t then t else fz
def picL (n : Nat) (tx : Nat → Nat) (h W a b : Nat) (ng : Prop) [Decidable ng] (U t : Nat) : List Nat :=
  (if ng then [45] else []) ++ (seg tx 0 h ++ (wl (U / 10 ^ t) (pg tx h W) (cw (U / 10 ^ t) (pcz tx h W) (plc (a - (h + W) - 1) t)) ++ ((if 0 < plc (a - (h + W) - 1) t then [46] else []) ++ (seg (fdg U t) 1 (plc (a - (h + W) - 1) t) ++ seg tx b (n - b)))))
theorem kR_row {M M' : nf_M} (k : kR true M M') {n : Nat} {tx : Nat → Nat} (hr : rowF M false n tx) : rowF M' false n tx := kR.row (b := true) k hr
theorem kR_7 {M M' : nf_M} (k : kR true M M') (j : Nat) : mg_I M' 7 j = mg_I M 7 j := by
  unfold mg_I
  rw [k.1]
theorem s_R_addPart {n i e : Nat} {tx : Nat → Nat} {L : List Nat} {M : nf_M} {post : Unit → nf_M → Prop} (hT : okT n tx) (hr : rowF M false n tx) (hi : i ≤ e) (he : e ≤ n) (hw : wF M L) (hL : L.length + (e - i) ≤ 128) (k : ∀ M', kR true M M' → wF M' (L ++ seg tx i (e - i)) → post () M') : P_R_addPart true false (zI i) (zI e) M post := by
  have hn := hT.1
  have h3 : ∀ (d j : Nat) (L' : List Nat) (M1 : nf_M), d + j = e → L'.length + d ≤ 128 → wF M1 L' → kR true M M1 → (∀ M', kR true M M' → wF M' (L' ++ seg tx j d) → post () M') → B_R_addPart_3 post (d + 1) true false (zI e) (zI j) M1 := by
    intro d
    induction d with
    | zero =>
      intro j L' M1 hd hl w1 hk kk
      unfold B_R_addPart_3
      rw [zlt (by omega) (by omega)]
      exact ⟨fun q => by omega, fun _ => kk M1 hk (by rw [show seg tx j 0 = [] from rfl, List.append_nil]; exact w1)⟩
    | succ d ih =>
      intro j L' M1 hd hl w1 hk kk
      have hc := hT.2 j (by omega)
      unfold B_R_addPart_3
      rw [zlt (by omega) (by omega), z_s]
      refine ⟨fun _ => s_at hT (kR_row hk hr) (by omega) (s_R_addL w1 (by omega) (by omega) (fun M2 k2 w2 => ih (j + 1) (L' ++ [tx j]) M2 (by omega) (by rw [List.length_append]; simp only [List.length_cons, List.length_nil]; omega) w2 (hk.tr k2) (fun M' hk' hw' => kk M' hk' ?_))), fun q => by omega⟩
      rw [List.append_assoc] at hw'
      exact hw'
  exact ⟨e - i + 1, h3 (e - i) i L M (by omega) hL hw (kR.rf true M) k⟩
theorem s_P_fillWhole {v z g P : Nat} {x3 : Int32} {L : List Nat} {M : nf_M} {post : Unit → nf_M → Prop} (hv : v < 10000000000000000) (hz : z ≤ 40) (hg : g ≤ 40) (f3 : mg_I M 7 3 = zI z) (f4 : mg_I M 7 4 = zI g) (hx : x3 = 0 ↔ P ≠ 0) (hw : wF M L) (hL : L.length + 2 * cw v z P ≤ 128) (k : ∀ M', kR true M M' → wF M' (L ++ wl v g (cw v z P)) → post () M') : P_P_fillWhole (zL v) x3 true M post := by
  have h41 : ∀ (d : Nat) (L' : List Nat) (M1 : nf_M), L'.length + 2 * d ≤ 128 → wF M1 L' → kR true M M1 → (∀ M', kR true M M' → wF M' (L' ++ wl v g d) → post () M') → B_P_fillWhole_41 post (d + 1) (zL v) true (zI ((d : Int) - 1)) M1 := by
    intro d
    induction d with
    | zero =>
      intro L' M1 hl w1 hk kk
      unfold B_P_fillWhole_41
      exact ⟨fun _ => kk M1 hk (by rw [show wl v g 0 = [] from rfl, List.append_nil]; exact w1), fun q => absurd (show zI ((0 : Nat) - 1) < (0 : Int32) by decide) q⟩
    | succ d ih =>
      intro L' M1 hl w1 hk kk
      have hm := Nat.mod_lt (v / 10 ^ d) (show 0 < 10 by decide)
      unfold B_P_fillWhole_41 B_P_fillWhole_86
      rw [show ((d + 1 : Nat) : Int) - 1 = (d : Int) by omega]
      refine ⟨fun q => absurd q (by rw [i32_lt, t0, z_of (by omega)]; omega), fun _ => s_F_digitAt hv (by omega) (s_R_addL w1 (by omega) (by omega) (fun M2 k2 w2 => ?_))⟩
      have ewl : wl v g (d + 1) = (48 + v / 10 ^ d % 10) :: ((if 0 < g ∧ 0 < d ∧ d % g = 0 then [44] else []) ++ wl v g d) := rfl
      rw [ewl] at kk
      generalize 48 + v / 10 ^ d % 10 = c at *
      have hlen : (L' ++ [c]).length = L'.length + 1 := by rw [List.length_append]; rfl
      rw [kR_7 (hk.tr k2) 4, f4, show (0 : Int32) = zI (0 : Nat) by decide, zlt (by omega) (by omega), zlt (by omega) (by omega), show (-1 : Int32) = zI (-1) by decide, zI_add, show (d : Int) + -1 = (d : Int) - 1 by omega]
      have no : ¬ (0 < g ∧ 0 < d ∧ d % g = 0) → B_P_fillWhole_41 post (d + 1) (zL v) true (zI ((d : Int) - 1)) M2 := fun q => ih (L' ++ [c]) M2 (by omega) w2 (hk.tr k2) (fun M' hk' hw' => kk M' hk' (by
        rw [if_neg q, List.nil_append]
        rw [List.append_assoc] at hw'
        exact hw'))
      refine ⟨fun q => ⟨fun q2 => ?_, fun q2 => no (fun w => q2 w.2.1)⟩, fun q => no (fun w => q w.1)⟩
      rw [zmodI (by omega) (by omega), zeq (by omega) (by omega)]
      have hgm := Nat.mod_lt d q
      rw [zeq (by omega) (by omega)]
      refine ⟨by omega, fun q3 => ?_, fun q3 => no (fun w => q3 w.2.2)⟩
      rw [show (44 : Int32) = zI (44 : Nat) by decide]
      refine s_R_addL w2 (by omega) (by decide) (fun M3 k3 w3 => ih (L' ++ [c] ++ [44]) M3 (by rw [List.length_append, hlen]; simp only [List.length_cons, List.length_nil]; omega) w3 (hk.tr (k2.tr k3)) (fun M' hk' hw' => kk M' hk' (by
        rw [if_pos ⟨q, q2, q3⟩]
        rw [List.append_assoc, List.append_assoc] at hw'
        exact hw')))
  have h35 : ∀ d : Nat, d = cw v z P → B_P_fillWhole_35 post (zL v) true (zI d) M := fun d ed => by
    unfold B_P_fillWhole_35
    intro t1 e1
    rw [e1i, zI_sub] at e1
    rw [e1, show (d : Int) - (1 : Nat) = (d : Int) - 1 by omega]
    exact ⟨d + 1, h41 d L M (by omega) hw (kR.rf true M) (by rw [ed]; exact k)⟩
  have hn16 : nd v ≤ 16 := (nd_le (by omega)).mpr hv
  have h14 : ∀ d : Nat, d = nd v → B_P_fillWhole_14 post (zL v) x3 true (zI d) M := fun d ed => by
    unfold B_P_fillWhole_14
    rw [f3]
    refine s_JM_max (by omega) (by omega) ?_
    have hcw : ∀ e : Nat, e = (if d < z then z else d) → ¬ (e = 0 ∧ P = 0) → e = cw v z P := fun e ee hne => by
      unfold cw
      rw [← ed]
      by_cases c : d = 0 ∧ z = 0 ∧ P = 0
      · exfalso
        rw [if_neg (by omega)] at ee
        omega
      · rw [if_neg c]; exact ee
    have hlt : (if d < z then z else d) < 1000 := by split <;> omega
    rw [z0' (by omega)]
    refine ⟨fun q => ⟨fun q2 => h35 _ (hcw _ rfl (fun w => (hx.mp q2) w.2)), fun q2 => ?_⟩, fun q => h35 _ (hcw _ rfl (fun w => q w.1))⟩
    rw [show (1 : Int32) = zI (1 : Nat) by decide]
    refine h35 1 ?_
    unfold cw
    have hP : P = 0 := Classical.byContradiction fun w => q2 (hx.mpr w)
    rw [← ed, if_pos ⟨by split at q <;> omega, by split at q <;> omega, hP⟩]
  unfold P_P_fillWhole
  rw [show (0 : Int64) = zL (0 : Nat) by decide, zLeq (by omega) (by omega)]
  refine ⟨fun q => ?_, fun q => s_F_digitCount hv ?_⟩
  · rw [show (0 : Int32) = zI (0 : Nat) by decide]
    exact h14 0 ((nd_0 (by omega)).mpr q).symm
  · have := (nd_0 (v := v) (by omega))
    rw [if_neg (by omega)]
    exact h14 _ rfl
