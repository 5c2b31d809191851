/-! picture: the reference's drawing -/
theorem dz_val : ∀ (s w : Nat), (dz s w).1 * 10 ^ (s - (dz s w).2) = w
  | 0, w => by
    show w * 10 ^ (0 - 0) = w
    rw [Nat.sub_self, Nat.pow_zero, Nat.mul_one]
  | s + 1, w => by
    unfold dz
    by_cases h : w % 10 = 0
    · rw [if_pos h]
      have h1 := dz_val s (w / 10)
      have h2 := (dz_le s (w / 10)).2
      rw [show s + 1 - (dz s (w / 10)).2 = (s - (dz s (w / 10)).2) + 1 by omega, Nat.pow_succ, ← Nat.mul_assoc, h1]
      omega
    · rw [if_neg h]
      show w * 10 ^ (s + 1 - (s + 1)) = w
      rw [Nat.sub_self, Nat.pow_zero, Nat.mul_one]
theorem kQ_txm {M M' : nf_M} (h : kQ M M') {n : Nat} {tx : Nat → Nat} (hr : txM M n tx) : txM M' n tx := by
  unfold txM at *
  rw [h.2.1 1 (by decide), h.2.2 20 (by decide) (by decide)]
  exact hr
theorem kQ_3 (M : nf_M) (v : Int32) : kQ M (ms_I M 19 3 v) := ⟨rfl, fun j hj => by
  show (if j = 3 then v else mg_I M 19 j) = _
  rw [if_neg hj], fun o h1 _ => by
  show (if o = 19 then _ else mg_I M o) = _
  rw [if_neg h1]⟩
theorem s_M_addWhole {v least g : Nat} {L : List Nat} {M : nf_M} {post : Unit → nf_M → Prop} (hv : v < 10000000000000000) (hl : least ≤ 40) (hg : g ≤ 40) (hL : L.length ≤ 200) (ho : oM M L) (k : ∀ M', kQ M M' → oM M' (L ++ wl v g (if nd v < least then least else nd v)) → post () M') : P_M_addWhole (zL v) (zI least) (zI g) M post := by
  have hn16 : nd v ≤ 16 := (nd_le (by omega)).mpr hv
  have h36 : ∀ (d : Nat) (L' : List Nat) (M1 : nf_M), d ≤ 60 → L'.length + 2 * d ≤ 390 → oM M1 L' → kQ M M1 → (∀ M', kQ M M' → oM M' (L' ++ wl v g d) → post () M') → B_M_addWhole_36 post (d + 1) (zL v) (zI g) (zI ((d : Int) - 1)) M1 := by
    intro d
    induction d with
    | zero =>
      intro L' M1 hd hl' w1 hk kk
      unfold B_M_addWhole_36
      exact ⟨fun _ => kk M1 hk (by rw [show wl v g 0 = [] from rfl, List.append_nil]; exact w1), fun q => absurd (show zI ((0 : Nat) - 1) < (0 : Int32) by decide) q⟩
    | succ d ih =>
      intro L' M1 hd hl' w1 hk kk
      have hm := Nat.mod_lt (v / 10 ^ d) (show 0 < 10 by decide)
      have ewl : wl v g (d + 1) = (48 + v / 10 ^ d % 10) :: ((if 0 < g ∧ 0 < d ∧ d % g = 0 then [44] else []) ++ wl v g d) := rfl
      have h67 : ∀ G : Int32, G = zI (v / 10 ^ d % 10 : Nat) → B_M_addWhole_67 (fun x1 x4 x6 z => B_M_addWhole_36 post (d + 1) x1 x4 x6 z) post (zL v) (zI g) (zI d) G (48 : Int32) M1 := by
        intro G eG
        unfold B_M_addWhole_67 B_M_addWhole_95
        rw [eG, ch32 _ hm]
        refine s_M_addL w1 (by omega) (fun M2 k2 w2 => ?_)
        rw [ewl] at kk
        generalize 48 + v / 10 ^ d % 10 = c at *
        have hlen : (L' ++ [c]).length = L'.length + 1 := by rw [List.length_append]; rfl
        rw [show (0 : Int32) = zI (0 : Nat) by decide, zlt (by omega) (by omega), zlt (by omega) (by omega), show (-1 : Int32) = zI (-1) by decide, zI_add, show (d : Int) + -1 = (d : Int) - 1 by omega]
        have no : ¬ (0 < g ∧ 0 < d ∧ d % g = 0) → B_M_addWhole_36 post (d + 1) (zL v) (zI g) (zI ((d : Int) - 1)) M2 := fun q => ih (L' ++ [c]) M2 (by omega) (by omega) w2 (hk.tr k2) (fun M' hk' hw' => kk M' hk' (by
          rw [if_neg q, List.nil_append]
          rw [List.append_assoc] at hw'
          exact hw'))
        refine ⟨fun q => ⟨fun q2 => ?_, fun q2 => no (fun w => q2 w.2.1)⟩, fun q => no (fun w => q w.1)⟩
        rw [zmodI (by omega) (by omega), zeq (by omega) (by omega)]
        have hgm := Nat.mod_lt d q
        rw [zeq (by omega) (by omega)]
        refine ⟨by omega, fun q3 => ?_, fun q3 => no (fun w => q3 w.2.2)⟩
        rw [show (44 : Int32) = zI (44 : Nat) by decide]
        refine s_M_addL w2 (by omega) (fun M3 k3 w3 => ih (L' ++ [c] ++ [44]) M3 (by omega) (by rw [List.length_append, hlen]; simp only [List.length_cons, List.length_nil]; omega) w3 (hk.tr (k2.tr k3)) (fun M' hk' hw' => kk M' hk' (by
          rw [if_pos ⟨q, q2, q3⟩]
          rw [List.append_assoc, List.append_assoc] at hw'
          exact hw')))
      unfold B_M_addWhole_36
      rw [show ((d + 1 : Nat) : Int) - 1 = (d : Int) by omega]
      refine ⟨fun q => absurd q (by rw [i32_lt, t0, z_of (by omega)]; omega), fun _ => ?_⟩
      rw [show (17 : Int32) = zI (17 : Nat) by decide, zlt (by omega) (by omega)]
      refine ⟨fun q => h67 0 ?_, fun q => s_M_power (by omega) ⟨pw_ne (by omega), h67 _ ?_⟩⟩
      · have h17 : 10 ^ 17 ≤ 10 ^ d := pp_le (by omega)
        have e0 : v / 10 ^ d = 0 := Nat.div_eq_of_lt (by omega)
        rw [e0]
        rfl
      · have hpp := pow_lt19 (k := d) (by omega)
        have hdv := Nat.div_le_self v (10 ^ d)
        rw [lN_z, zdiv (by omega) (by generalize 10 ^ d = Q at *; omega), e10, zmod (by omega) (by omega), zLi (by omega)]
  have h28 : ∀ d : Nat, d = (if nd v < least then least else nd v) → B_M_addWhole_28 post (zL v) (zI g) (zI d) M := fun d ed => by
    have hd : d ≤ 60 := by rw [ed]; split <;> omega
    unfold B_M_addWhole_28
    intro t1 e1
    rw [e1i, zI_sub, show (d : Int) - (1 : Nat) = (d : Int) - 1 by omega] at e1
    rw [e1]
    exact ⟨d + 1, h36 d L M hd (by omega) ho (kQ.rf M) (by rw [ed]; exact k)⟩
  have h14 : ∀ d : Nat, d = nd v → B_M_addWhole_14 post (zL v) (zI least) (zI g) (zI d) M := fun d ed => by
    unfold B_M_addWhole_14
    rw [zlt (by omega) (by omega)]
    exact ⟨fun q => h28 _ (by rw [if_pos (by omega)]), fun q => h28 _ (by rw [if_neg (by omega)]; exact ed)⟩
  unfold P_M_addWhole
  rw [show (0 : Int64) = zL (0 : Nat) by decide, zLeq (by omega) (by omega)]
  refine ⟨fun q => ?_, fun q => s_M_width (by omega) hv (h14 _ rfl)⟩
  rw [show (0 : Int32) = zI (0 : Nat) by decide]
  exact h14 0 ((nd_0 (by omega)).mpr q).symm
theorem s_M_draw {n : Nat} {tx : Nat → Nat} {h W a b rA rs U t : Nat} {neg : Bool} {M : nf_M} {post : Unit → nf_M → Prop} (hT : okT n tx) (hx : txM M n tx) (p : PIc n tx h W a b) (hdz : dz rs rA = (U, t)) (hA : rA < 1000000000000000) (hs : rs ≤ 6) (g10 : mg_L M 19 10 = zL (sgd neg rA)) (g11 : mg_I M 19 11 = zI rs) (g17 : mg_I M 19 17 = zI (pcz tx h W)) (g18 : mg_I M 19 18 = zI (pg tx h W)) (k : ∀ M', kQ M M' → oM M' (picL n tx h W a b (neg = true ∧ U ≠ 0) U t) → post () M') : P_M_draw (zI h) (zI (h + W : Nat)) (zI a) (zI b) M post := by
  obtain ⟨p1, p2, p3⟩ := PIc_le p
  have hn := hT.1
  obtain ⟨l1, l2, l3, l4⟩ := pc_le tx h W
  have lg := pg_le tx h W
  have hts : t ≤ rs := by have := (dz_le rs rA).2; rw [hdz] at this; exact this
  have hval : U * 10 ^ (rs - t) = rA := by have := dz_val rs rA; rw [hdz] at this; exact this
  obtain ⟨q1, q2⟩ := pow6 (show t ≤ 6 by omega)
  obtain ⟨q3, q4⟩ := pow6 hs
  have hUA : U ≤ rA := by have := (dz_le rs rA).1; rw [hdz] at this; exact this
  have hq : rA / 10 ^ rs = U / 10 ^ t := by
    rw [← hval, show 10 ^ rs = 10 ^ t * 10 ^ (rs - t) by rw [← Nat.pow_add]; congr 1; omega]
    exact Nat.mul_div_mul_right _ _ (Nat.pow_pos (by decide))
  have hU0 : U ≠ 0 ↔ rA ≠ 0 := by
    constructor
    · intro w; omega
    · intro w e
      rw [e, Nat.zero_mul] at hval
      omega
  have hfd : ∀ j, 1 ≤ j → j ≤ rs → 48 + rA / 10 ^ (rs - j) % 10 = fdg U t j := fun j j1 j2 => by
    unfold fdg
    by_cases c : t < j
    · rw [if_pos c, ← hval, show 10 ^ (rs - t) = 10 ^ (j - t) * 10 ^ (rs - j) by rw [← Nat.pow_add]; congr 1; omega, ← Nat.mul_assoc, Nat.mul_div_cancel _ (Nat.pow_pos (by decide)), show j - t = (j - t - 1) + 1 by omega, Nat.pow_succ, ← Nat.mul_assoc, Nat.mul_mod_left]
    · rw [if_neg c, ← hval, show 10 ^ (rs - j) = 10 ^ (t - j) * 10 ^ (rs - t) by rw [← Nat.pow_add]; congr 1; omega, Nat.mul_div_mul_right _ _ (Nat.pow_pos (by decide))]
  have hd := Nat.div_le_self U (10 ^ t)
  have hcw := cw_le (v := U / 10 ^ t) (z := pcz tx h W) (P := plc (a - (h + W) - 1) t) (by omega)
  obtain ⟨w1, w2⟩ := wl_ok (U / 10 ^ t) (pg tx h W) (cw (U / 10 ^ t) (pcz tx h W) (plc (a - (h + W) - 1) t))
  have hpl : plc (a - (h + W) - 1) t ≤ a - (h + W) + 6 := by unfold plc; split <;> omega
  have hsg : (sgd neg rA).natAbs = rA ∧ (sgd neg rA < 0 ↔ neg = true ∧ U ≠ 0) ∧ -1000000000000000 < sgd neg rA ∧ sgd neg rA < 1000000000000000 := by
    rw [hU0]
    unfold sgd
    cases neg
    · refine ⟨by simp, ⟨fun w => ?_, fun w => absurd w.1 (by decide)⟩, ?_⟩
      · rw [if_neg (by decide)] at w; omega
      · rw [if_neg (by decide)]; omega
    · refine ⟨by simp, ⟨fun w => ⟨rfl, ?_⟩, fun w => ?_⟩, ?_⟩
      · rw [if_pos rfl] at w; omega
      · rw [if_pos rfl]; omega
      · rw [if_pos rfl]; omega
  obtain ⟨s1, s2, s3, s4⟩ := hsg
  unfold picL at k
  generalize hP : plc (a - (h + W) - 1) t = P at *
  generalize hC : cw (U / 10 ^ t) (pcz tx h W) P = C at *
  have x1 : ∀ {M1}, kQ M M1 → txM M1 n tx := fun k1 => kQ_txm k1 hx
  -- the tail
  have h252 : ∀ (d j : Nat) (L : List Nat) (M1 : nf_M), d + j = n → L.length + d ≤ 350 → oM M1 L → kQ M M1 → (∀ M', kQ M M' → oM M' (L ++ seg tx j d) → post () M') → B_M_draw_252 post (d + 1) (zI j) M1 := by
    intro d
    induction d with
    | zero =>
      intro j L M1 hd hl w hk kk
      unfold B_M_draw_252
      rw [(x1 hk).1, zlt (by omega) (by omega)]
      exact ⟨fun q => by omega, fun _ => kk M1 hk (by rw [show seg tx j 0 = [] from rfl, List.append_nil]; exact w)⟩
    | succ d ih =>
      intro j L M1 hd hl w hk kk
      have el : lkc n tx j = tx j := if_pos (by omega)
      unfold B_M_draw_252
      rw [(x1 hk).1, zlt (by omega) (by omega), z_s]
      refine ⟨fun _ => s_M_look hT (x1 hk) (by omega) ?_, fun q => by omega⟩
      rw [el]
      refine s_M_addL w (by omega) (fun M2 k2 w2 => ih (j + 1) (L ++ [tx j]) M2 (by omega) (by rw [List.length_append]; simp only [List.length_cons, List.length_nil]; omega) w2 (hk.tr k2) (fun M' hk' hw' => kk M' hk' ?_))
      rw [List.append_assoc] at hw'
      exact hw'
  -- the fraction
  have h197 : ∀ (d j : Nat) (L : List Nat) (M1 : nf_M), d + j = P + 1 → 1 ≤ j → L.length + d + (n - b) ≤ 350 → oM M1 L → kQ M M1 → (∀ M', kQ M M' → oM M' (L ++ (seg (fdg U t) j d ++ seg tx b (n - b))) → post () M') → B_M_draw_197 post (d + 1) (zI b) (zL rA) (zI P) (zI j) M1 := by
    intro d
    induction d with
    | zero =>
      intro j L M1 hd hj1 hl w hk kk
      unfold B_M_draw_197
      rw [zlt (by omega) (by omega)]
      refine ⟨fun _ => ⟨n - b + 1, h252 (n - b) b L M1 (by omega) (by omega) w hk (fun M' k' w' => kk M' k' ?_)⟩, fun q => absurd (by omega) q⟩
      rw [show seg (fdg U t) j 0 = [] from rfl, List.nil_append]
      exact w'
    | succ d ih =>
      intro j L M1 hd hj1 hl w hk kk
      have nxt : ∀ (c : Nat) (G : Int32), (48 : Int32) + G = zI c → c = fdg U t j → B_M_draw_238 (fun x4 x6 x11 x14 z => B_M_draw_197 post (d + 1) x4 x6 x11 x14 z) post (zI b) (zL rA) (zI P) (zI j) G (48 : Int32) M1 := fun c G eG ec => by
        unfold B_M_draw_238
        rw [eG, z_s]
        refine s_M_addL w (by omega) (fun M2 k2 w2 => ih (j + 1) (L ++ [c]) M2 (by omega) (by omega) (by rw [List.length_append]; simp only [List.length_cons, List.length_nil]; omega) w2 (hk.tr k2) (fun M' k' w' => kk M' k' ?_))
        rw [List.append_assoc, ec] at w'
        exact w'
      unfold B_M_draw_197
      rw [hk.2.1 11 (by decide), g11, zlt (by omega) (by omega), zlt (by omega) (by omega)]
      refine ⟨fun q => by omega, fun _ => ⟨fun q => nxt 48 0 (by decide) (by unfold fdg; rw [if_pos (by omega)]), fun q => ?_⟩⟩
      rw [zI_sub, show (rs : Int) - (j : Int) = ((rs - j : Nat) : Int) by omega]
      have hm := Nat.mod_lt (rA / 10 ^ (rs - j)) (show 0 < 10 by decide)
      have hpp := pow_lt19 (k := rs - j) (by omega)
      have hdv := Nat.div_le_self rA (10 ^ (rs - j))
      refine s_M_power (by omega) ⟨pw_ne (by omega), nxt (48 + rA / 10 ^ (rs - j) % 10) _ ?_ (hfd j hj1 (by omega))⟩
      rw [lN_z, zdiv (by omega) (by generalize 10 ^ (rs - j) = Q at *; omega), e10, zmod (by omega) (by omega), zLi (by omega), ch32 _ hm]
  have h194 : ∀ (L : List Nat) (M1 : nf_M), L.length + P + (n - b) ≤ 350 → oM M1 L → kQ M M1 → (∀ M', kQ M M' → oM M' (L ++ (seg (fdg U t) 1 P ++ seg tx b (n - b))) → post () M') → B_M_draw_194 post (zI b) (zL rA) (zI P) M1 := by
    intro L M1 hl w hk kk
    unfold B_M_draw_194
    exact ⟨P + 1, h197 P 1 L M1 rfl (Nat.le_refl _) hl w hk kk⟩
  have h121 : ∀ (L0 : List Nat) (M1 : nf_M), L0.length ≤ 1 → L0 = (if neg = true ∧ U ≠ 0 then [45] else []) → oM M1 L0 → kQ M M1 → B_M_draw_121 post (zI h) (zI b) (zL rA) (zI P) (zL (U / 10 ^ t : Nat)) M1 := by
    intro L0 M1 hl eL w hk
    rw [← eL] at k
    have h176 : ∀ (least : Nat) (M2 : nf_M), least ≤ 40 → (if nd (U / 10 ^ t) < least then least else nd (U / 10 ^ t)) = C → oM M2 (L0 ++ seg tx 0 h) → kQ M M2 → B_M_draw_176 post (zI b) (zL rA) (zI P) (zI least) (zL (U / 10 ^ t : Nat)) M2 := by
      intro least M2 hle eC w2 k02
      have hl2 : (L0 ++ seg tx 0 h).length = L0.length + h := by rw [List.length_append, seg_len]
      unfold B_M_draw_176
      rw [k02.2.1 18 (by decide), g18]
      refine s_M_addWhole (by omega) hle (by omega) (by omega) w2 (fun M3 k3 w3 => ?_)
      rw [eC] at w3
      have hl3 : (L0 ++ seg tx 0 h ++ wl (U / 10 ^ t) (pg tx h W) C).length ≤ L0.length + h + 2 * C := by rw [List.length_append, hl2]; omega
      rw [show (0 : Int32) = zI (0 : Nat) by decide, zlt (by omega) (by omega), show (46 : Int32) = zI (46 : Nat) by decide]
      refine ⟨fun q => s_M_addL w3 (by omega) (fun M4 k4 w4 => h194 _ M4 ?_ w4 (k02.tr (k3.tr k4)) (fun M' k' w' => k M' k' ?_)), fun q => h194 _ M3 (by omega) w3 (k02.tr k3) (fun M' k' w' => k M' k' ?_)⟩
      · rw [List.length_append]
        simp only [List.length_cons, List.length_nil]
        omega
      · rw [if_pos q]
        simp only [List.append_assoc] at w'
        exact w'
      · rw [if_neg q, List.nil_append]
        simp only [List.append_assoc] at w'
        exact w'
    have h124 : ∀ (d j : Nat) (L : List Nat) (M2 : nf_M), d + j = h → L.length + d ≤ 350 → oM M2 L → kQ M M2 → L ++ seg tx j d = L0 ++ seg tx 0 h → B_M_draw_124 post (d + 1) (zI h) (zI b) (zL rA) (zI P) (zL (U / 10 ^ t : Nat)) (zI j) M2 := by
      intro d
      induction d with
      | zero =>
        intro j L M2 hd hl' w' hk' e
        rw [show seg tx j 0 = [] from rfl, List.append_nil] at e
        rw [e] at w'
        have h0 := nd_0 (v := U / 10 ^ t) (by omega)
        unfold B_M_draw_124 B_M_draw_172
        rw [hk'.2.1 17 (by decide), g17, zlt (by omega) (by omega), show (0 : Int64) = zL (0 : Nat) by decide, zLeq (by omega) (by omega), z0' (by omega), z0' (by omega)]
        have hz : ¬ (U / 10 ^ t = 0 ∧ pcz tx h W = 0 ∧ P = 0) → B_M_draw_176 post (zI b) (zL rA) (zI P) (zI (pcz tx h W)) (zL (U / 10 ^ t : Nat)) M2 := fun q => h176 (pcz tx h W) M2 (by omega) (by
          rw [← hC]
          unfold cw
          exact (if_neg (show ¬ (nd (U / 10 ^ t) = 0 ∧ pcz tx h W = 0 ∧ P = 0) from fun w => q ⟨h0.mp w.1, w.2⟩)).symm) w' hk'
        refine ⟨fun q => by omega, fun _ => ⟨fun q1' => ⟨fun q2' => ⟨fun q3' => ?_, fun q3' => hz (fun w => q3' w.2.2)⟩, fun q2' => hz (fun w => q2' w.2.1)⟩, fun q1' => hz (fun w => q1' w.1)⟩⟩
        rw [show (1 : Int32) = zI (1 : Nat) by decide]
        refine h176 1 M2 (by decide) ?_ w' hk'
        rw [← hC]
        unfold cw
        rw [if_pos (show nd (U / 10 ^ t) < 1 by have := h0.mpr q1'; omega), if_pos (show nd (U / 10 ^ t) = 0 ∧ pcz tx h W = 0 ∧ P = 0 from ⟨h0.mpr q1', q2', q3'⟩)]
      | succ d ih =>
        intro j L M2 hd hl' w' hk' e
        have el : lkc n tx j = tx j := if_pos (by omega)
        unfold B_M_draw_124
        rw [zlt (by omega) (by omega), z_s]
        refine ⟨fun _ => s_M_look hT (x1 hk') (by omega) ?_, fun q => by omega⟩
        rw [el]
        refine s_M_addL w' (by omega) (fun M3 k3 w3 => ih (j + 1) (L ++ [tx j]) M3 (by omega) (by rw [List.length_append]; simp only [List.length_cons, List.length_nil]; omega) w3 (hk'.tr k3) ?_)
        rw [List.append_assoc]
        exact e
    unfold B_M_draw_121
    rw [show (0 : Int32) = zI (0 : Nat) by decide]
    exact ⟨h + 1, h124 h 0 L0 M1 rfl (by omega) w hk rfl⟩
  have h87 : B_M_draw_87 post (zI h) (zI b) (zL rA) (zI P) M := by
    unfold B_M_draw_87
    rw [g11]
    refine s_M_power (by omega) ⟨pw_ne (by omega), fun t4 e4 M5 e5 => ?_⟩
    rw [lN_z, zdiv (by omega) (by omega), hq] at e4
    have k5 : kQ M M5 := by rw [e5]; exact kQ_3 M 0
    have o5 : oM M5 [] := ⟨by rw [e5, ms_199]; rfl, fun i hi => absurd hi (Nat.not_lt_zero _)⟩
    have g5 : mg_L M5 19 10 = zL (sgd neg rA) := by rw [e5]; exact g10
    rw [e4, g5, show (0 : Int64) = zL 0 by decide, zL_lt (by omega) (by omega) (by omega) (by omega), s2, show (45 : Int32) = zI (45 : Nat) by decide]
    exact ⟨fun q => s_M_addL o5 (by decide) (fun M6 k6 o6 => h121 _ M6 (by decide) (by rw [if_pos q]; rfl) o6 (k5.tr k6)), fun q => h121 [] M5 (by decide) (by rw [if_neg q]) o5 k5⟩
  have h43 : ∀ (s w : Nat), s ≤ 6 → dz s w = (U, t) → B_M_draw_43 post (s + 1) (zI h) (zI b) (zI (a - (h + W) - 1 : Nat)) (zL rA) (zL (w % 10 ^ s : Nat)) (zI s) M := by
    intro s
    have h73 : B_M_draw_73 post (zI h) (zI b) (zI (a - (h + W) - 1 : Nat)) (zL rA) (zI t) M := by
      have hP' : (if a - (h + W) - 1 < t then t else a - (h + W) - 1) = P := hP
      unfold B_M_draw_73
      rw [zlt (by omega) (by omega)]
      refine ⟨fun q => ?_, fun q => ?_⟩
      · rw [if_pos q] at hP'
        rw [hP']
        exact h87
      · rw [if_neg q] at hP'
        rw [hP']
        exact h87
    induction s with
    | zero =>
      intro w hs6 hd0
      have et : t = 0 := by
        have := congrArg Prod.snd hd0
        exact this.symm
      rw [et] at h73
      unfold B_M_draw_43
      exact ⟨fun q => absurd q (by decide), fun _ => h73⟩
    | succ s ih =>
      intro w hs6 hd0
      obtain ⟨r1, r2⟩ := pow6 hs6
      have hm := Nat.mod_lt w (show 0 < 10 ^ (s + 1) by omega)
      have e1 : w % 10 ^ (s + 1) % 10 = w % 10 := by
        rw [Nat.pow_succ]
        exact Nat.mod_mul_left_mod w (10 ^ s) 10
      have e2 : w % 10 ^ (s + 1) / 10 = w / 10 % 10 ^ s := by
        rw [Nat.pow_succ, Nat.mul_comm]
        exact Nat.mod_mul_right_div_self w 10 (10 ^ s)
      have hun : dz (s + 1) w = if w % 10 = 0 then dz s (w / 10) else (w, s + 1) := rfl
      rw [hun] at hd0
      unfold B_M_draw_43
      rw [show (0 : Int32) = zI (0 : Nat) by decide, zlt (by omega) (by omega), e10, zmod (by omega) (by omega), e1, show (0 : Int64) = zL (0 : Nat) by decide, zLeq (by omega) (by omega)]
      refine ⟨fun _ => ⟨fun q t1 et1 => ?_, fun q => ?_⟩, fun q => by omega⟩
      · rw [zdiv (by omega) (by decide), e2] at et1
        rw [if_pos q] at hd0
        rw [et1, show (-1 : Int32) = zI (-1) by decide, zI_add, show ((s + 1 : Nat) : Int) + -1 = (s : Int) by omega]
        exact ih (w / 10) (by omega) hd0
      · rw [if_neg q] at hd0
        have et : t = s + 1 := (congrArg Prod.snd hd0).symm
        rw [← et]
        exact h73
  have h14 : B_M_draw_14 post (zI h) (zI b) (zI (a - (h + W) - 1 : Nat)) M := by
    have hmr := Nat.mod_lt rA (show 0 < 10 ^ rs by omega)
    unfold B_M_draw_14
    rw [g10]
    refine s_M_amount (by omega) ?_
    rw [s1, g11]
    refine s_M_power (by omega) ⟨pw_ne (by omega), fun t6 e6 t7 e7 => ?_⟩
    rw [lN_z, zmod (by omega) (by omega)] at e6
    rw [g11] at e7
    rw [e6, e7]
    exact ⟨rs + 1, h43 rs rA hs hdz⟩
  unfold P_M_draw
  rw [zlt (by omega) (by omega), zI_sub, e1i, zI_sub]
  refine ⟨fun q => ?_, fun q => ?_⟩
  · rw [show (a : Int) - ((h + W : Nat) : Int) - (1 : Nat) = ((a - (h + W) - 1 : Nat) : Int) by omega]
    exact h14
  · rw [show (0 : Int32) = zI ((a - (h + W) - 1 : Nat) : Int) by rw [show a - (h + W) - 1 = 0 by omega]; decide]
    exact h14
