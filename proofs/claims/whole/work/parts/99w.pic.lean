/-! picture: the system's fill -/
theorem PIc_le {n : Nat} {tx : Nat → Nat} {h W a b : Nat} (p : PIc n tx h W a b) : h + W ≤ a ∧ a ≤ b ∧ b ≤ n := by
  obtain ⟨p1, p2, p3⟩ := p
  have := p2.1
  rcases p3 with ⟨f1, f2, f3, f4⟩ | ⟨f1, f2, f3⟩
  · have h1 := f3.1
    have h2 := f4.1
    have h3 := f4.2.1
    omega
  · omega
theorem pg_le (tx : Nat → Nat) (h W : Nat) : pg tx h W ≤ W := by
  obtain ⟨l1, l2, l3, l4⟩ := pc_le tx h W
  unfold pg
  split <;> omega
theorem cw_le {v z P : Nat} (hv : v < 10000000000000000) : cw v z P ≤ 16 + z := by
  have hn16 : nd v ≤ 16 := (nd_le (by omega)).mpr hv
  unfold cw
  split
  · omega
  · split <;> omega
theorem picL_ok {n : Nat} {tx : Nat → Nat} {h W a b U t : Nat} {ng : Prop} [Decidable ng] (hT : okT n tx) (p : PIc n tx h W a b) (hU : U < 10000000000000000) (ht : t ≤ 6) : (picL n tx h W a b ng U t).length ≤ 128 ∧ ∀ c ∈ picL n tx h W a b ng U t, c ≤ 126 := by
  obtain ⟨p1, p2, p3⟩ := PIc_le p
  have hn := hT.1
  obtain ⟨l1, l2, l3, l4⟩ := pc_le tx h W
  have hd := Nat.div_le_self U (10 ^ t)
  have hcw := cw_le (v := U / 10 ^ t) (z := pcz tx h W) (P := plc (a - (h + W) - 1) t) (by omega)
  obtain ⟨w1, w2⟩ := wl_ok (U / 10 ^ t) (pg tx h W) (cw (U / 10 ^ t) (pcz tx h W) (plc (a - (h + W) - 1) t))
  have hpl : plc (a - (h + W) - 1) t ≤ a - (h + W) + 6 := by unfold plc; split <;> omega
  unfold picL
  constructor
  · rw [List.length_append, List.length_append, List.length_append, List.length_append, List.length_append, seg_len, seg_len, seg_len]
    have h1 : (if ng then [45] else [] : List Nat).length ≤ 1 := by split <;> simp
    have h2 : (if 0 < plc (a - (h + W) - 1) t then [46] else [] : List Nat).length ≤ 1 := by split <;> simp
    omega
  · refine app_le (by split; exact one_le (by decide); exact nil_le) (app_le (seg_le _ _ (fun j a b => ?_)) (app_le w2 (app_le (by split; exact one_le (by decide); exact nil_le) (app_le (seg_le _ _ (fun j a b => ?_)) (seg_le _ _ (fun j a b => ?_))))))
    · have := hT.2 j (by omega); omega
    · have := Nat.mod_lt (U / 10 ^ (t - j)) (show 0 < 10 by decide)
      unfold fdg
      split <;> omega
    · have := hT.2 j (by omega); omega
theorem s_P_fill {n : Nat} {tx : Nat → Nat} {h W a b U t : Nat} {neg : Bool} {M : nf_M} {post : Unit → nf_M → Prop} (hT : okT n tx) (hr : rowF M false n tx) (p : PIc n tx h W a b) (hU : U < 1000000000000000) (ht : t ≤ 6) (f : PFd n tx h W a b M) (gU : mg_U M 0 = zL (sgd neg U)) (gS : mg_S M 0 = zI t) (k : ∀ M', kR true M M' → wF M' (picL n tx h W a b (neg = true ∧ U ≠ 0) U t) → post () M') : P_P_fill false (0 : Fin 9) true M post := by
  obtain ⟨p1, p2, p3⟩ := PIc_le p
  have hn := hT.1
  obtain ⟨f0, f1, f3, f4, f5, -, -⟩ := f
  obtain ⟨l1, l2, l3, l4⟩ := pc_le tx h W
  have lg := pg_le tx h W
  obtain ⟨q1, q2⟩ := pow6 ht
  have hd := Nat.div_le_self U (10 ^ t)
  have hcw := cw_le (v := U / 10 ^ t) (z := pcz tx h W) (P := plc (a - (h + W) - 1) t) (by omega)
  obtain ⟨w1, w2⟩ := wl_ok (U / 10 ^ t) (pg tx h W) (cw (U / 10 ^ t) (pcz tx h W) (plc (a - (h + W) - 1) t))
  have hpl : plc (a - (h + W) - 1) t ≤ a - (h + W) + 6 := by unfold plc; split <;> omega
  have hU' : ∀ M1, kR true M M1 → mg_U M1 0 = zL (sgd neg U) ∧ mg_S M1 0 = zI t := fun M1 k1 => by
    obtain ⟨-, -, -, -, b, c, -⟩ := k1
    rw [b, c]
    exact ⟨gU, gS⟩
  have hs : (sgd neg U).natAbs = U ∧ (sgd neg U < 0 ↔ neg = true ∧ U ≠ 0) ∧ -1000000000000000 < sgd neg U ∧ sgd neg U < 1000000000000000 := by
    unfold sgd
    cases neg
    · refine ⟨by simp, ⟨fun w => ?_, fun w => absurd w.1 (by decide)⟩, ?_⟩
      · rw [if_neg (by decide)] at w; omega
      · rw [if_neg (by decide)]; omega
    · refine ⟨by simp, ⟨fun w => ⟨rfl, ?_⟩, fun w => ?_⟩, ?_⟩
      · rw [if_pos rfl] at w; omega
      · rw [if_pos rfl]; omega
      · rw [if_pos rfl]; omega
  obtain ⟨s1, s2, s3, s4⟩ := hs
  unfold picL at k
  have efz : ∀ fz : Nat, fz = a - (h + W) - 1 → fz ≤ 40 := fun fz e => by omega
  generalize hP : plc (a - (h + W) - 1) t = P at *
  generalize hC : cw (U / 10 ^ t) (pcz tx h W) P = C at *
  -- the fraction and the tail
  have h97 : ∀ (d j : Nat) (L : List Nat) (M1 : nf_M), d + j = P + 1 → L.length + d + (n - b) ≤ 128 → wF M1 L → kR true M M1 → (∀ M', kR true M M' → wF M' (L ++ (seg (fdg U t) j d ++ seg tx b (n - b))) → post () M') → B_P_fill_97 post (d + 1) false (0 : Fin 9) true (zL U) (zI P) (zI ((t : Int) - j)) M1 := by
    intro d
    induction d with
    | zero =>
      intro j L M1 hd hl w hk kk
      unfold B_P_fill_97
      rw [(hU' M1 hk).2, zI_sub, zI_lt (by omega) (by omega) (by omega) (by omega), kR_7 hk 1, f1, (kR_row hk hr).1]
      refine ⟨fun _ => s_R_addPart hT (kR_row hk hr) p3 (Nat.le_refl _) w (by omega) (fun M' k' w' => kk M' (hk.tr k') ?_), fun q => absurd (by omega) q⟩
      rw [show seg (fdg U t) j 0 = [] from rfl, List.nil_append]
      exact w'
    | succ d ih =>
      intro j L M1 hd hl w hk kk
      have nxt : ∀ c : Nat, c = fdg U t j → c ≤ 126 → B_P_fill_127 (fun b1 v2 b3 x4 x6 x7 z => B_P_fill_97 post (d + 1) b1 v2 b3 x4 x6 x7 z) post false (0 : Fin 9) true (zL U) (zI P) (zI ((t : Int) - j)) (zI c) true M1 := fun c ec hc => by
        unfold B_P_fill_127
        refine s_R_addL w (by omega) (by omega) (fun M2 k2 w2 => ?_)
        rw [show (-1 : Int32) = zI (-1) by decide, zI_add, show (t : Int) - (j : Int) + -1 = (t : Int) - ((j + 1 : Nat) : Int) by omega]
        refine ih (j + 1) (L ++ [c]) M2 (by omega) (by rw [List.length_append]; simp only [List.length_cons, List.length_nil]; omega) w2 (hk.tr k2) (fun M' k' w' => kk M' k' ?_)
        rw [List.append_assoc, ec] at w'
        exact w'
      unfold B_P_fill_97
      rw [(hU' M1 hk).2, zI_sub, zI_lt (by omega) (by omega) (by omega) (by omega), show (0 : Int32) = zI 0 by decide, zI_lt (by omega) (by omega) (by omega) (by omega)]
      refine ⟨fun q => by omega, fun _ => ⟨fun q => ?_, fun q => ?_⟩⟩
      · rw [show (48 : Int32) = zI (48 : Nat) by decide]
        exact nxt 48 (by unfold fdg; rw [if_pos (by omega)]) (by decide)
      · have ek : zI ((t : Int) - (j : Int)) = zI ((t - j : Nat) : Int) := by congr 1; omega
        rw [ek] at nxt ⊢
        have hm := Nat.mod_lt (U / 10 ^ (t - j)) (show 0 < 10 by decide)
        exact s_F_digitAt (by omega) (by omega) (nxt _ (by unfold fdg; rw [if_neg (by omega)]) (by omega))
  have h89 : ∀ (L : List Nat) (M1 : nf_M), L.length + P + (n - b) ≤ 128 → wF M1 L → kR true M M1 → (∀ M', kR true M M' → wF M' (L ++ (seg (fdg U t) 1 P ++ seg tx b (n - b))) → post () M') → B_P_fill_89 post false (0 : Fin 9) true (zL U) (zI P) M1 := by
    intro L M1 hl w hk kk
    unfold B_P_fill_89
    intro t1 e1
    rw [(hU' M1 hk).2, e1i, zI_sub] at e1
    rw [e1]
    exact ⟨P + 1, h97 P 1 L M1 rfl hl w hk kk⟩
  have h41 : ∀ (L0 : List Nat) (M1 : nf_M), L0.length ≤ 1 → L0 = (if neg = true ∧ U ≠ 0 then [45] else []) → wF M1 L0 → kR true M M1 → B_P_fill_41 post false (0 : Fin 9) true (zL U) (zI P) M1 := by
    intro L0 M1 hl eL w hk
    rw [← eL] at k
    unfold B_P_fill_41
    rw [kR_7 hk 0, f0, show (0 : Int32) = zI (0 : Nat) by decide]
    refine s_R_addPart hT (kR_row hk hr) (Nat.zero_le _) (by omega) w (by omega) (fun M2 k2 w2 => ?_)
    rw [Nat.sub_zero] at w2
    have k02 := hk.tr k2
    rw [(hU' M2 k02).2]
    refine s_F_power (by omega) (s_F_over (pw_ne (by omega)) ?_)
    rw [pw_z, zdiv (by omega) (by omega), show (zI ((0 : Nat) : Int) : Int32) = 0 by decide, z0' (by omega)]
    have h74 : ∀ x3 : Int32, (x3 = 0 ↔ P ≠ 0) → B_P_fill_74 post false (0 : Fin 9) true (zL U) (zI P) x3 (zL (U / 10 ^ t : Nat)) M2 := by
      intro x3 hx3
      have hl2 : (L0 ++ seg tx 0 h).length = L0.length + h := by rw [List.length_append, seg_len]
      unfold B_P_fill_74
      refine s_P_fillWhole (z := pcz tx h W) (g := pg tx h W) (P := P) (by omega) (by omega) (by omega) (by rw [kR_7 k02 3]; exact f3) (by rw [kR_7 k02 4]; exact f4) hx3 w2 (by rw [hl2, hC]; omega) (fun M3 k3 w3 => ?_)
      rw [hC] at w3
      have hl3 : (L0 ++ seg tx 0 h ++ wl (U / 10 ^ t) (pg tx h W) C).length ≤ L0.length + h + 2 * C := by rw [List.length_append, hl2]; omega
      rw [show (0 : Int32) = zI (0 : Nat) by decide, zlt (by omega) (by omega), show (46 : Int32) = zI (46 : Nat) by decide]
      refine ⟨fun q => s_R_addL w3 (by omega) (by decide) (fun M4 k4 w4 => h89 _ M4 ?_ w4 (k02.tr (k3.tr k4)) (fun M' k' w' => k M' k' ?_)), fun q => h89 _ M3 (by omega) w3 (k02.tr k3) (fun M' k' w' => k M' k' ?_)⟩
      · rw [List.length_append]
        simp only [List.length_cons, List.length_nil]
        omega
      · rw [if_pos q]
        simp only [List.append_assoc] at w'
        exact w'
      · rw [if_neg q, List.nil_append]
        simp only [List.append_assoc] at w'
        exact w'
    exact ⟨fun q => h74 1 ⟨fun w => absurd w (by decide), fun w => absurd q w⟩, fun q => h74 0 ⟨fun _ => q, fun _ => rfl⟩⟩
  unfold P_P_fill
  rw [gU]
  refine s_JM_abs (by omega) ?_
  rw [s1, gS, f5]
  refine s_JM_max (by omega) (by omega) ?_
  have eP : (if a - (h + W) - 1 < t then t else a - (h + W) - 1) = P := hP
  rw [eP]
  refine s_R_clearL (fun M1 k1 u1 => ?_)
  rw [(hU' M1 k1).1, show (0 : Int64) = zL 0 by decide, zL_lt (by omega) (by omega) (by omega) (by omega), s2, show (45 : Int32) = zI (45 : Nat) by decide]
  refine ⟨fun q => s_R_addL u1 (by decide) (by decide) (fun M2 k2 u2 => h41 _ M2 (by decide) (by rw [if_pos q]; rfl) u2 (k1.tr k2)), fun q => h41 [] M1 (by decide) (by rw [if_neg q]) u1 k1⟩
