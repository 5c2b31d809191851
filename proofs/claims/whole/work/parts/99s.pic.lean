/-! picture: the system's parse -/
theorem s_P_countOf {n c f : Nat} {tx : Nat → Nat} {M : nf_M} {post : Int32 → nf_M → Prop} (hT : okT n tx) (hr : rowF M false n tx) (hc : 0 < c ∧ c < 1000) (h1 : 1 ≤ f) (hf : f ≤ n) (k : ∀ a, RN n tx c f a → post (zI (a - f : Nat)) M) : P_P_countOf false (zI c) (zI f) M post := by
  have hn := hT.1
  have h2 : ∀ d i : Nat, d + i = n → f + i ≤ n → (∀ j, j < i → tx (f + j) = c) → B_P_countOf_2 post (d + 1) false (zI c) (zI f) (zI i) M := by
    intro d
    induction d with
    | zero =>
      intro i hd hi hj
      omega
    | succ d ih =>
      intro i hd hi hj
      have hrn : ∀ q : ¬ (f + i < n ∧ tx (f + i) = c), post (zI (i : Nat)) M := fun q => by
        have := k (f + i) ⟨by omega, hi, fun x x1 x2 => by
          have := hj (x - f) (by omega)
          rw [show f + (x - f) = x by omega] at this
          exact this, fun x => fun y => q ⟨x, y⟩⟩
        rw [show f + i - f = i by omega] at this
        exact this
      unfold B_P_countOf_2 B_P_countOf_27
      rw [hr.1, zlt (by omega) (by omega), zI_add, show (f : Int) + (i : Int) = ((f + i : Nat) : Int) by omega]
      refine ⟨fun _ => s_atC hT hr (by omega) ?_, fun q => by omega⟩
      have hlt : chr tx n (f + i) < 1000 := by have := chr_lt (n := n) (b := n) hT (Nat.le_refl _) (f + i); omega
      rw [zeq (by omega) (by omega), z_s]
      unfold chr
      by_cases q : f + i < n
      · rw [if_pos q]
        refine ⟨fun z => ih (i + 1) (by omega) (by omega) (fun j hj2 => ?_), fun z => hrn (fun w => z w.2)⟩
        by_cases c2 : j = i
        · rw [c2]; exact z
        · exact hj j (by omega)
      · rw [if_neg q]
        exact ⟨fun z => by omega, fun z => hrn (fun w => q w.1)⟩
  exact ⟨n + 1, h2 n 0 (by omega) hf (fun j hj => absurd hj (Nat.not_lt_zero _))⟩
theorem s_P_isDigitMark {c : Nat} {x : Int32} {M : nf_M} {post : Int32 → nf_M → Prop} (hat : ∀ post' : Int32 → nf_M → Prop, post' (zI c) M → P_R_at false x M post') (hc : c < 1000) (k1 : dmk c → post 1 M) (k0 : ¬ dmk c → post 0 M) : P_P_isDigitMark false x M post := by
  unfold P_P_isDigitMark B_P_isDigitMark_20 B_P_isDigitMark_25
  unfold dmk at k1 k0
  refine hat _ ?_
  rw [show (35 : Int32) = zI (35 : Nat) by decide, zeq (by omega) (by omega)]
  refine ⟨fun q => ⟨rfl, k1 (Or.inl q)⟩, fun q => hat _ ?_⟩
  rw [show (48 : Int32) = zI (48 : Nat) by decide, zeq (by omega) (by omega)]
  exact ⟨fun q2 => ⟨rfl, k1 (Or.inr q2)⟩, fun q2 => ⟨rfl, k0 (by omega)⟩⟩
theorem s_P_haveCommasDigits {n h e : Nat} {tx : Nat → Nat} {M : nf_M} {post : Int32 → nf_M → Prop} (hT : okT n tx) (hr : rowF M false n tx) (he : e ≤ n) (hhe : h ≤ e) (g0 : mg_I M 7 0 = zI h) (k1 : (∀ i, h ≤ i → i < e → tx i = 44 → cmk n tx i) → post 1 M) (k0 : ∀ i, h ≤ i → i < e → tx i = 44 → ¬ cmk n tx i → post 0 M) : P_P_haveCommasDigits false (zI e) M post := by
  have hn := hT.1
  have h5 : ∀ d i : Nat, d + i = e → h ≤ i → (∀ j, h ≤ j → j < i → tx j = 44 → cmk n tx j) → B_P_haveCommasDigits_5 post (d + 1) false (zI e) (zI i) M := by
    intro d
    induction d with
    | zero =>
      intro i hd hi hj
      unfold B_P_haveCommasDigits_5
      rw [zlt (by omega) (by omega)]
      refine ⟨fun q => by omega, fun _ => k1 (fun j a b c => hj j a (by omega) c)⟩
    | succ d ih =>
      intro i hd hi hj
      have hc := hT.2 i (by omega)
      have nxt : (tx i = 44 → cmk n tx i) → B_P_haveCommasDigits_5 post (d + 1) false (zI e) (zI (i + 1 : Nat)) M := fun q => ih (i + 1) (by omega) (by omega) (fun j a b c => by
        by_cases c2 : j = i
        · rw [c2] at c ⊢; exact q c
        · exact hj j a (by omega) c)
      unfold B_P_haveCommasDigits_5 B_P_haveCommasDigits_40 B_P_haveCommasDigits_42
      rw [zlt (by omega) (by omega), z_s]
      refine ⟨fun _ => s_at hT hr (by omega) ?_, fun q => by omega⟩
      rw [show (44 : Int32) = zI (44 : Nat) by decide, zeq (by omega) (by omega)]
      refine ⟨fun q => ?_, fun q => nxt (fun w => absurd w q)⟩
      have hb : (if i = 0 then 0 else tx (i - 1)) < 1000 := by
        split
        · omega
        · have := hT.2 (i - 1) (by omega)
          omega
      have hlt : chr tx n (i + 1) < 1000 := by have := chr_lt (n := n) (b := n) hT (Nat.le_refl _) (i + 1); omega
      refine s_P_isDigitMark (fun post' p => s_at_1 hT hr (by omega) p) hb (fun m1 => ⟨fun w => absurd w (by decide), fun _ => s_P_isDigitMark (fun post' p => s_atC hT hr (by omega) p) hlt (fun m2 => ⟨fun w => absurd w (by decide), fun _ => nxt (fun _ => ?_)⟩) (fun m2 => ⟨fun _ => k0 i hi (by omega) q (fun w => m2 w.2), fun w => absurd rfl w⟩)⟩) (fun m1 => ⟨fun _ => k0 i hi (by omega) q (fun w => m1 ?_), fun w => absurd rfl w⟩)
      · by_cases c0 : i = 0
        · rw [if_pos c0] at m1
          unfold dmk at m1
          omega
        · rw [if_neg c0] at m1
          exact ⟨⟨by omega, m1⟩, m2⟩
      · have := w.1.1
        rw [if_neg (by omega)]
        exact w.1.2
  unfold P_P_haveCommasDigits
  intro t1 e1
  rw [e1, g0]
  exact ⟨e - h + 1, h5 (e - h) h (by omega) (Nat.le_refl _) (fun j a b => by omega)⟩
theorem s_P_isTail {n b : Nat} {tx : Nat → Nat} {M : nf_M} {post : Int32 → nf_M → Prop} (hT : okT n tx) (hr : rowF M false n tx) (hb : b ≤ n) (g1 : mg_I M 7 1 = zI b) (k1 : TLt n tx b → ∀ M', k7 M M' → (∀ j, j ≠ 7 → mg_I M' 7 j = mg_I M 7 j) → (mg_I M' 7 7 = 0 ↔ NPt n tx b) → post 1 M') (k0 : ¬ TLt n tx b → ∀ M', k7 M M' → post 0 M') : P_P_isTail false M post := by
  have hn := hT.1
  have h10 : ∀ (d i : Nat) (M1 : nf_M), d + i = n → b ≤ i → (∀ j, b ≤ j → j < i → ¬ pmk (tx j)) → k7 M M1 → (∀ j, j ≠ 7 → mg_I M1 7 j = mg_I M 7 j) → (mg_I M1 7 7 = 0 ↔ ∀ j, b ≤ j → j < i → tx j ≠ 37) → B_P_isTail_10 post (d + 1) false (zI i) M1 := by
    intro d
    induction d with
    | zero =>
      intro i M1 hd hi hj hk hf h7
      have ei : i = n := by omega
      subst ei
      unfold B_P_isTail_10
      rw [(hk.row hr).1, zlt (by omega) (by omega)]
      exact ⟨fun q => by omega, fun _ => k1 hj M1 hk hf h7⟩
    | succ d ih =>
      intro i M1 hd hi hj hk hf h7
      have hc := hT.2 i (by omega)
      have hr1 := hk.row hr
      unfold B_P_isTail_10
      rw [hr1.1, zlt (by omega) (by omega)]
      refine ⟨fun _ => s_at hT hr1 (by omega) (s_P_isMark (by omega) (fun q => ⟨fun w => absurd w (by decide), fun _ => k0 (fun w => w i hi (by omega) q) M1 hk⟩) (fun q => ⟨fun _ => ?_, fun w => absurd rfl w⟩)), fun q => by omega⟩
      have h54 : ∀ v : Int32, nf_bool v → (v = 0 ↔ ∀ j, b ≤ j → j < i + 1 → tx j ≠ 37) → B_P_isTail_54 (fun b1 x2 z => B_P_isTail_10 post (d + 1) b1 x2 z) post false (zI i) v M1 := fun v hv h7v => by
        unfold B_P_isTail_54
        rw [z_s]
        refine ⟨hv, fun M2 e2 => ih (i + 1) M2 (by omega) (by omega) (fun j a c => ?_) (hk.tr (by rw [e2]; exact k7_I M1 7 v)) (fun j hj7 => by rw [e2, ms_7 _ _ _ _ hj7]; exact hf j hj7) (by rw [e2, ms_77]; exact h7v)⟩
        by_cases c2 : j = i
        · rw [c2]; exact q
        · exact hj j a (by omega)
      unfold B_P_isTail_49
      refine ⟨fun q7 => s_at hT hr1 (by omega) ?_, fun q7 => h54 1 ⟨rfl, rfl⟩ ⟨fun w => absurd w (by decide), fun w => absurd (h7.mpr (fun j a c => w j a (by omega))) q7⟩⟩
      rw [show (37 : Int32) = zI (37 : Nat) by decide, zeq (by omega) (by omega)]
      refine ⟨fun q2 => h54 1 ⟨rfl, rfl⟩ ⟨fun w => absurd w (by decide), fun w => absurd q2 (w i hi (by omega))⟩, fun q2 => h54 0 ⟨rfl, rfl⟩ ⟨fun _ j a c => ?_, fun _ => rfl⟩⟩
      by_cases c2 : j = i
      · rw [c2]; exact q2
      · exact h7.mp q7 j a (by omega)
  unfold P_P_isTail
  intro M1 e1 t2 e2
  have f1 : mg_I M1 7 1 = zI b := by rw [e1, ms_7 _ _ _ _ (by decide)]; exact g1
  rw [f1] at e2
  rw [e2]
  exact ⟨n - b + 1, h10 (n - b) b M1 (by omega) (Nat.le_refl _) (fun j a c => by omega) (by rw [e1]; exact k7_I M 7 0) (fun j hj => by rw [e1, ms_7 _ _ _ _ hj]) (by rw [e1, ms_77]; exact ⟨fun _ j a c => by omega, fun _ => rfl⟩)⟩
/-- the system's picture -/
def PFd (n : Nat) (tx : Nat → Nat) (h W a b : Nat) (M : nf_M) : Prop := mg_I M 7 0 = zI h ∧ mg_I M 7 1 = zI b ∧ mg_I M 7 3 = zI (pcz tx h W) ∧ mg_I M 7 4 = zI (pg tx h W) ∧ mg_I M 7 5 = zI (a - (h + W) - 1 : Nat) ∧ mg_I M 7 6 = zI (b - a : Nat) ∧ (mg_I M 7 7 = 0 ↔ NPt n tx b)
theorem s_P_parse {n : Nat} {tx : Nat → Nat} {M : nf_M} {post : Int32 → nf_M → Prop} (hT : okT n tx) (hr : rowF M false n tx) (k0 : (∀ h W a b, PIc n tx h W a b → ¬ OKP n tx h W b) → ∀ M', k7 M M' → post 0 M') (k1 : ∀ h W a b, PIc n tx h W a b → OKP n tx h W b → ∀ M', k7 M M' → PFd n tx h W a b M' → post 1 M') : P_P_parse false M post := by
  have hn := hT.1
  unfold P_P_parse
  refine s_P_endOfHead hT hr (fun h hH M3 e3 => s_P_parseWhole (h := h) hT (by rw [e3]; exact (k7_I M 0 _).row hr) hH.1 (by rw [e3, ms_77]) (fun W M5 hW k5 f0 f2 f3 f4 M6 e6 M7 e7 => ?_))
  have k3 : k7 M M3 := by rw [e3]; exact k7_I M 0 _
  have hWn := hW.1
  have k7' : k7 M M7 := k3.tr (k5.tr (by rw [e7, e6]; exact (k7_I M5 5 0).tr (k7_I _ 6 0)))
  obtain ⟨l1, l2, l3, l4⟩ := pc_le tx h W
  have hf : ∀ j, j ≠ 5 → j ≠ 6 → mg_I M7 7 j = mg_I M5 7 j := fun j a b => by rw [e7, ms_7 _ _ _ _ b, e6, ms_7 _ _ _ _ a]
  -- the end
  have h64 : ∀ (e a b : Nat) (M8 : nf_M), FPt n tx (h + W) a b → (e = h + W ∨ (e = h + W + 1 ∧ h + W < n ∧ tx (h + W) = 46)) → e ≤ n → b ≤ n → (e : Int) + (a - (h + W) - 1 : Nat) + (b - a : Nat) = b → k7 M M8 → (∀ j, j ≠ 5 → j ≠ 6 → mg_I M8 7 j = mg_I M5 7 j) → mg_I M8 7 5 = zI (a - (h + W) - 1 : Nat) → mg_I M8 7 6 = zI (b - a : Nat) → B_P_parse_64 post false (zI e) M8 := by
    intro e a b M8 hF he hen hbn hsum k8 f8 g5 g6
    unfold B_P_parse_64 B_P_parse_112 B_P_parse_113
    intro t1 et M9 e9
    rw [g5, g6, zI_add, zI_add, hsum] at et
    have k9 : k7 M M9 := k8.tr (by rw [e9]; exact k7_I M8 1 t1)
    have n9 : ∀ j, j ≠ 1 → mg_I M9 7 j = mg_I M8 7 j := fun j hj => by rw [e9, ms_7 _ _ _ _ hj]
    have r9 := k9.row hr
    have hbad : ¬ OKS n tx h W b → ∀ M' : nf_M, k7 M M' → post 0 M' := fun no M' hk => k0 (fun h' W' a' b' hP ok => by
      obtain ⟨p1, p2, p3⟩ := hP
      have q1 := HD_1 hH p1
      subst q1
      have q2 := OKP_W (a := 0) hW p2 ok
      subst q2
      obtain ⟨q3, q4⟩ := FPt_1 hF p3
      subst q3 q4
      exact no (OKP_S p2 ok)) M' hk
    rw [n9 2 (by decide), n9 3 (by decide), f8 2 (by decide) (by decide), f8 3 (by decide) (by decide), f2, f3, zI_add, show (0 : Int32) = zI (0 : Nat) by decide, show (pch tx h W : Int) + (pcz tx h W : Int) = ((pch tx h W + pcz tx h W : Nat) : Int) by omega, zlt (by omega) (by omega)]
    refine ⟨fun q => ?_, fun q => ⟨rfl, hbad (fun w => q w.1) M9 k9⟩⟩
    refine s_P_haveCommasDigits hT r9 hen (by omega) (by rw [n9 0 (by decide), f8 0 (by decide) (by decide)]; exact f0) (fun hcm => ⟨fun w => absurd w (by decide), fun _ => ?_⟩) (fun i i1 i2 i3 i4 => ⟨fun _ => ⟨rfl, hbad (fun w => i4 (w.2.1 i i1 ?_ i3)) M9 k9⟩, fun w => absurd rfl w⟩)
    · refine s_P_isTail hT r9 hbn (by rw [e9, ms_77]; exact et) (fun hTl M' hk hf' h7 => ⟨fun w => absurd w (by decide), fun _ => ⟨rfl, ?_⟩⟩) (fun hTl M' hk => ⟨fun _ => ⟨rfl, hbad (fun w => hTl w.2.2) M' (k9.tr hk)⟩, fun w => absurd rfl w⟩)
      have hOS : OKS n tx h W b := ⟨q, fun i i1 i2 i3 => hcm i i1 (by omega) i3, hTl⟩
      obtain ⟨hPW, hOK⟩ := OKS_P hH hW hF hOS
      refine k1 h W a b ⟨hH, hPW, hF⟩ hOK M' (k9.tr hk) ⟨?_, ?_, ?_, ?_, ?_, ?_, h7⟩
      · rw [hf' 0 (by decide), n9 0 (by decide), f8 0 (by decide) (by decide)]; exact f0
      · rw [hf' 1 (by decide), e9, ms_77]; exact et
      · rw [hf' 3 (by decide), n9 3 (by decide), f8 3 (by decide) (by decide)]; exact f3
      · rw [hf' 4 (by decide), n9 4 (by decide), f8 4 (by decide) (by decide)]; exact f4
      · rw [hf' 5 (by decide), n9 5 (by decide)]; exact g5
      · rw [hf' 6 (by decide), n9 6 (by decide)]; exact g6
    · rcases he with he | ⟨he, w1, w2⟩
      · omega
      · refine Nat.lt_of_not_le fun w3 => ?_
        have : i = h + W := by omega
        rw [this] at i3
        omega
  refine s_atC hT (k7'.row hr) (by omega) ?_
  have hlt : chr tx n (h + W) < 1000 := by have := chr_lt (n := n) (b := n) hT (Nat.le_refl _) (h + W); omega
  rw [show (46 : Int32) = zI (46 : Nat) by decide, zeq (by omega) (by omega), z_s]
  by_cases q : h + W < n ∧ tx (h + W) = 46
  · have ec : chr tx n (h + W) = 46 := by unfold chr; rw [if_pos q.1]; exact q.2
    rw [ec]
    refine ⟨fun _ => ?_, fun w => absurd rfl w⟩
    rw [show (48 : Int32) = zI (48 : Nat) by decide, show (35 : Int32) = zI (35 : Nat) by decide]
    refine s_P_countOf hT (k7'.row hr) (by decide) (by omega) (by omega) (fun a hA M12 e12 => ?_)
    have hA1 := hA.1
    have hA2 := hA.2.1
    have k12 : k7 M M12 := k7'.tr (by rw [e12]; exact k7_I M7 5 _)
    have f5 : mg_I M12 7 5 = zI (a - (h + W + 1) : Nat) := by rw [e12, ms_77]
    rw [f5, zI_add, show ((h + W + 1 : Nat) : Int) + ((a - (h + W + 1) : Nat) : Int) = (a : Int) by omega]
    refine s_P_countOf hT (k12.row hr) (by decide) (by omega) hA2 (fun b hB M15 e15 => ?_)
    have hB1 := hB.1
    have hB2 := hB.2.1
    refine h64 (h + W + 1) a b M15 (Or.inl ⟨q.1, q.2, hA, hB⟩) (Or.inr ⟨rfl, q.1, q.2⟩) (by omega) hB2 (by omega) (k12.tr (by rw [e15]; exact k7_I M12 6 _)) (fun j j5 j6 => ?_) ?_ (by rw [e15, ms_77])
    · rw [e15, ms_7 _ _ _ _ j6, e12, ms_7 _ _ _ _ j5]
      exact hf j j5 j6
    · rw [e15, ms_7 _ _ _ _ (by decide), f5]
      congr 2
  · have ec : ¬ chr tx n (h + W) = 46 := by
      unfold chr
      split
      · exact fun w => q ⟨by assumption, w⟩
      · decide
    refine ⟨fun w => absurd w ec, fun _ => ?_⟩
    refine h64 (h + W) (h + W) (h + W) M7 (Or.inr ⟨q, rfl, rfl⟩) (Or.inl rfl) hWn hWn (by omega) k7' hf ?_ ?_
    · rw [e7, ms_7 _ _ _ _ (by decide), e6, ms_77, show h + W - (h + W) - 1 = 0 by omega]
      decide
    · rw [e7, ms_77, show h + W - (h + W) = 0 by omega]
      decide
