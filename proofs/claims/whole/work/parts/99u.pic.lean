/-! picture: the reference's parse -/
def picK (post : Int32 → nf_M → Prop) (h W a b : Nat) (x8 : Int32) (M9 : nf_M) : Prop :=
  (mg_I M9 19 9 = 0 → (x8 = 0 → B_M_picture_242 post (zI h) (zI (h + W : Nat)) (zI a) (zI b) M9) ∧ (¬ x8 = 0 → P_M_product (mg_L M9 19 10) (mg_I M9 19 11) (100 : Int64) (0 : Int32) M9 (fun _ M11 => B_M_picture_242 post (zI h) (zI (h + W : Nat)) (zI a) (zI b) M11))) ∧ (¬ mg_I M9 19 9 = 0 → B_M_picture_242 post (zI h) (zI (h + W : Nat)) (zI a) (zI b) M9)
theorem s_M_tail {n h W a b : Nat} {tx : Nat → Nat} {x1 x7 : Int32} {M : nf_M} {post : Int32 → nf_M → Prop} (hT : okT n tx) (hx : txM M n tx) (hb : b ≤ n) (h7 : (x7 = 1 ∧ OKW tx h W) ∨ (x7 = 0 ∧ ¬ OKW tx h W)) (k0 : ¬ (OKW tx h W ∧ TLt n tx b) → ∀ M7, M7 = ms_I M 19 0 (3 : Int32) → post (0 : Int32) M7) (k1 : OKW tx h W ∧ TLt n tx b → ∀ x8 : Int32, (x8 = 0 ↔ NPt n tx b) → P_M_castTo x1 (0 : Int32) M (fun _ M9 => picK post h W a b x8 M9)) : ∃ n9 : Nat, B_M_picture_123 post n9 x1 (zI h) (zI (h + W : Nat)) (zI a) (zI b) x7 (0 : Int32) (zI b) M := by
  have hn := hT.1
  have h123 : ∀ (d i : Nat) (x7 x8 : Int32), d + i = n → b ≤ i → ((x7 = 1 ∧ OKW tx h W ∧ ∀ j, b ≤ j → j < i → ¬ pmk (tx j)) ∨ (x7 = 0 ∧ ¬ (OKW tx h W ∧ ∀ j, b ≤ j → j < i → ¬ pmk (tx j)))) → (x8 = 0 ↔ ∀ j, b ≤ j → j < i → tx j ≠ 37) → B_M_picture_123 post (d + 1) x1 (zI h) (zI (h + W : Nat)) (zI a) (zI b) x7 x8 (zI i) M := by
    intro d
    induction d with
    | zero =>
      intro i x7 x8 hd hi g7 g8
      have ei : i = n := by omega
      subst ei
      unfold B_M_picture_123
      rw [hx.1, zlt (by omega) (by omega)]
      refine ⟨fun q => by omega, fun _ => ?_⟩
      rcases g7 with ⟨e7, o1, o2⟩ | ⟨e7, o1⟩
      · rw [e7]
        exact ⟨fun w => absurd w (by decide), fun _ => k1 ⟨o1, o2⟩ x8 g8⟩
      · rw [e7]
        exact ⟨fun _ => k0 o1, fun w => absurd rfl w⟩
    | succ d ih =>
      intro i x7 x8 hd hi g7 g8
      have hc := hT.2 i (by omega)
      have el : lkc n tx i = tx i := if_pos (by omega)
      have nn : ∀ P : Nat → Prop, (∀ j, b ≤ j → j < i → P j) → P i → ∀ j, b ≤ j → j < i + 1 → P j := fun P p q j j1 j2 => by
        by_cases c : j = i
        · rw [c]; exact q
        · exact p j j1 (by omega)
      have h165 : ∀ x7' : Int32, ((x7' = 1 ∧ OKW tx h W ∧ ∀ j, b ≤ j → j < i + 1 → ¬ pmk (tx j)) ∨ (x7' = 0 ∧ ¬ (OKW tx h W ∧ ∀ j, b ≤ j → j < i + 1 → ¬ pmk (tx j)))) → B_M_picture_165 (fun x1 x2 x3 x5 x6 x7 x8 x9 z => B_M_picture_123 post (d + 1) x1 x2 x3 x5 x6 x7 x8 x9 z) post x1 (zI h) (zI (h + W : Nat)) (zI a) (zI b) x8 (zI i) x7' M := by
        intro x7' g7'
        unfold B_M_picture_165 B_M_picture_183 B_M_picture_188
        refine ⟨fun q => s_M_look hT hx (by omega) ?_, fun q => ?_⟩
        · rw [el, show (37 : Int32) = zI (37 : Nat) by decide, zeq (by omega) (by omega), z_s]
          refine ⟨fun q2 => ih (i + 1) x7' 1 (by omega) (by omega) g7' ⟨fun w => absurd w (by decide), fun w => absurd q2 (w i hi (by omega))⟩, fun q2 => ih (i + 1) x7' 0 (by omega) (by omega) g7' ⟨fun _ => nn (fun j => tx j ≠ 37) (g8.mp q) q2, fun _ => rfl⟩⟩
        · rw [z_s]
          exact ih (i + 1) x7' 1 (by omega) (by omega) g7' ⟨fun w => absurd w (by decide), fun w => absurd (g8.mpr (fun j j1 j2 => w j j1 (by omega))) q⟩
      unfold B_M_picture_123
      rw [hx.1, zlt (by omega) (by omega)]
      refine ⟨fun _ => ?_, fun q => by omega⟩
      unfold B_M_picture_164
      rcases g7 with ⟨e7, o1, o2⟩ | ⟨e7, o1⟩
      · rw [e7]
        refine ⟨fun w => absurd w (by decide), fun _ => s_M_look hT hx (by omega) ?_⟩
        rw [el]
        refine s_M_isPart (by omega) (fun q => ⟨fun w => absurd w (by decide), fun _ => h165 0 (Or.inr ⟨rfl, fun w => w.2 i hi (by omega) ?_⟩)⟩) (fun q => ⟨fun _ => s_M_look hT hx (by omega) ?_, fun w => absurd rfl w⟩)
        · unfold prt at q
          unfold pmk
          omega
        · rw [el, show (46 : Int32) = zI (46 : Nat) by decide, zeq (by omega) (by omega)]
          refine ⟨fun q2 => h165 0 (Or.inr ⟨rfl, fun w => w.2 i hi (by omega) ?_⟩), fun q2 => h165 1 (Or.inl ⟨rfl, o1, nn (fun j => ¬ pmk (tx j)) o2 ?_⟩)⟩
          · unfold pmk
            omega
          · unfold prt at q
            unfold pmk
            omega
      · rw [e7]
        exact ⟨fun _ => h165 0 (Or.inr ⟨rfl, fun w => o1 ⟨w.1, fun j j1 j2 => w.2 j j1 (by omega)⟩⟩), fun w => absurd rfl w⟩
  refine ⟨n - b + 1, h123 (n - b) b x7 0 (by omega) (Nat.le_refl _) ?_ ⟨fun _ j a c => by omega, fun _ => rfl⟩⟩
  rcases h7 with ⟨a1, a2⟩ | ⟨a1, a2⟩
  · exact Or.inl ⟨a1, a2, fun j a c => by omega⟩
  · exact Or.inr ⟨a1, fun w => a2 w.1⟩
theorem s_M_pic26 {n : Nat} {tx : Nat → Nat} {x1 : Int32} {M : nf_M} {post : Int32 → nf_M → Prop} (hT : okT n tx) (hx : txM M n tx) (k0 : (∀ h W a b, PIc n tx h W a b → ¬ OKP n tx h W b) → ∀ M', kV (ms_I M 19 0 (0 : Int32)) M' → ∀ M7, M7 = ms_I M' 19 0 (3 : Int32) → post (0 : Int32) M7) (k1 : ∀ h W a b, PIc n tx h W a b → OKP n tx h W b → ∀ (x8 : Int32) (M' : nf_M), kV (ms_I M 19 0 (0 : Int32)) M' → mg_I M' 19 17 = zI (pcz tx h W) → mg_I M' 19 18 = zI (pg tx h W) → (x8 = 0 ↔ NPt n tx b) → P_M_castTo x1 (0 : Int32) M' (fun _ M9 => picK post h W a b x8 M9)) : B_M_picture_26 post x1 (0 : Int32) M := by
  have hn := hT.1
  unfold B_M_picture_26
  intro M1 e1
  subst e1
  have x19 : txM (ms_I M 19 0 (0 : Int32)) n tx := ⟨(ms_19 M 0 1 0 (by decide)).trans hx.1, hx.2⟩
  rw [ms_199]
  refine ⟨fun q => absurd q (by decide), fun _ => ?_⟩
  generalize ms_I M 19 0 (0 : Int32) = M1 at *
  rw [show (0 : Int32) = zI (0 : Nat) by decide]
  refine s_M_run (fun c => ¬ pmk c ∧ c ≠ 37) hT x19 (by omega) (Or.inl ⟨by decide, fun c => Iff.rfl⟩) (fun h h1 h2 h3 h4 => ?_)
  have hH : HD n tx h := ⟨h2, fun i hi => h3 i (by omega) hi, fun q => by
    have := h4 q
    by_cases c : pmk (tx h)
    · exact Or.inl c
    · exact Or.inr (Classical.byContradiction fun c2 => this ⟨c, c2⟩)⟩
  refine s_M_run prt hT x19 h2 (Or.inr (Or.inl ⟨rfl, fun c => Iff.rfl⟩)) (fun w w1 w2 w3 w4 => ?_)
  obtain ⟨W, rfl⟩ : ∃ W, w = h + W := ⟨w - h, by omega⟩
  have hP : PW n tx h W := ⟨w2, fun m hm => w3 (h + m) (by omega) (by omega), w4⟩
  -- the end
  have h106 : ∀ a b : Nat, FPt n tx (h + W) a b → b ≤ n → B_M_picture_106 post x1 (zI h) (zI (h + W : Nat)) (zI a) (zI b) M1 := by
    intro a b hF hb
    unfold B_M_picture_106
    refine s_M_isWhole hT x19 hP (fun v M' hk g17 g18 hv => ?_)
    refine s_M_tail hT (hk.txm x19) hb hv (fun hno M7 e7 => k0 (fun h' W' a' b' hP' ok => ?_) M' hk M7 e7) (fun hyes x8 h8 => k1 h W a b ⟨hH, hP, hF⟩ (OKP_iff.mpr hyes) x8 M' hk g17 g18 h8)
    obtain ⟨q1, q2, q3, q4⟩ := PIc_1 ⟨hH, hP, hF⟩ hP'
    subst q1 q2 q3 q4
    exact hno (OKP_iff.mp ok)
  refine s_M_look hT x19 (by omega) ?_
  have hl := lkc_lt hT (h + W)
  rw [show (46 : Int32) = zI (46 : Nat) by decide, zeq (by omega) (by omega)]
  unfold B_M_picture_67 B_M_picture_87
  by_cases q : h + W < n ∧ tx (h + W) = 46
  · have ec : lkc n tx (h + W) = 46 := by unfold lkc; rw [if_pos q.1]; exact q.2
    rw [ec]
    refine ⟨fun _ => ⟨fun z => absurd z (by decide), fun _ => ?_⟩, fun z => absurd rfl z⟩
    rw [z_s]
    refine s_M_run (fun c => c = 48) hT x19 (by omega) (Or.inr (Or.inr ⟨48, by decide, by decide, by decide, fun c => Iff.rfl⟩)) (fun a a1 a2 a3 a4 => ⟨fun z => absurd z (by decide), fun _ => ?_⟩)
    refine s_M_run (fun c => c = 35) hT x19 a2 (Or.inr (Or.inr ⟨35, by decide, by decide, by decide, fun c => Iff.rfl⟩)) (fun b b1 b2 b3 b4 => ?_)
    exact h106 a b (Or.inl ⟨q.1, q.2, ⟨a1, a2, a3, a4⟩, ⟨b1, b2, b3, b4⟩⟩) b2
  · have ec : ¬ lkc n tx (h + W) = 46 := by
      unfold lkc
      split
      · exact fun w => q ⟨by assumption, w⟩
      · decide
    refine ⟨fun z => absurd z ec, fun _ => ⟨fun _ => ⟨fun _ => h106 (h + W) (h + W) (Or.inr ⟨q, rfl, rfl⟩) w2, fun z => absurd (by decide) z⟩, fun z => absurd (by decide) z⟩⟩
