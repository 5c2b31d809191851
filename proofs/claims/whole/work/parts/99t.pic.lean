/-! picture: the reference's way through the text -/
def lkc (n : Nat) (tx : Nat → Nat) (i : Nat) : Nat := if i < n then tx i else 32
def kV (M M' : nf_M) : Prop := M'.2 = M.2 ∧ (∀ j, j ≠ 17 → j ≠ 18 → mg_I M' 19 j = mg_I M 19 j) ∧ ∀ o, o ≠ 19 → mg_I M' o = mg_I M o
theorem kV.rf (M : nf_M) : kV M M := ⟨rfl, fun _ _ _ => rfl, fun _ _ => rfl⟩
theorem kV.tr {A B C : nf_M} (h1 : kV A B) (h2 : kV B C) : kV A C := ⟨h2.1.trans h1.1, fun j a b => (h2.2.1 j a b).trans (h1.2.1 j a b), fun o ho => (h2.2.2 o ho).trans (h1.2.2 o ho)⟩
theorem kV_19 (M : nf_M) (k : Nat) (v : Int32) (hk : k = 17 ∨ k = 18) : kV M (ms_I M 19 k v) := ⟨rfl, fun j a b => by
  show (if j = k then v else mg_I M 19 j) = _
  rw [if_neg (by omega)], fun o ho => by
  show (if o = 19 then _ else mg_I M o) = _
  rw [if_neg ho]⟩
theorem ms_19 (M : nf_M) (k j : Nat) (v : Int32) (h : j ≠ k) : mg_I (ms_I M 19 k v) 19 j = mg_I M 19 j := by
  show (if j = k then v else mg_I M 19 j) = _
  rw [if_neg h]
theorem ms_199 (M : nf_M) (k : Nat) (v : Int32) : mg_I (ms_I M 19 k v) 19 k = v := by
  show (if k = k then v else mg_I M 19 k) = _
  rw [if_pos rfl]
theorem kV.txm {M M' : nf_M} (h : kV M M') {n : Nat} {tx : Nat → Nat} (hr : txM M n tx) : txM M' n tx := by
  unfold txM at *
  rw [h.2.1 1 (by decide) (by decide), h.2.2 20 (by decide)]
  exact hr
theorem iv_V {M M' : nf_M} {n m : Nat} {tx ou : Nat → Nat} {rg : Nat → nf_V} (h : iv_1 M n tx m ou rg) (k : kV M M') : iv_1 M' n tx m ou rg := by
  obtain ⟨a1, a2, a3, a4, a5, a6, a7⟩ := h
  refine ⟨a1, ?_, k.txm a3, a4, ?_, ?_, fun r hr => ?_⟩
  · unfold rowF mg_N mg_C at *
    rw [k.1]
    exact a2
  · unfold rowF mg_N mg_C at *
    rw [k.1]
    exact a5
  · unfold ouM at *
    rw [k.2.1 3 (by decide) (by decide), k.2.2 21 (by decide)]
    exact a6
  · obtain ⟨c1, c2, c3⟩ := a7 r hr
    refine ⟨c1, ?_, ?_⟩
    · unfold rgM mg_L mg_D at *
      rw [k.2.2 22 (by decide), k.2.2 24 (by decide), k.1]
      exact c2
    · unfold rgF mg_T mg_U mg_S mg_R at *
      rw [k.1]
      exact c3
theorem s_M_look {n i : Nat} {tx : Nat → Nat} {M : nf_M} {post : Int32 → nf_M → Prop} (hT : okT n tx) (hx : txM M n tx) (hi : i < 1000) (k : post (zI (lkc n tx i)) M) : P_M_look (zI i) M post := by
  have hn := hT.1
  unfold P_M_look B_M_look_21 B_M_look_23
  unfold lkc at k
  rw [hx.1, zlt (by omega) (by omega)]
  refine ⟨fun q => absurd q (by rw [i32_lt, t0, z_of (by omega)]; omega), fun _ => ⟨fun q => ⟨z_in (by omega) (by decide), ?_⟩, fun q => ?_⟩⟩
  · rw [z_cl (by omega), hx.2 i q]
    rw [if_pos q] at k
    exact k
  · rw [if_neg q] at k
    exact k
theorem lkc_lt {n : Nat} {tx : Nat → Nat} (hT : okT n tx) (i : Nat) : lkc n tx i < 127 := by
  unfold lkc
  split
  · have := hT.2 i (by assumption)
    omega
  · decide
theorem s_M_isPart {c : Nat} {M : nf_M} {post : Int32 → nf_M → Prop} (hc : c < 1000) (k1 : prt c → post 1 M) (k0 : ¬ prt c → post 0 M) : P_M_isPart (zI c) M post := by
  unfold P_M_isPart B_M_isPart_18 B_M_isPart_23
  unfold prt at k1 k0
  rw [show (35 : Int32) = zI (35 : Nat) by decide, show (48 : Int32) = zI (48 : Nat) by decide, show (44 : Int32) = zI (44 : Nat) by decide, zeq (by omega) (by omega), zeq (by omega) (by omega), zeq (by omega) (by omega)]
  exact ⟨fun q => ⟨rfl, k1 (by omega)⟩, fun q1 => ⟨fun q => ⟨rfl, k1 (by omega)⟩, fun q2 => ⟨fun q => ⟨rfl, k1 (by omega)⟩, fun q4 => ⟨rfl, k0 (by omega)⟩⟩⟩⟩
theorem s_M_run {n i : Nat} {tx : Nat → Nat} {x2 : Int32} {M : nf_M} {post : Int32 → nf_M → Prop} (C : Nat → Prop) (hT : okT n tx) (hx : txM M n tx) (hi : i ≤ n) (hC : (x2 = 0 ∧ ∀ c, C c ↔ ¬ pmk c ∧ c ≠ 37) ∨ (x2 = 1 ∧ ∀ c, C c ↔ prt c) ∨ ∃ v : Nat, 1 < v ∧ v < 1000 ∧ x2 = zI v ∧ ∀ c, C c ↔ c = v) (k : ∀ e, i ≤ e → e ≤ n → (∀ j, i ≤ j → j < e → C (tx j)) → (e < n → ¬ C (tx e)) → post (zI (e : Nat)) M) : P_M_run (zI i) x2 M post := by
  have hn := hT.1
  have h9 : ∀ d e : Nat, d + e = n → i ≤ e → (∀ j, i ≤ j → j < e → C (tx j)) → B_M_run_9 post (d + 1) x2 (zI e) (zI (lkc n tx e)) M := by
    intro d
    induction d with
    | zero =>
      intro e hd he hj
      unfold B_M_run_9 B_M_run_81
      rw [hx.1, zlt (by omega) (by omega)]
      exact ⟨fun q => by omega, fun _ => k e he (by omega) hj (fun q => by omega)⟩
    | succ d ih =>
      intro e hd he hj
      have hc := hT.2 e (by omega)
      have nxt : C (tx e) → B_M_run_68 (fun x2 x3 x4 z => B_M_run_9 post (d + 1) x2 x3 x4 z) post x2 (zI e) M := fun q => by
        unfold B_M_run_68
        rw [z_s]
        refine s_M_look hT hx (by omega) (ih (e + 1) (by omega) (by omega) (fun j a b => ?_))
        by_cases c : j = e
        · rw [c]; exact q
        · exact hj j a (by omega)
      have stp : ¬ C (tx e) → B_M_run_81 post (zI e) M := fun q => by
        unfold B_M_run_81
        exact k e he (by omega) hj (fun _ => q)
      have el : lkc n tx e = tx e := if_pos (by omega)
      unfold B_M_run_9
      rw [hx.1, zlt (by omega) (by omega), el]
      refine ⟨fun _ => ?_, fun q => by omega⟩
      rcases hC with ⟨e2, hC⟩ | ⟨e2, hC⟩ | ⟨v, v1, v2, e2, hC⟩
      · rw [hC] at nxt stp
        rw [e2] at nxt ⊢
        refine ⟨fun _ => s_M_isPart (by omega) (fun q => ⟨fun w => absurd w (by decide), fun _ => stp (fun w => w.1 ?_)⟩) (fun q => ⟨fun _ => ?_, fun w => absurd rfl w⟩), fun w => absurd rfl w⟩
        · unfold prt at q
          unfold pmk
          omega
        · rw [show (46 : Int32) = zI (46 : Nat) by decide, show (37 : Int32) = zI (37 : Nat) by decide, zeq (by omega) (by omega), zeq (by omega) (by omega)]
          unfold prt at q
          unfold pmk at nxt stp
          exact ⟨fun z => stp (by omega), fun z => ⟨fun z2 => stp (by omega), fun z2 => nxt (by omega)⟩⟩
      · rw [hC] at nxt stp
        rw [e2] at nxt ⊢
        exact ⟨fun w => absurd w (by decide), fun _ => ⟨fun _ => s_M_isPart (by omega) (fun q => ⟨fun w => absurd w (by decide), fun _ => nxt q⟩) (fun q => ⟨fun _ => stp q, fun w => absurd rfl w⟩), fun w => absurd rfl w⟩⟩
      · rw [hC] at nxt stp
        rw [e2] at nxt ⊢
        rw [z0' (by omega), show (1 : Int32) = zI (1 : Nat) by decide, zeq (by omega) (by omega), zeq (by omega) (by omega)]
        exact ⟨fun w => by omega, fun _ => ⟨fun w => by omega, fun _ => ⟨fun q => nxt q, fun q => stp q⟩⟩⟩
  unfold P_M_run
  exact s_M_look hT hx (by omega) ⟨n - i + 1, h9 (n - i) i (by omega) (Nat.le_refl _) (fun j a b => by omega)⟩
/-- the whole part is well formed -/
def OKW (tx : Nat → Nat) (h W : Nat) : Prop := (0 < W ∧ tx h ≠ 44 ∧ tx (h + W - 1) ≠ 44) ∧ (∀ m, m < W → tx (h + m) = 35 → pcz tx h m = 0) ∧ (∀ m, m + 1 < W → ¬ (tx (h + m) = 44 ∧ tx (h + m + 1) = 44))
theorem OKP_iff {n : Nat} {tx : Nat → Nat} {h W b : Nat} : OKP n tx h W b ↔ OKW tx h W ∧ TLt n tx b := by
  unfold OKP OKW
  constructor
  · rintro ⟨a, b, c, d, e, f⟩
    exact ⟨⟨⟨a, b, c⟩, d, e⟩, f⟩
  · rintro ⟨⟨⟨a, b, c⟩, d, e⟩, f⟩
    exact ⟨a, b, c, d, e, f⟩
theorem pcd_pos {tx : Nat → Nat} {h : Nat} (q : tx h ≠ 44) : ∀ W, 0 < W → 0 < pcd tx h W
  | 0, z => absurd z (by decide)
  | W + 1, _ => by
    unfold pcd
    by_cases c : W = 0
    · subst c
      rw [Nat.add_zero, if_neg q]
      omega
    · have := pcd_pos q W (by omega)
      omega
theorem s_M_isWhole {n h W : Nat} {tx : Nat → Nat} {M : nf_M} {post : Int32 → nf_M → Prop} (hT : okT n tx) (hx : txM M n tx) (hP : PW n tx h W) (k : ∀ v M', kV M M' → mg_I M' 19 17 = zI (pcz tx h W) → mg_I M' 19 18 = zI (pg tx h W) → ((v = 1 ∧ OKW tx h W) ∨ (v = 0 ∧ ¬ OKW tx h W)) → post v M') : P_M_isWhole (zI h) (zI (h + W : Nat)) M post := by
  have hn := hT.1
  have hW := hP.1
  let A : Prop := 0 < W ∧ tx h ≠ 44 ∧ tx (h + W - 1) ≠ 44
  let GD1 : Nat → Prop := fun m => A ∧ (∀ j, j < m → tx (h + j) = 35 → pcz tx h j = 0) ∧ (∀ j, j < m → ¬ (tx (h + j) = 44 ∧ lkc n tx (h + j + 1) = 44))
  have gW : GD1 W ↔ OKW tx h W := by
    constructor
    · rintro ⟨a, b, c⟩
      refine ⟨a, b, fun m hm e => c m (by omega) ⟨e.1, ?_⟩⟩
      unfold lkc
      rw [if_pos (by omega)]
      exact e.2
    · rintro ⟨a, b, c⟩
      refine ⟨a, b, fun j hj e => ?_⟩
      by_cases q : j + 1 < W
      · refine c j q ⟨e.1, ?_⟩
        have e2 := e.2
        unfold lkc at e2
        rw [if_pos (by omega)] at e2
        exact e2
      · have e3 : h + W - 1 = h + j := by omega
        have := a.2.2
        rw [e3] at this
        exact this e.1
  have h55 : ∀ (d m : Nat) (x6 : Int32) (M1 : nf_M), d + m = W → kV M M1 → mg_I M1 19 17 = zI (pcz tx h m) → ((x6 = 1 ∧ GD1 m) ∨ (x6 = 0 ∧ ¬ GD1 m)) → B_M_isWhole_55 post (d + 1) (zI (h + W : Nat)) (zI (pcb tx h m)) (zI (pcd tx h m)) (zI (pcc tx h m)) x6 (zI (h + m : Nat)) M1 := by
    intro d
    induction d with
    | zero =>
      intro m x6 M1 hd hk f17 h6
      have em : m = W := by omega
      subst em
      obtain ⟨l1, l2, l3, l4⟩ := pc_le tx h m
      have h204 : ∀ v : Int32, v = zI (pg tx h m) → B_M_isWhole_204 post (zI (pcd tx h m)) x6 v M1 := by
        intro v ev
        unfold B_M_isWhole_204 B_M_isWhole_221 B_M_isWhole_222
        intro M2 e2
        have k2 : kV M M2 := hk.tr (by rw [e2]; exact kV_19 M1 18 v (Or.inr rfl))
        have g17 : mg_I M2 19 17 = zI (pcz tx h m) := by rw [e2, ms_19 _ _ _ _ (by decide)]; exact f17
        have g18 : mg_I M2 19 18 = zI (pg tx h m) := by rw [e2, ms_199, ev]
        rw [show (0 : Int32) = zI (0 : Nat) by decide, zlt (by omega) (by omega)]
        rcases h6 with ⟨e6, h6⟩ | ⟨e6, h6⟩
        · rw [e6]
          have hp := pcd_pos h6.1.2.1 m h6.1.1
          exact ⟨fun w => absurd w (by decide), fun _ => ⟨fun _ => ⟨rfl, k 1 M2 k2 g17 g18 (Or.inl ⟨rfl, gW.mp h6⟩)⟩, fun w => absurd hp w⟩⟩
        · rw [e6]
          exact ⟨fun _ => ⟨rfl, k 0 M2 k2 g17 g18 (Or.inr ⟨rfl, fun w => h6 (gW.mpr w)⟩)⟩, fun w => absurd rfl w⟩
      unfold B_M_isWhole_55
      rw [zlt (by omega) (by omega), z0' (by omega)]
      refine ⟨fun q => by omega, fun _ => ⟨fun q => h204 0 ?_, fun q => h204 _ ?_⟩⟩
      · unfold pg
        rw [if_pos q]
        rfl
      · unfold pg
        rw [if_neg q]
    | succ d ih =>
      intro m x6 M1 hd hk f17 h6
      have hc := hT.2 (h + m) (by omega)
      have el : lkc n tx (h + m) = tx (h + m) := if_pos (by omega)
      obtain ⟨l1, l2, l3, l4⟩ := pc_le tx h m
      have h153 : ∀ (x6' x5 : Int32) (M2 : nf_M), kV M M2 → mg_I M2 19 17 = zI (pcz tx h (m + 1)) → ((x6' = 1 ∧ GD1 (m + 1)) ∨ (x6' = 0 ∧ ¬ GD1 (m + 1))) → x5 = zI (pcc tx h (m + 1)) → B_M_isWhole_153 (fun x2 x3 x4 x5 x6 x7 z => B_M_isWhole_55 post (d + 1) x2 x3 x4 x5 x6 x7 z) post (zI (h + W : Nat)) (zI (pcb tx h m)) (zI (pcd tx h m)) x6' (zI (h + m : Nat)) (zI (tx (h + m))) x5 M2 := by
        intro x6' x5 M2 k2 g17 h6' e5
        have hi := ih (m + 1) x6' M2 (by omega) k2 g17 h6'
        unfold B_M_isWhole_153 B_M_isWhole_169 B_M_isWhole_184
        rw [show (44 : Int32) = zI (44 : Nat) by decide, zeq (by omega) (by omega), z_s (h + m), e5]
        refine ⟨fun q => ⟨fun _ t1 et => ?_, fun w => absurd q w⟩, fun q => ⟨fun w => absurd w q, fun _ t1 et => ?_⟩⟩
        · have e1 : pcb tx h (m + 1) = 0 := if_pos q
          have e2 : pcd tx h (m + 1) = pcd tx h m := by
            show pcd tx h m + (if tx (h + m) = 44 then 0 else 1) = _
            rw [if_pos q]
            rfl
          rw [e1, e2] at hi
          have : t1 = zI (pcd tx h m) := by rw [et, show (0 : Int32) = zI (0 : Nat) by decide, zI_add]; rfl
          rw [this]
          exact hi
        · have e1 : pcb tx h (m + 1) = pcb tx h m + 1 := if_neg q
          have e2 : pcd tx h (m + 1) = pcd tx h m + 1 := by
            show pcd tx h m + (if tx (h + m) = 44 then 0 else 1) = _
            rw [if_neg q]
          rw [e1, e2] at hi
          have : t1 = zI (pcd tx h m + 1 : Nat) := by rw [et, z_s]
          rw [this, z_s]
          exact hi
      have h132 : ∀ (x6' : Int32) (g : Nat) (G : Int32), G = zI g → g = (if tx (h + m) = 48 then 1 else 0) → ((x6' = 1 ∧ GD1 (m + 1)) ∨ (x6' = 0 ∧ ¬ GD1 (m + 1))) → B_M_isWhole_132 (fun x2 x3 x4 x5 x6 x7 z => B_M_isWhole_55 post (d + 1) x2 x3 x4 x5 x6 x7 z) post (zI (h + W : Nat)) (zI (pcb tx h m)) (zI (pcd tx h m)) (zI (pcc tx h m)) x6' (zI (h + m : Nat)) (zI (tx (h + m))) G (mg_I M1 19 17) M1 := by
        intro x6' g G eG eg h6'
        unfold B_M_isWhole_132 B_M_isWhole_148
        intro t1 et M2 e2
        rw [f17, eG, zI_add] at et
        have et' : t1 = zI (pcz tx h (m + 1)) := by
          rw [et]
          show zI ((pcz tx h m : Int) + (g : Int)) = zI ((pcz tx h m + (if tx (h + m) = 48 then 1 else 0) : Nat) : Int)
          rw [← eg]
          congr 1
        have k2 : kV M M2 := hk.tr (by rw [e2]; exact kV_19 M1 17 t1 (Or.inl rfl))
        have g17 : mg_I M2 19 17 = zI (pcz tx h (m + 1)) := by rw [e2, ms_199, et']
        have p1 : tx (h + m) = 44 → pcc tx h (m + 1) = 1 := fun q => if_pos q
        have p0 : ¬ tx (h + m) = 44 → pcc tx h (m + 1) = pcc tx h m := fun q => if_neg q
        rw [show (44 : Int32) = zI (44 : Nat) by decide, zeq (by omega) (by omega), z0' (by omega)]
        refine ⟨fun q => ⟨fun q2 => h153 x6' 1 M2 k2 g17 h6' (by rw [p1 q2]; rfl), fun q2 => h153 x6' 0 M2 k2 g17 h6' (by rw [p0 q2, q]; rfl)⟩, fun q => h153 x6' 1 M2 k2 g17 h6' ?_⟩
        by_cases q2 : tx (h + m) = 44
        · rw [p1 q2]; rfl
        · rw [p0 q2, show pcc tx h m = 1 by omega]; rfl
      have h113 : ∀ x6' : Int32, ((x6' = 1 ∧ GD1 (m + 1)) ∨ (x6' = 0 ∧ ¬ GD1 (m + 1))) → B_M_isWhole_113 (fun x2 x3 x4 x5 x6 x7 z => B_M_isWhole_55 post (d + 1) x2 x3 x4 x5 x6 x7 z) post (zI (h + W : Nat)) (zI (pcb tx h m)) (zI (pcd tx h m)) (zI (pcc tx h m)) (zI (h + m : Nat)) (zI (tx (h + m))) x6' M1 := by
        intro x6' h6'
        unfold B_M_isWhole_113
        rw [show (48 : Int32) = zI (48 : Nat) by decide, zeq (by omega) (by omega)]
        exact ⟨fun q => h132 x6' 1 1 (by decide) (by rw [if_pos q]) h6', fun q => h132 x6' 0 0 (by decide) (by rw [if_neg q]) h6'⟩
      have mono : GD1 (m + 1) → GD1 m := fun g => ⟨g.1, fun j hj => g.2.1 j (by omega), fun j hj => g.2.2 j (by omega)⟩
      have grow : GD1 m → (tx (h + m) = 35 → pcz tx h m = 0) → ¬ (tx (h + m) = 44 ∧ lkc n tx (h + m + 1) = 44) → GD1 (m + 1) := fun g a b => ⟨g.1, fun j hj => by
        by_cases c : j = m
        · rw [c]; exact a
        · exact g.2.1 j (by omega), fun j hj => by
        by_cases c : j = m
        · rw [c]; exact b
        · exact g.2.2 j (by omega)⟩
      unfold B_M_isWhole_55
      rw [zlt (by omega) (by omega)]
      refine ⟨fun _ => s_M_look hT (hk.txm hx) (by omega) ?_, fun q => by omega⟩
      rw [el]
      unfold B_M_isWhole_112
      rcases h6 with ⟨e6, g6⟩ | ⟨e6, g6⟩
      · rw [e6]
        refine ⟨fun w => absurd w (by decide), fun _ => ?_⟩
        have h88 : (tx (h + m) = 35 → pcz tx h m = 0) → B_M_isWhole_88 (fun x2 x3 x4 x5 x6 x7 z => B_M_isWhole_55 post (d + 1) x2 x3 x4 x5 x6 x7 z) post (zI (h + W : Nat)) (zI (pcb tx h m)) (zI (pcd tx h m)) (zI (pcc tx h m)) (zI (h + m : Nat)) (zI (tx (h + m))) M1 := by
          intro ha
          unfold B_M_isWhole_88 B_M_isWhole_112 B_M_isWhole_108
          have hlk := lkc_lt hT (h + m + 1)
          rw [show (44 : Int32) = zI (44 : Nat) by decide, zeq (by omega) (by omega), z_s (h + m)]
          refine ⟨fun q => s_M_look hT (hk.txm hx) (by omega) ?_, fun q => h113 1 (Or.inl ⟨rfl, grow g6 ha (fun w => q w.1)⟩)⟩
          rw [zeq (by omega) (by omega)]
          exact ⟨fun q2 => h113 0 (Or.inr ⟨rfl, fun w => w.2.2 m (by omega) ⟨q, q2⟩⟩), fun q2 => h113 1 (Or.inl ⟨rfl, grow g6 ha (fun w => q2 w.2)⟩)⟩
        rw [f17, show (35 : Int32) = zI (35 : Nat) by decide, zeq (by omega) (by omega), show (0 : Int32) = zI (0 : Nat) by decide, zlt (by omega) (by omega)]
        refine ⟨fun q => ⟨fun q2 => ?_, fun q2 => h88 (fun _ => by omega)⟩, fun q => h88 (fun w => absurd w q)⟩
        refine h113 0 (Or.inr ⟨rfl, fun w => ?_⟩)
        have := w.2.1 m (by omega) q
        omega
      · rw [e6]
        exact ⟨fun _ => h113 0 (Or.inr ⟨rfl, fun w => g6 (mono w)⟩), fun w => absurd rfl w⟩
  unfold P_M_isWhole
  intro M1 e1 M2 e2
  have k2 : kV M M2 := by rw [e2, e1]; exact (kV_19 M 17 0 (Or.inl rfl)).tr (kV_19 _ 18 0 (Or.inr rfl))
  have f17 : mg_I M2 19 17 = zI (0 : Nat) := by rw [e2, ms_19 _ _ _ _ (by decide), e1, ms_199]; rfl
  have h50 : ∀ x6 : Int32, ((x6 = 1 ∧ A) ∨ (x6 = 0 ∧ ¬ A)) → B_M_isWhole_50 post (zI h) (zI (h + W : Nat)) 0 0 0 x6 M2 := fun x6 h6 => by
    unfold B_M_isWhole_50
    refine ⟨W + 1, h55 W 0 x6 M2 (by omega) k2 f17 ?_⟩
    rcases h6 with ⟨a, b⟩ | ⟨a, b⟩
    · exact Or.inl ⟨a, b, fun j hj => absurd hj (Nat.not_lt_zero _), fun j hj => absurd hj (Nat.not_lt_zero _)⟩
    · exact Or.inr ⟨a, fun w => b w.1⟩
  unfold B_M_isWhole_49
  rw [zlt (by omega) (by omega)]
  refine ⟨fun q => s_M_look hT (k2.txm hx) (by omega) ?_, fun q => h50 0 (Or.inr ⟨rfl, fun w => by have := w.1; omega⟩)⟩
  have hc := hT.2 h (by omega)
  have hc2 := hT.2 (h + W - 1) (by omega)
  have e1' : lkc n tx h = tx h := if_pos (by omega)
  have e2' : lkc n tx (h + W - 1) = tx (h + W - 1) := if_pos (by omega)
  rw [e1', show (44 : Int32) = zI (44 : Nat) by decide, zeq (by omega) (by omega), e1i, zI_sub, show ((h + W : Nat) : Int) - (1 : Nat) = ((h + W - 1 : Nat) : Int) by omega]
  refine ⟨fun q2 => h50 0 (Or.inr ⟨rfl, fun w => w.2.1 q2⟩), fun q2 => s_M_look hT (k2.txm hx) (by omega) ?_⟩
  rw [e2', zeq (by omega) (by omega)]
  exact ⟨fun q3 => h50 0 (Or.inr ⟨rfl, fun w => w.2.2 q3⟩), fun q3 => h50 1 (Or.inl ⟨rfl, by omega, q2, q3⟩)⟩
