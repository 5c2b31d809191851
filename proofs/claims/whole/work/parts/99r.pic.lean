/-! picture: what stands in the text; the system's way through it -/
def pmk (c : Nat) : Prop := c = 35 ∨ c = 48 ∨ c = 44 ∨ c = 46
def prt (c : Nat) : Prop := c = 35 ∨ c = 48 ∨ c = 44
def dmk (c : Nat) : Prop := c = 35 ∨ c = 48
/-- of the first k characters of the whole part: zeros, hashes, digits behind the last comma, whether there is a comma -/
def pcz (tx : Nat → Nat) (h : Nat) : Nat → Nat
  | 0 => 0
  | k + 1 => pcz tx h k + (if tx (h + k) = 48 then 1 else 0)
def pch (tx : Nat → Nat) (h : Nat) : Nat → Nat
  | 0 => 0
  | k + 1 => pch tx h k + (if tx (h + k) = 35 then 1 else 0)
def pcb (tx : Nat → Nat) (h : Nat) : Nat → Nat
  | 0 => 0
  | k + 1 => if tx (h + k) = 44 then 0 else pcb tx h k + 1
def pcc (tx : Nat → Nat) (h : Nat) : Nat → Nat
  | 0 => 0
  | k + 1 => if tx (h + k) = 44 then 1 else pcc tx h k
def pcd (tx : Nat → Nat) (h : Nat) : Nat → Nat
  | 0 => 0
  | k + 1 => pcd tx h k + (if tx (h + k) = 44 then 0 else 1)
theorem pc_le (tx : Nat → Nat) (h : Nat) : ∀ k, pcz tx h k + pch tx h k ≤ k ∧ pcb tx h k ≤ k ∧ pcc tx h k ≤ 1 ∧ pcd tx h k ≤ k
  | 0 => ⟨Nat.le_refl _, Nat.le_refl _, Nat.zero_le _, Nat.le_refl _⟩
  | k + 1 => by
    obtain ⟨a, b, c, d⟩ := pc_le tx h k
    unfold pcz pch pcb pcc pcd
    by_cases q : tx (h + k) = 44
    · rw [if_neg (by omega), if_neg (by omega), if_pos q, if_pos q, if_pos q]
      omega
    · rw [if_neg q, if_neg q, if_neg q]
      by_cases q2 : tx (h + k) = 48
      · rw [if_pos q2, if_neg (by omega)]
        omega
      · rw [if_neg q2]
        by_cases q3 : tx (h + k) = 35
        · rw [if_pos q3]
          omega
        · rw [if_neg q3]
          omega
def pg (tx : Nat → Nat) (h W : Nat) : Nat := if pcc tx h W = 0 then 0 else pcb tx h W
def HD (n : Nat) (tx : Nat → Nat) (h : Nat) : Prop := h ≤ n ∧ (∀ i, i < h → ¬ pmk (tx i) ∧ tx i ≠ 37) ∧ (h < n → pmk (tx h) ∨ tx h = 37)
def wm (tx : Nat → Nat) (h m : Nat) : Prop := tx (h + m) = 44 ∨ tx (h + m) = 48 ∨ (tx (h + m) = 35 ∧ pcz tx h m = 0)
def WH (n : Nat) (tx : Nat → Nat) (h W : Nat) : Prop := h + W ≤ n ∧ (∀ m, m < W → wm tx h m) ∧ (h + W < n → ¬ wm tx h W)
def PW (n : Nat) (tx : Nat → Nat) (h W : Nat) : Prop := h + W ≤ n ∧ (∀ m, m < W → prt (tx (h + m))) ∧ (h + W < n → ¬ prt (tx (h + W)))
def RN (n : Nat) (tx : Nat → Nat) (c f a : Nat) : Prop := f ≤ a ∧ a ≤ n ∧ (∀ i, f ≤ i → i < a → tx i = c) ∧ (a < n → tx a ≠ c)
def FPt (n : Nat) (tx : Nat → Nat) (w a b : Nat) : Prop := (w < n ∧ tx w = 46 ∧ RN n tx 48 (w + 1) a ∧ RN n tx 35 a b) ∨ (¬ (w < n ∧ tx w = 46) ∧ a = w ∧ b = w)
def NPt (n : Nat) (tx : Nat → Nat) (b : Nat) : Prop := ∀ i, b ≤ i → i < n → tx i ≠ 37
def TLt (n : Nat) (tx : Nat → Nat) (b : Nat) : Prop := ∀ i, b ≤ i → i < n → ¬ pmk (tx i)
def PIc (n : Nat) (tx : Nat → Nat) (h W a b : Nat) : Prop := HD n tx h ∧ PW n tx h W ∧ FPt n tx (h + W) a b
def OKP (n : Nat) (tx : Nat → Nat) (h W b : Nat) : Prop := 0 < W ∧ tx h ≠ 44 ∧ tx (h + W - 1) ≠ 44 ∧ (∀ m, m < W → tx (h + m) = 35 → pcz tx h m = 0) ∧ (∀ m, m + 1 < W → ¬ (tx (h + m) = 44 ∧ tx (h + m + 1) = 44)) ∧ TLt n tx b
def cmk (n : Nat) (tx : Nat → Nat) (i : Nat) : Prop := (0 < i ∧ dmk (tx (i - 1))) ∧ dmk (chr tx n (i + 1))
def OKS (n : Nat) (tx : Nat → Nat) (h W b : Nat) : Prop := 0 < pch tx h W + pcz tx h W ∧ (∀ i, h ≤ i → i < h + W → tx i = 44 → cmk n tx i) ∧ TLt n tx b
theorem HD_1 {n : Nat} {tx : Nat → Nat} {h h' : Nat} (a : HD n tx h) (b : HD n tx h') : h = h' := by
  obtain ⟨a1, a2, a3⟩ := a
  obtain ⟨b1, b2, b3⟩ := b
  rcases Nat.lt_trichotomy h h' with q | q | q
  · obtain ⟨c1, c2⟩ := b2 h q
    rcases a3 (by omega) with d | d
    · exact absurd d c1
    · exact absurd d c2
  · exact q
  · obtain ⟨c1, c2⟩ := a2 h' q
    rcases b3 (by omega) with d | d
    · exact absurd d c1
    · exact absurd d c2
theorem PW_1 {n : Nat} {tx : Nat → Nat} {h W W' : Nat} (a : PW n tx h W) (b : PW n tx h W') : W = W' := by
  obtain ⟨a1, a2, a3⟩ := a
  obtain ⟨b1, b2, b3⟩ := b
  rcases Nat.lt_trichotomy W W' with q | q | q
  · exact absurd (b2 W q) (a3 (by omega))
  · exact q
  · exact absurd (a2 W' q) (b3 (by omega))
theorem RN_1 {n : Nat} {tx : Nat → Nat} {c f a a' : Nat} (h : RN n tx c f a) (h' : RN n tx c f a') : a = a' := by
  obtain ⟨a1, a2, a3, a4⟩ := h
  obtain ⟨b1, b2, b3, b4⟩ := h'
  rcases Nat.lt_trichotomy a a' with q | q | q
  · exact absurd (b3 a a1 q) (a4 (by omega))
  · exact q
  · exact absurd (a3 a' b1 q) (b4 (by omega))
theorem FPt_1 {n : Nat} {tx : Nat → Nat} {w a b a' b' : Nat} (h : FPt n tx w a b) (h' : FPt n tx w a' b') : a = a' ∧ b = b' := by
  rcases h with ⟨h1, h2, h3, h4⟩ | ⟨h1, h2, h3⟩ <;> rcases h' with ⟨g1, g2, g3, g4⟩ | ⟨g1, g2, g3⟩
  · have := RN_1 h3 g3
    subst this
    exact ⟨rfl, RN_1 h4 g4⟩
  · exact absurd ⟨h1, h2⟩ g1
  · exact absurd ⟨g1, g2⟩ h1
  · omega
theorem PIc_1 {n : Nat} {tx : Nat → Nat} {h W a b h' W' a' b' : Nat} (x : PIc n tx h W a b) (y : PIc n tx h' W' a' b') : h = h' ∧ W = W' ∧ a = a' ∧ b = b' := by
  obtain ⟨x1, x2, x3⟩ := x
  obtain ⟨y1, y2, y3⟩ := y
  have := HD_1 x1 y1
  subst this
  have := PW_1 x2 y2
  subst this
  exact ⟨rfl, rfl, FPt_1 x3 y3⟩
theorem wm_prt {tx : Nat → Nat} {h m : Nat} (q : wm tx h m) : prt (tx (h + m)) := by
  unfold wm at q
  unfold prt
  omega
/-- the system's whole part is the reference's, where either finds a picture -/
theorem OKP_W {n : Nat} {tx : Nat → Nat} {h W0 W a b : Nat} (hW : WH n tx h W0) (hP : PW n tx h W) (ok : OKP n tx h W b) : W0 = W := by
  obtain ⟨a1, a2, a3⟩ := hW
  obtain ⟨b1, b2, b3⟩ := hP
  rcases Nat.lt_trichotomy W0 W with q | q | q
  · exfalso
    refine a3 (by omega) ?_
    have h1 := b2 W0 q
    have h2 := ok.2.2.2.1 W0 q
    unfold prt at h1
    unfold wm
    by_cases c : tx (h + W0) = 35
    · exact Or.inr (Or.inr ⟨c, h2 c⟩)
    · omega
  · exact q
  · exact absurd (wm_prt (a2 W q)) (b3 (by omega))
theorem pc_pos {tx : Nat → Nat} {h : Nat} (q : dmk (tx h)) : ∀ W, 0 < W → 0 < pch tx h W + pcz tx h W
  | 0, z => absurd z (by decide)
  | W + 1, _ => by
    unfold pch pcz
    by_cases c : W = 0
    · subst c
      unfold dmk at q
      rw [Nat.add_zero]
      rcases q with q | q
      · rw [if_pos q]; omega
      · rw [if_pos q]; split <;> omega
    · have := pc_pos q W (by omega)
      omega
theorem OKP_S {n : Nat} {tx : Nat → Nat} {h W b : Nat} (hP : PW n tx h W) (ok : OKP n tx h W b) : OKS n tx h W b := by
  obtain ⟨b1, b2, b3⟩ := hP
  obtain ⟨o1, o2, o3, o4, o5, o6⟩ := ok
  refine ⟨pc_pos ?_ W o1, fun i h1 h2 h3 => ?_, o6⟩
  · have := b2 0 o1
    rw [Nat.add_zero] at this
    unfold prt at this
    unfold dmk
    omega
  · obtain ⟨m, rfl⟩ : ∃ m, i = h + m := ⟨i - h, by omega⟩
    have hm0 : m ≠ 0 := fun e => by
      rw [e, Nat.add_zero] at h3
      exact o2 h3
    have hm1 : m + 1 < W := by
      refine Nat.lt_of_not_le fun e => ?_
      have e2 : h + W - 1 = h + m := by omega
      rw [e2] at o3
      exact o3 h3
    have p1 := b2 (m - 1) (by omega)
    have p2 := b2 (m + 1) (by omega)
    have n1 := o5 (m - 1) (by omega)
    have n2 := o5 m hm1
    have e1 : h + (m - 1) = h + m - 1 := by omega
    rw [e1] at p1 n1
    have e3 : h + m - 1 + 1 = h + m := by omega
    rw [e3] at n1
    have e4 : h + (m + 1) = h + m + 1 := by omega
    rw [e4] at p2
    unfold prt at p1 p2
    refine ⟨⟨by omega, ?_⟩, ?_⟩
    · unfold dmk
      have : tx (h + m - 1) ≠ 44 := fun e => n1 ⟨e, h3⟩
      omega
    · unfold chr
      rw [if_pos (by omega)]
      unfold dmk
      have : tx (h + m + 1) ≠ 44 := fun e => n2 ⟨h3, e⟩
      omega
theorem OKS_P {n : Nat} {tx : Nat → Nat} {h W a b : Nat} (hH : HD n tx h) (hW : WH n tx h W) (hF : FPt n tx (h + W) a b) (ok : OKS n tx h W b) : PW n tx h W ∧ OKP n tx h W b := by
  obtain ⟨a1, a2, a3⟩ := hW
  obtain ⟨o1, o2, o3⟩ := ok
  have hno : h + W < n → ¬ prt (tx (h + W)) := fun q q2 => by
    have hn := a3 q
    have e35 : tx (h + W) = 35 := by
      unfold prt at q2
      unfold wm at hn
      omega
    rcases hF with ⟨f1, f2, -⟩ | ⟨f1, f2, f3⟩
    · omega
    · exact o3 (h + W) (by omega) q (Or.inl e35)
  have hW0 : 0 < W := by
    refine Nat.pos_of_ne_zero fun e => ?_
    rw [e] at o1
    exact absurd o1 (by show ¬ 0 < 0 + 0; decide)
  refine ⟨⟨a1, fun m hm => wm_prt (a2 m hm), hno⟩, hW0, fun e => ?_, fun e => ?_, fun m hm e => ?_, fun m hm e => ?_, o3⟩
  · obtain ⟨⟨c1, c2⟩, c3⟩ := o2 h (Nat.le_refl _) (by omega) e
    have := (hH.2.1 (h - 1) (by omega)).1
    unfold dmk at c2
    unfold pmk at this
    omega
  · obtain ⟨⟨c1, c2⟩, c3⟩ := o2 (h + W - 1) (by omega) (by omega) e
    have e2 : h + W - 1 + 1 = h + W := by omega
    rw [e2] at c3
    unfold chr dmk at c3
    by_cases q : h + W < n
    · rw [if_pos q] at c3
      have := hno q
      unfold prt at this
      omega
    · rw [if_neg q] at c3
      omega
  · have := a2 m hm
    unfold wm at this
    omega
  · obtain ⟨⟨c1, c2⟩, c3⟩ := o2 (h + m) (by omega) (by omega) e.1
    unfold chr dmk at c3
    rw [if_pos (by omega)] at c3
    omega
/-- the system's picture alone changes -/
def k7 (M M' : nf_M) : Prop := M'.2 = M.2 ∧ ∀ o, o ≠ 7 → mg_I M' o = mg_I M o
theorem k7.rf (M : nf_M) : k7 M M := ⟨rfl, fun _ _ => rfl⟩
theorem k7.tr {A B C : nf_M} (h1 : k7 A B) (h2 : k7 B C) : k7 A C := ⟨h2.1.trans h1.1, fun o ho => (h2.2 o ho).trans (h1.2 o ho)⟩
theorem k7_I (M : nf_M) (k : Nat) (v : Int32) : k7 M (ms_I M 7 k v) := ⟨rfl, fun o ho => by
  show (if o = 7 then _ else mg_I M o) = _
  rw [if_neg ho]⟩
theorem ms_7 (M : nf_M) (k j : Nat) (v : Int32) (h : j ≠ k) : mg_I (ms_I M 7 k v) 7 j = mg_I M 7 j := by
  show (if j = k then v else mg_I M 7 j) = _
  rw [if_neg h]
theorem ms_77 (M : nf_M) (k : Nat) (v : Int32) : mg_I (ms_I M 7 k v) 7 k = v := by
  show (if k = k then v else mg_I M 7 k) = _
  rw [if_pos rfl]
theorem k7.row {M M' : nf_M} (h : k7 M M') {b : Bool} {n : Nat} {tx : Nat → Nat} (hr : rowF M b n tx) : rowF M' b n tx := by
  unfold rowF mg_N mg_C at *
  rw [h.1]
  exact hr
theorem iv_7 {M M' : nf_M} {n m : Nat} {tx ou : Nat → Nat} {rg : Nat → nf_V} (h : iv_1 M n tx m ou rg) (k : k7 M M') : iv_1 M' n tx m ou rg := by
  obtain ⟨a1, a2, a3, a4, a5, a6, a7⟩ := h
  refine ⟨a1, k.row a2, ?_, a4, k.row a5, ?_, fun r hr => ?_⟩
  · unfold txM at *
    rw [k.2 19 (by decide), k.2 20 (by decide)]
    exact a3
  · unfold ouM at *
    rw [k.2 19 (by decide), k.2 21 (by decide)]
    exact a6
  · obtain ⟨c1, c2, c3⟩ := a7 r hr
    refine ⟨c1, ?_, ?_⟩
    · unfold rgM mg_L mg_D at *
      rw [k.2 22 (by decide), k.2 24 (by decide), k.1]
      exact c2
    · unfold rgF mg_T mg_U mg_S mg_R at *
      rw [k.1]
      exact c3
theorem s_atC {n i : Nat} {tx : Nat → Nat} {M : nf_M} {post : Int32 → nf_M → Prop} (hT : okT n tx) (hr : rowF M false n tx) (hi : i < 1000) (k : post (zI (chr tx n i)) M) : P_R_at false (zI i) M post := by
  have hn := hT.1
  unfold chr at k
  refine s_R_at hr (by show n ≤ 40; exact hn) (fun j hj => by have := hT.2 j hj; omega) (fun j hj e => ?_) (fun q => ?_)
  · rw [zeq (by omega) (by omega)] at e
    subst e
    rw [if_pos hj] at k
    exact k
  · rw [z_of (by omega)] at q
    rw [if_neg (by omega)] at k
    exact k
theorem s_at_1 {n i : Nat} {tx : Nat → Nat} {M : nf_M} {post : Int32 → nf_M → Prop} (hT : okT n tx) (hr : rowF M false n tx) (hi : i < n) (k : post (zI (if i = 0 then 0 else tx (i - 1) : Nat)) M) : P_R_at false (zI i - (1 : Int32)) M post := by
  have hn := hT.1
  rw [e1i, zI_sub]
  by_cases c : i = 0
  · rw [if_pos c] at k
    subst c
    refine s_R_at hr (by show n ≤ 40; exact hn) (fun j hj => by have := hT.2 j hj; omega) (fun j hj e => ?_) (fun q => k)
    exfalso
    rw [zI_eq (by omega) (by omega) (by omega) (by omega)] at e
    omega
  · rw [if_neg c] at k
    rw [show (i : Int) - (1 : Nat) = ((i - 1 : Nat) : Int) by omega]
    exact s_at hT hr (by omega) k
theorem s_P_isMark {c : Nat} {M : nf_M} {post : Int32 → nf_M → Prop} (hc : c < 1000) (k1 : pmk c → post 1 M) (k0 : ¬ pmk c → post 0 M) : P_P_isMark (zI c) M post := by
  unfold P_P_isMark B_P_isMark_24 B_P_isMark_29
  unfold pmk at k1 k0
  rw [show (35 : Int32) = zI (35 : Nat) by decide, show (48 : Int32) = zI (48 : Nat) by decide, show (44 : Int32) = zI (44 : Nat) by decide, show (46 : Int32) = zI (46 : Nat) by decide, zeq (by omega) (by omega), zeq (by omega) (by omega), zeq (by omega) (by omega), zeq (by omega) (by omega)]
  exact ⟨fun q => ⟨rfl, k1 (by omega)⟩, fun q1 => ⟨fun q => ⟨rfl, k1 (by omega)⟩, fun q2 => ⟨fun q => ⟨rfl, k1 (by omega)⟩, fun q3 => ⟨fun q => ⟨rfl, k1 (by omega)⟩, fun q4 => ⟨rfl, k0 (by omega)⟩⟩⟩⟩⟩
theorem s_P_isWholeMark {c z : Nat} {M : nf_M} {post : Int32 → nf_M → Prop} (hc : c < 1000) (hz : z < 1000) (g : mg_I M 7 3 = zI z) (k1 : c = 44 ∨ c = 48 ∨ (c = 35 ∧ z = 0) → post 1 M) (k0 : ¬ (c = 44 ∨ c = 48 ∨ (c = 35 ∧ z = 0)) → post 0 M) : P_P_isWholeMark (zI c) M post := by
  unfold P_P_isWholeMark B_P_isWholeMark_25 B_P_isWholeMark_29 B_P_isWholeMark_30
  rw [g, z0' (by omega), show (35 : Int32) = zI (35 : Nat) by decide, show (48 : Int32) = zI (48 : Nat) by decide, show (44 : Int32) = zI (44 : Nat) by decide, zeq (by omega) (by omega), zeq (by omega) (by omega), zeq (by omega) (by omega)]
  exact ⟨fun q => ⟨rfl, k1 (by omega)⟩, fun q1 => ⟨fun q => ⟨rfl, k1 (by omega)⟩, fun q2 => ⟨fun q => ⟨fun q3 => ⟨rfl, k1 (by omega)⟩, fun q3 => ⟨rfl, k0 (by omega)⟩⟩, fun q => ⟨rfl, k0 (by omega)⟩⟩⟩⟩
theorem s_P_endOfHead {n : Nat} {tx : Nat → Nat} {M : nf_M} {post : Int32 → nf_M → Prop} (hT : okT n tx) (hr : rowF M false n tx) (k : ∀ h, HD n tx h → post (zI (h : Nat)) M) : P_P_endOfHead false M post := by
  have hn := hT.1
  have h2 : ∀ d i : Nat, d + i = n → (∀ j, j < i → ¬ pmk (tx j) ∧ tx j ≠ 37) → B_P_endOfHead_2 post (d + 1) false (zI i) M := by
    intro d
    induction d with
    | zero =>
      intro i hi h1
      unfold B_P_endOfHead_2 B_P_endOfHead_37
      rw [hr.1, zlt (by omega) (by omega)]
      exact ⟨fun q => by omega, fun _ => k i ⟨by omega, h1, fun q => by omega⟩⟩
    | succ d ih =>
      intro i hi h1
      have hc := hT.2 i (by omega)
      unfold B_P_endOfHead_2 B_P_endOfHead_37
      rw [hr.1, zlt (by omega) (by omega)]
      refine ⟨fun _ => s_at hT hr (by omega) (s_P_isMark (by omega) (fun q => ⟨fun w => absurd w (by decide), fun _ => k i ⟨by omega, h1, fun _ => Or.inl q⟩⟩) (fun q => ⟨fun _ => s_at hT hr (by omega) ?_, fun w => absurd rfl w⟩)), fun q => by omega⟩
      rw [show (37 : Int32) = zI (37 : Nat) by decide, zeq (by omega) (by omega), z_s]
      refine ⟨fun q2 => k i ⟨by omega, h1, fun _ => Or.inr q2⟩, fun q2 => ih (i + 1) (by omega) (fun j hj => ?_)⟩
      by_cases c : j = i
      · rw [c]; exact ⟨q, q2⟩
      · exact h1 j (by omega)
  exact ⟨n + 1, h2 n 0 (by omega) (fun j hj => absurd hj (Nat.not_lt_zero _))⟩
theorem s_P_parseWhole {n h : Nat} {tx : Nat → Nat} {M : nf_M} {post : Int32 → nf_M → Prop} (hT : okT n tx) (hr : rowF M false n tx) (hh : h ≤ n) (g0 : mg_I M 7 0 = zI h) (k : ∀ W M', WH n tx h W → k7 M M' → mg_I M' 7 0 = zI h → mg_I M' 7 2 = zI (pch tx h W) → mg_I M' 7 3 = zI (pcz tx h W) → mg_I M' 7 4 = zI (pg tx h W) → post (zI (h + W : Nat)) M') : P_P_parseWhole false M post := by
  have hn := hT.1
  have hfin : ∀ (m : Nat) (M1 : nf_M), WH n tx h m → k7 M M1 → mg_I M1 7 0 = zI h → mg_I M1 7 2 = zI (pch tx h m) → mg_I M1 7 3 = zI (pcz tx h m) → B_P_parseWhole_124 post (zI (pcb tx h m)) (zI (pcc tx h m)) (zI (h + m : Nat)) M1 := by
    intro m M1 hW hk f0 f2 f3
    obtain ⟨l1, l2, l3, l4⟩ := pc_le tx h m
    have hm := hW.1
    unfold B_P_parseWhole_124 B_P_parseWhole_134
    rw [z0' (by omega)]
    have go : ∀ v : Int32, v = zI (pg tx h m) → ∀ M2 : nf_M, M2 = ms_I M1 7 4 v → post (zI (h + m : Nat)) M2 := fun v ev M2 e2 =>
      k m M2 hW (hk.tr (by rw [e2]; exact k7_I M1 4 v)) (by rw [e2, ms_7 _ _ _ _ (by decide)]; exact f0) (by rw [e2, ms_7 _ _ _ _ (by decide)]; exact f2) (by rw [e2, ms_7 _ _ _ _ (by decide)]; exact f3) (by rw [e2, ms_77]; exact ev)
    exact ⟨fun q => go 0 (by unfold pg; rw [if_pos q]; decide), fun q => go _ (by unfold pg; rw [if_neg q])⟩
  have h25 : ∀ (d m : Nat) (M1 : nf_M), d + (h + m) = n → (∀ j, j < m → wm tx h j) → k7 M M1 → mg_I M1 7 0 = zI h → mg_I M1 7 2 = zI (pch tx h m) → mg_I M1 7 3 = zI (pcz tx h m) → B_P_parseWhole_25 post (d + 1) false (zI (pcb tx h m)) (zI (pcc tx h m)) (zI (h + m : Nat)) M1 := by
    intro d
    induction d with
    | zero =>
      intro m M1 hd hw hk f0 f2 f3
      unfold B_P_parseWhole_25
      rw [(hk.row hr).1, zlt (by omega) (by omega)]
      exact ⟨fun q => by omega, fun _ => hfin m M1 ⟨by omega, hw, fun q => by omega⟩ hk f0 f2 f3⟩
    | succ d ih =>
      intro m M1 hd hw hk f0 f2 f3
      have hr1 := hk.row hr
      have hc := hT.2 (h + m) (by omega)
      obtain ⟨l1, l2, l3, l4⟩ := pc_le tx h m
      have z1 : ∀ j, j < m + 1 → wm tx h m → wm tx h j := fun j hj q => by
        by_cases c : j = m
        · rw [c]; exact q
        · exact hw j (by omega)
      unfold B_P_parseWhole_25
      rw [hr1.1, zlt (by omega) (by omega)]
      refine ⟨fun _ => s_at hT hr1 (by omega) (s_P_isWholeMark (by omega) (show pcz tx h m < 1000 by omega) f3 (fun q => ⟨fun w => absurd w (by decide), fun _ => s_at hT hr1 (by omega) ?_⟩) (fun q => ⟨fun _ => hfin m M1 ⟨by omega, hw, fun _ => q⟩ hk f0 f2 f3, fun w => absurd rfl w⟩)), fun q => by omega⟩
      have q' : wm tx h m := q
      unfold B_P_parseWhole_118
      rw [show (44 : Int32) = zI (44 : Nat) by decide, zeq (by omega) (by omega), z_s]
      refine ⟨fun q2 => ?_, fun q2 => s_at hT hr1 (by omega) ?_⟩
      · have e1 : pcb tx h (m + 1) = 0 := if_pos q2
        have e2 : pcc tx h (m + 1) = 1 := if_pos q2
        have e3 : pch tx h (m + 1) = pch tx h m := by
          show pch tx h m + (if tx (h + m) = 35 then 1 else 0) = _
          rw [if_neg (by omega)]
          rfl
        have e4 : pcz tx h (m + 1) = pcz tx h m := by
          show pcz tx h m + (if tx (h + m) = 48 then 1 else 0) = _
          rw [if_neg (by omega)]
          rfl
        have hi := ih (m + 1) M1 (by omega) (fun j hj => z1 j hj q') hk f0 (by rw [e3]; exact f2) (by rw [e4]; exact f3)
        rw [e1, e2] at hi
        exact hi
      · have e1 : pcb tx h (m + 1) = pcb tx h m + 1 := if_neg q2
        have e2 : pcc tx h (m + 1) = pcc tx h m := if_neg q2
        have h89 : ∀ (g : Nat) (G : Int32), G = zI g → g = (if tx (h + m) = 35 then 1 else 0) → B_P_parseWhole_89 (fun b1 x2 x3 x4 z => B_P_parseWhole_25 post (d + 1) b1 x2 x3 x4 z) post false (zI (pcb tx h m + 1 : Nat)) (zI (pcc tx h m)) (zI (h + m : Nat)) G (mg_I M1 7 2) M1 := by
          intro g G eG eg
          subst eG
          unfold B_P_parseWhole_89 B_P_parseWhole_114 B_P_parseWhole_118
          intro t1 et M2 eM
          rw [f2, zI_add] at et
          have et' : t1 = zI (pch tx h (m + 1)) := by
            rw [et]
            show zI ((pch tx h m : Int) + (g : Int)) = zI ((pch tx h m + (if tx (h + m) = 35 then 1 else 0) : Nat) : Int)
            rw [← eg]
            congr 1
          have hr2 : rowF M2 false n tx := by rw [eM]; exact (k7_I M1 2 t1).row hr1
          have f2' : mg_I M2 7 2 = zI (pch tx h (m + 1)) := by rw [eM, ms_77, et']
          have f0' : mg_I M2 7 0 = zI h := by rw [eM, ms_7 _ _ _ _ (by decide)]; exact f0
          have f3' : mg_I M2 7 3 = zI (pcz tx h m) := by rw [eM, ms_7 _ _ _ _ (by decide)]; exact f3
          have k2 : k7 M M2 := hk.tr (by rw [eM]; exact k7_I M1 2 t1)
          refine s_at hT hr2 (by omega) ?_
          rw [show (48 : Int32) = zI (48 : Nat) by decide, zeq (by omega) (by omega), f3', z_s (h + m)]
          have hend : ∀ (g2 : Nat) (G2 : Int32), G2 = zI g2 → g2 = (if tx (h + m) = 48 then 1 else 0) → ∀ t3 : Int32, t3 = zI (pcz tx h m) + G2 → ∀ M3 : nf_M, M3 = ms_I M2 7 3 t3 → B_P_parseWhole_25 post (d + 1) false (zI (pcb tx h m + 1 : Nat)) (zI (pcc tx h m)) (zI (h + m + 1 : Nat)) M3 := by
            intro g2 G2 eG2 eg2 t3 e3 M3 eM3
            subst eG2
            rw [zI_add] at e3
            have e3' : t3 = zI (pcz tx h (m + 1)) := by
              rw [e3]
              show zI ((pcz tx h m : Int) + (g2 : Int)) = zI ((pcz tx h m + (if tx (h + m) = 48 then 1 else 0) : Nat) : Int)
              rw [← eg2]
              congr 1
            have hi := ih (m + 1) M3 (by omega) (fun j hj => z1 j hj q') (k2.tr (by rw [eM3]; exact k7_I M2 3 t3)) (by rw [eM3, ms_7 _ _ _ _ (by decide)]; exact f0') (by rw [eM3, ms_7 _ _ _ _ (by decide)]; exact f2') (by rw [eM3, ms_77, e3'])
            rw [e1, e2] at hi
            exact hi
          exact ⟨fun z => hend 1 1 (by decide) (by rw [if_pos z]), fun z => hend 0 0 (by decide) (by rw [if_neg z])⟩
        rw [show (35 : Int32) = zI (35 : Nat) by decide, zeq (by omega) (by omega), z_s]
        exact ⟨fun z => h89 1 1 (by decide) (by rw [if_pos z]), fun z => h89 0 0 (by decide) (by rw [if_neg z])⟩
  unfold P_P_parseWhole
  intro M1 e1 M2 e2 M3 e3 t4 e4
  have k3 : k7 M M3 := by rw [e3, e2, e1]; exact (k7_I M 2 0).tr ((k7_I _ 3 0).tr (k7_I _ 4 0))
  have f0 : mg_I M3 7 0 = zI h := by rw [e3, ms_7 _ _ _ _ (by decide), e2, ms_7 _ _ _ _ (by decide), e1, ms_7 _ _ _ _ (by decide)]; exact g0
  rw [f0] at e4
  refine ⟨n - h + 1, ?_⟩
  rw [e4]
  have hi := h25 (n - h) 0 M3 (by omega) (fun j hj => absurd hj (Nat.not_lt_zero _)) k3 f0 (by rw [e3, ms_7 _ _ _ _ (by decide), e2, ms_7 _ _ _ _ (by decide), e1, ms_77]; rfl) (by rw [e3, ms_7 _ _ _ _ (by decide), e2, ms_77]; rfl)
  exact hi
