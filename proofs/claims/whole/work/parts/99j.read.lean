/-! read: the system -/
def EX (tx : Nat → Nat) (i b m : Nat) : Prop := m ≤ 3 ∧ i + m ≤ b ∧ (∀ k, k < m → dig (tx (i + k))) ∧ (m = 3 ∨ i + m = b ∨ ¬ dig (tx (i + m)))
theorem EX_1 {tx : Nat → Nat} {i b m m' : Nat} (h : EX tx i b m) (h' : EX tx i b m') : m = m' := by
  have key : ∀ m m' : Nat, EX tx i b m → EX tx i b m' → m < m' → False := by
    intro m m' h h' q
    obtain ⟨a1, a2, a3, a4⟩ := h
    obtain ⟨b1, b2, b3, b4⟩ := h'
    rcases a4 with c | c | c
    · omega
    · omega
    · exact c (b3 m q)
  rcases Nat.lt_trichotomy m m' with q | q | q
  · exact (key m m' h h' q).elim
  · exact q
  · exact (key m' m h' h q).elim
def xdv (tx : Nat → Nat) (i m : Nat) : Nat := vd (fun k => tx (i + k) - 48) m
theorem xdv_lt {tx : Nat → Nat} {i b m : Nat} (h : EX tx i b m) : xdv tx i m < 10 ^ m := by
  refine vd_lt _ m (fun k hk => ?_)
  have := h.2.2.1 k hk
  unfold dig at this
  omega
def xsg (neg : Bool) (v : Nat) : Int := if neg then -(v : Int) else v
theorem s_N_exp78 {n i b : Nat} {tx : Nat → Nat} {x2 : Int32} {neg : Bool} {M0 : nf_M} {post : Int32 → nf_M → Prop} {pw : Int} (hT : okT n tx) (hr : rowF M0 false n tx) (hb : b ≤ n) (hs : x2 = 0 ↔ neg = false) (hpw : -100 < pw ∧ pw < 100) (k : ∀ m M', EX tx i b m → kD M0 M' → (∀ o, o ≠ 0 → o ≠ 6 → mg_I M' 6 o = mg_I M0 6 o) → mg_L M' 6 = mg_L M0 6 → mg_I M' 6 0 = zI (i + m : Nat) → mg_I M' 6 6 = zI (pw + xsg neg (xdv tx i m)) → post (if m = 0 then 0 else 1) M') : ∀ (r m : Nat) (M : nf_M), r + m = 3 → i + m ≤ b → (∀ k, k < m → dig (tx (i + k))) → kD M0 M → (∀ o, o ≠ 0 → mg_I M 6 o = mg_I M0 6 o) → mg_L M 6 = mg_L M0 6 → mg_I M 6 0 = zI (i + m : Nat) → mg_I M0 6 1 = zI b → mg_I M0 6 6 = zI pw → B_N_parseExponent_78 post (r + 1) false x2 (zI (xdv tx i m)) (zI m) M := by
  have hn := hT.1
  have fin : ∀ (m : Nat) (M : nf_M), EX tx i b m → kD M0 M → (∀ o, o ≠ 0 → mg_I M 6 o = mg_I M0 6 o) → mg_L M 6 = mg_L M0 6 → mg_I M 6 0 = zI (i + m : Nat) → mg_I M0 6 6 = zI pw → B_N_parseExponent_139 post x2 (zI (xdv tx i m)) (zI m) M := by
    intro m M hE hk ho hL g0 g6
    have hm := hE.1
    unfold B_N_parseExponent_139 B_N_parseExponent_154 B_N_parseExponent_168
    have e6 : mg_I M 6 6 = zI pw := by rw [ho 6 (by decide)]; exact g6
    rw [e6]
    have go : ∀ z : Int, z = xsg neg (xdv tx i m) → ∀ t1 : Int32, t1 = zI pw + zI z → ∀ M2 : nf_M, M2 = ms_I M 6 6 t1 → ((0 < zI (m : Nat) → (narrow .boolean (.int 1) = .int 1) ∧ post 1 M2) ∧ (¬ 0 < zI (m : Nat) → (narrow .boolean (.int 0) = .int 0) ∧ post 0 M2)) := by
      intro z ez t1 e1 M2 e2
      rw [zI_add, ez] at e1
      have hk2 := k m M2 hE (hk.tr (by rw [e2]; exact kD_6I M 6 t1)) (fun o h0 h6 => by
        rw [e2]
        show (if o = 6 then _ else mg_I M 6 o) = _
        rw [if_neg h6]
        exact ho o h0) (by rw [e2]; exact hL) (by rw [e2]; exact g0) (by rw [e2, e1]; rfl)
      rw [show (0 : Int32) = zI (0 : Nat) by decide, zlt (by omega) (by omega)]
      refine ⟨fun q => ⟨rfl, ?_⟩, fun q => ⟨rfl, ?_⟩⟩
      · rw [if_neg (by omega)] at hk2
        exact hk2
      · rw [if_pos (by omega)] at hk2
        exact hk2
    rw [hs]
    refine ⟨fun q => go _ (by rw [q]; rfl), fun q => ?_⟩
    have q2 : neg = true := by cases neg; exact absurd rfl q; rfl
    rw [zI_neg]
    exact go _ (by rw [q2]; rfl)
  intro r
  induction r with
  | zero =>
    intro m M hr1 hm hd hk ho hL g0 g1 g6
    have hE : EX tx i b m := ⟨by omega, hm, hd, Or.inl (by omega)⟩
    unfold B_N_parseExponent_78
    rw [g0, ho 1 (by decide), g1, zlt (by omega) (by omega), show (3 : Int32) = zI (3 : Nat) by decide, zlt (by omega) (by omega)]
    exact ⟨fun _ => ⟨fun q => by omega, fun _ => fin m M hE hk ho hL g0 g6⟩, fun _ => fin m M hE hk ho hL g0 g6⟩
  | succ r ih =>
    intro m M hr1 hm hd hk ho hL g0 g1 g6
    unfold B_N_parseExponent_78
    rw [g0, ho 1 (by decide), g1, zlt (by omega) (by omega), show (3 : Int32) = zI (3 : Nat) by decide, zlt (by omega) (by omega)]
    refine ⟨fun q => ⟨fun _ => s_R_hasDigitAt hT (hk.2.1.row hr) (by omega) (fun hdg => ⟨fun z => absurd z (by decide), fun _ => ?_⟩) (fun hdg => ⟨fun _ => fin m M ⟨by omega, hm, hd, Or.inr (Or.inr hdg)⟩ hk ho hL g0 g6, fun z => absurd rfl z⟩), fun q2 => by omega⟩, fun q => fin m M ⟨by omega, hm, hd, Or.inr (Or.inl (by omega))⟩ hk ho hL g0 g6⟩
    rw [g0]
    refine s_at hT (hk.2.1.row hr) (by omega) (fun t5 e5 t6 e6 M7 e7 => ?_)
    rw [g0, z_s] at e6
    have hdg2 := hdg
    unfold dig at hdg2
    have hlt : xdv tx i m < 1000 := by
      have h1 : xdv tx i m < 10 ^ m := by
        refine vd_lt _ m (fun k hk => ?_)
        have := hd k hk
        unfold dig at this
        omega
      have : 10 ^ m ≤ 10 ^ 3 := Nat.pow_le_pow_right (by decide) (by omega)
      omega
    have e8 : xdv tx i (m + 1) = 10 * xdv tx i m + (tx (i + m) - 48) := rfl
    have e9 : t5 = zI (xdv tx i (m + 1)) := by
      rw [e5, show (10 : Int32) = zI (10 : Nat) by decide, show (48 : Int32) = zI (48 : Nat) by decide, zI_mul, zI_sub, zI_add, e8]
      congr 1
      omega
    rw [e9, z_s]
    refine ih (m + 1) M7 (by omega) (by omega) (fun k hk' => ?_) (hk.tr (by rw [e7]; exact kD_6I M 0 t6)) (fun o h0 => ?_) (by rw [e7]; exact hL) (by rw [e7, e6]; rfl) g1 g6
    · by_cases c : k = m
      · rw [c]; exact hdg
      · exact hd k (by omega)
    · rw [e7]
      show (if o = 0 then _ else mg_I M 6 o) = _
      rw [if_neg h0]
      exact ho o h0
theorem s_N_parseExponent {n i b : Nat} {tx : Nat → Nat} {M : nf_M} {post : Int32 → nf_M → Prop} {pw : Int} (hT : okT n tx) (hr : rowF M false n tx) (hb : b ≤ n) (hi : i < b) (g0 : mg_I M 6 0 = zI i) (g1 : mg_I M 6 1 = zI b) (g6 : mg_I M 6 6 = zI pw) (hpw : -100 < pw ∧ pw < 100) (k0 : ¬ (tx i = 101 ∨ tx i = 69) → post 0 M) (k1 : (tx i = 101 ∨ tx i = 69) → ∀ m M', EX tx (sp tx (i + 1) b) b m → kD M M' → (∀ o, o ≠ 0 → o ≠ 6 → mg_I M' 6 o = mg_I M 6 o) → mg_L M' 6 = mg_L M 6 → mg_I M' 6 0 = zI (sp tx (i + 1) b + m : Nat) → mg_I M' 6 6 = zI (pw + xsg (sn tx (i + 1) b) (xdv tx (sp tx (i + 1) b) m)) → post (if m = 0 then 0 else 1) M') : P_N_parseExponent false M post := by
  have hn := hT.1
  have hx := hT.2 i (by omega)
  unfold P_N_parseExponent
  have h28 : (tx i = 101 ∨ tx i = 69) → B_N_parseExponent_28 post false M := by
    intro he
    have k1 := k1 he
    unfold B_N_parseExponent_28
    intro t1 e1 M2 e2
    rw [g0, z_s] at e1
    have f0 : mg_I M2 6 0 = zI (i + 1 : Nat) := by rw [e2, e1]; rfl
    have f1 : mg_I M2 6 1 = zI b := by rw [e2]; exact g1
    have f6 : mg_I M2 6 6 = zI pw := by rw [e2]; exact g6
    have kd : kD M M2 := by rw [e2]; exact kD_6I M 0 t1
    have fo : ∀ o, o ≠ 0 → mg_I M2 6 o = mg_I M 6 o := fun o h0 => by
      rw [e2]
      show (if o = 0 then _ else mg_I M 6 o) = _
      rw [if_neg h0]
    have fL : mg_L M2 6 = mg_L M 6 := by rw [e2]; rfl
    have h67 : ∀ y : Int32, (y = 0 ↔ sn tx (i + 1) b = false) → B_N_parseExponent_67 post false y M2 := by
      intro y hy
      unfold B_N_parseExponent_67
      refine s_N_passSign hT (kd.2.1.row hr) hb f0 f1 (by omega) (fun M3 k3 o3 L3 g3 => ?_)
      have hspb : sp tx (i + 1) b ≤ b := by unfold sp; split <;> omega
      have h := s_N_exp78 (i := sp tx (i + 1) b) (M0 := M3) (post := post) (neg := sn tx (i + 1) b) hT ((kd.tr k3).2.1.row hr) hb hy hpw (fun m M' hE hk ho hL ga gb => k1 m M' hE (kd.tr (k3.tr hk)) (fun o h0 h6 => (ho o h0 h6).trans ((o3 o h0).trans (fo o h0))) (hL.trans (L3.trans fL)) ga gb) 3 0 M3 rfl (by omega) (fun k hk => absurd hk (Nat.not_lt_zero _)) (kD.rf M3) (fun _ _ => rfl) rfl g3 (by rw [o3 1 (by decide)]; exact f1) (by rw [o3 6 (by decide)]; exact f6)
      exact ⟨_, h⟩
    unfold B_N_parseExponent_66
    rw [f0, f1, zlt (by omega) (by omega)]
    refine ⟨fun q => ?_, fun q => h67 0 ?_⟩
    · have hx2 := hT.2 (i + 1) (by omega)
      refine s_at hT (kd.2.1.row hr) (by omega) ?_
      rw [show (45 : Int32) = zI (45 : Nat) by decide, zeq (by omega) (by omega)]
      refine ⟨fun z => h67 1 ?_, fun z => h67 0 ?_⟩
      · unfold sn
        rw [decide_eq_true ⟨q, z⟩]
        exact ⟨fun w => absurd w (by decide), fun w => absurd w (by decide)⟩
      · unfold sn
        rw [decide_eq_false (fun w => z w.2)]
        exact ⟨fun _ => rfl, fun _ => rfl⟩
    · unfold sn
      rw [decide_eq_false (fun w => q w.1)]
      exact ⟨fun _ => rfl, fun _ => rfl⟩
  rw [g0]
  refine s_at hT hr (by omega) ?_
  rw [show (101 : Int32) = zI (101 : Nat) by decide, zeq (by omega) (by omega)]
  refine ⟨fun z => h28 (Or.inl z), fun z => ?_⟩
  rw [g0]
  refine s_at hT hr (by omega) ?_
  rw [show (69 : Int32) = zI (69 : Nat) by decide, zeq (by omega) (by omega)]
  exact ⟨fun z2 => h28 (Or.inr z2), fun z2 => k0 (fun h => by rcases h with h | h; exact z h; exact z2 h)⟩
/-- INF -/
def INF (tx : Nat → Nat) (p b : Nat) : Prop := b = p + 3 ∧ tx p = 73 ∧ tx (p + 1) = 78 ∧ tx (p + 2) = 70
theorem s_N_isInfinityWord {n p b : Nat} {tx : Nat → Nat} {M : nf_M} {post : Int32 → nf_M → Prop} (hT : okT n tx) (hr : rowF M false n tx) (hb : b ≤ n) (hp : p ≤ b) (g0 : mg_I M 6 0 = zI p) (g1 : mg_I M 6 1 = zI b) (k1 : INF tx p b → post 1 M) (k0 : ¬ INF tx p b → post 0 M) : P_N_isInfinityWord false M post := by
  have hn := hT.1
  unfold P_N_isInfinityWord B_N_isInfinityWord_60 B_N_isInfinityWord_61
  rw [g0, g1, zI_sub, show (3 : Int32) = zI 3 by decide, zI_eq (by omega) (by omega) (by omega) (by omega)]
  unfold INF at k1 k0
  refine ⟨fun q => ?_, fun q => ⟨rfl, k0 (fun h => q (by omega))⟩⟩
  have h0 := hT.2 p (by omega)
  have h1 := hT.2 (p + 1) (by omega)
  have h2 := hT.2 (p + 2) (by omega)
  refine s_at hT hr (by omega) ?_
  rw [show (73 : Int32) = zI (73 : Nat) by decide, zeq (by omega) (by omega)]
  refine ⟨fun z => ?_, fun z => ⟨rfl, k0 (fun h => z h.2.1)⟩⟩
  rw [g0, z_s]
  refine s_at hT hr (by omega) ?_
  rw [show (78 : Int32) = zI (78 : Nat) by decide, zeq (by omega) (by omega)]
  refine ⟨fun z2 => ?_, fun z2 => ⟨rfl, k0 (fun h => z2 h.2.2.1)⟩⟩
  rw [g0, show (2 : Int32) = zI (2 : Nat) by decide, zI_add, show (p : Int) + ((2 : Nat) : Int) = ((p + 2 : Nat) : Int) by omega]
  refine s_at hT hr (by omega) ?_
  rw [show (70 : Int32) = zI (70 : Nat) by decide, zeq (by omega) (by omega)]
  exact ⟨fun z3 => ⟨rfl, k1 ⟨by omega, z, z2, z3⟩⟩, fun z3 => ⟨rfl, k0 (fun h => z3 h.2.2.2)⟩⟩
/-- may there be a point -/
def mayP (t : Nat) : Prop := t < 1 ∨ 8 ≤ t
/-- is it well written; E is the exponent -/
def GD (tx : Nat → Nat) (p b t j : Nat) (pt E : Int) : Prop := dcn j pt ≠ 0 ∧ ((p + j = b ∧ E = 0) ∨ (8 ≤ t ∧ p + j < b ∧ (tx (p + j) = 101 ∨ tx (p + j) = 69) ∧ ∃ m, EX tx (sp tx (p + j + 1) b) b m ∧ m ≠ 0 ∧ sp tx (p + j + 1) b + m = b ∧ E = xsg (sn tx (p + j + 1) b) (xdv tx (sp tx (p + j + 1) b) m)))
theorem s_N_parse {n t : Nat} {tx : Nat → Nat} {M : nf_M} {post : Int32 → nf_M → Prop} (hT : okT n tx) (hr : rowF M false n tx) (ht : t < 10) (ki : ∀ a b M', BL n tx a b → 8 ≤ t → INF tx (sp tx a b) b → kD M M' → mg_I M' 6 2 = (if sn tx a b then 1 else 0) → mg_I M' 6 3 = 1 → post 1 M') (k0 : ∀ a b j pt M', BL n tx a b → ¬ (8 ≤ t ∧ INF tx (sp tx a b) b) → SE tx (sp tx a b) b (mayP t) j pt → (∀ E, ¬ GD tx (sp tx a b) b t j pt E) → kD M M' → post 0 M') (k1 : ∀ a b j pt N l la E M', BL n tx a b → ¬ (8 ≤ t ∧ INF tx (sp tx a b) b) → SE tx (sp tx a b) b (mayP t) j pt → NI (dcn j pt) (dvv tx (sp tx a b) pt) N l la → N < 1000000000000000 → GD tx (sp tx a b) b t j pt E → kD M M' → mg_I M' 6 2 = (if sn tx a b then 1 else 0) → mg_I M' 6 3 = 0 → mg_L M' 6 4 = zL (N : Nat) → mg_I M' 6 5 = zI (l : Nat) → mg_I M' 6 6 = zI ((if pt < 0 then (dcn j pt : Int) else pt) - la + E) → post 1 M') : P_N_parse false (zI t) M post := by
  have hn := hT.1
  unfold P_N_parse
  refine s_N_passBlanks hT hr (fun a b M1 hB k1' g0 g1 => ?_)
  have hab : a ≤ b ∧ b ≤ n := ⟨hB.2.2.2.1, hB.2.2.2.2.1⟩
  have ki := fun M' => ki a b M' hB
  have k0 := fun j pt M' => k0 a b j pt M' hB
  have k1 := fun j pt N l la E M' => k1 a b j pt N l la E M' hB
  have hspb : sp tx a b ≤ b := by unfold sp; split <;> omega
  have h35 : ∀ y : Int32, y = (if sn tx a b then 1 else 0) → B_N_parse_35 post false (zI t) y M1 := by
    intro y hy
    have hbool : nf_bool y := by
      rw [hy]
      split
      · exact ⟨rfl, rfl⟩
      · exact ⟨rfl, rfl⟩
    unfold B_N_parse_35
    refine ⟨hbool, fun M2 e2 => ?_⟩
    have f0 : mg_I M2 6 0 = zI a := by rw [e2]; exact g0
    have f1 : mg_I M2 6 1 = zI b := by rw [e2]; exact g1
    have f2 : mg_I M2 6 2 = y := by rw [e2]; rfl
    have k2 : kD M M2 := k1'.tr (by rw [e2]; exact kD_6I M1 2 y)
    refine s_N_passSign hT (k2.2.1.row hr) hab.2 f0 f1 hab.1 (fun M3 k3 o3 L3 g3 => ?_)
    have kd3 := k2.tr k3
    have h1 : mg_I M3 6 1 = zI b := by rw [o3 1 (by decide)]; exact f1
    have h2 : mg_I M3 6 2 = y := by rw [o3 2 (by decide)]; exact f2
    -- digits and exponent
    have h93 : ∀ (z : Int32) (M4 : nf_M), (¬ z = 0 ↔ mayP t) → ¬ (8 ≤ t ∧ INF tx (sp tx a b) b) → kD M M4 → mg_I M4 6 0 = zI (sp tx a b) → mg_I M4 6 1 = zI b → mg_I M4 6 2 = y → mg_I M4 6 3 = 0 → B_N_parse_93 post false (zI t) z false M4 := by
      intro z M4 hz hni k4 c0 c1 c2 c3
      unfold B_N_parse_93
      refine s_N_parseDigits hT (k4.2.1.row hr) hab.2 hspb c0 c1 (fun j pt N l la M5 hS hN hNb k5 o5 hF g6 => ?_)
      have hS : SE tx (sp tx a b) b (mayP t) j pt := by
        have : (¬ z = 0) = mayP t := propext hz
        rw [← this]
        exact hS
      have hpj := hS.1.1
      have hD : dcn j pt ≤ 40 := by unfold dcn; split <;> omega
      have hla := hN.1
      have hpt : -1 ≤ pt ∧ pt ≤ 40 := by
        rcases hS.1.2 with ⟨a, b⟩ | ⟨a, b, c, d⟩ <;> omega
      have kd5 := k4.tr k5
      have h124 : ∀ (w : Int32) (M6 : nf_M), w = (if dcn j pt = 0 then 0 else 1) → ¬ (8 ≤ t ∧ sp tx a b + j < b) → mg_I M6 = mg_I M5 → mg_L M6 = mg_L M5 → kD M M6 → B_N_parse_124 post w M6 := by
        intro w M6 hw hne eI eL k6
        unfold B_N_parse_124 B_N_parse_143 B_N_parse_144
        rw [eI, hF.1, hF.2.1, zeq (by omega) (by omega), hw]
        by_cases d0 : dcn j pt = 0
        · rw [if_pos d0]
          exact ⟨fun _ => ⟨rfl, k0 j pt M6 hni hS (fun E h => h.1 d0) k6⟩, fun q => absurd rfl q⟩
        · rw [if_neg d0]
          refine ⟨fun q => absurd q (by decide), fun _ => ⟨fun q => ⟨rfl, ?_⟩, fun q => ⟨rfl, k0 j pt M6 hni hS (fun E h => ?_) k6⟩⟩⟩
          · refine k1 j pt N l la 0 M6 hni hS hN hNb ⟨d0, Or.inl ⟨q, rfl⟩⟩ k6 ?_ ?_ ?_ ?_ ?_
            · rw [eI, o5 2 (by decide) (by decide) (by decide), c2]; exact hy
            · rw [eI, o5 3 (by decide) (by decide) (by decide), c3]
            · rw [eL]; exact hF.2.2.1
            · rw [eI]; exact hF.2.2.2
            · rw [eI, g6, Int.add_zero]
          · rcases h.2 with ⟨h1, h2⟩ | ⟨h1, h2, h3⟩
            · exact q h1
            · exact hne ⟨h1, h2⟩
      have e8 : zI (t : Int) < (8 : Int32) ↔ t < 8 := by rw [show (8 : Int32) = zI (8 : Nat) by decide, zlt (by omega) (by omega)]
      rw [e8, hF.1, hF.2.1, zlt (by omega) (by omega)]
      by_cases d0 : dcn j pt = 0
      · rw [if_pos d0]
        refine ⟨fun _ => ?_, fun q => absurd rfl q⟩
        unfold B_N_parse_124 B_N_parse_143 B_N_parse_144
        exact ⟨fun _ => ⟨rfl, k0 j pt M5 hni hS (fun E h => h.1 d0) kd5⟩, fun q => absurd rfl q⟩
      · have h124' := h124 (if dcn j pt = 0 then 0 else 1) M5 rfl
        rw [if_neg d0] at h124' ⊢
        refine ⟨fun q => absurd q (by decide), fun _ => ⟨fun q => h124' (fun h => by omega) rfl rfl kd5, fun q => ⟨fun q2 => ?_, fun q2 => h124' (fun h => q2 h.2) rfl rfl kd5⟩⟩⟩
        refine s_N_parseExponent hT (kd5.2.1.row hr) hab.2 q2 hF.1 hF.2.1 g6 (by split <;> omega) (fun hne => ?_) (fun he m M6 hE k6 o6 L6 ga gb => ?_)
        · unfold B_N_parse_124 B_N_parse_143 B_N_parse_144
          refine ⟨fun _ => ⟨rfl, k0 j pt M5 hni hS (fun E h => ?_) kd5⟩, fun w => absurd rfl w⟩
          rcases h.2 with ⟨h1, h2⟩ | ⟨h1, h2, h3, h4⟩
          · omega
          · exact hne h3
        · have kd6 := kd5.tr k6
          have hmb := hE.2.1
          have hm3 := hE.1
          unfold B_N_parse_124 B_N_parse_143 B_N_parse_144
          rw [ga, o6 1 (by decide) (by decide), hF.2.1, zeq (by omega) (by omega)]
          have hbadE : m = 0 ∨ sp tx (sp tx a b + j + 1) b + m ≠ b → ∀ E, ¬ GD tx (sp tx a b) b t j pt E := fun hc E h => by
            rcases h.2 with ⟨h1, h2⟩ | ⟨h1, h2, h3, m', h4, h5, h6, h7⟩
            · omega
            · have := EX_1 hE h4
              subst this
              rcases hc with hc | hc
              · exact h5 hc
              · exact hc h6
          by_cases m0 : m = 0
          · rw [if_pos m0]
            exact ⟨fun _ => ⟨rfl, k0 j pt M6 hni hS (hbadE (Or.inl m0)) kd6⟩, fun w => absurd rfl w⟩
          · rw [if_neg m0]
            refine ⟨fun w => absurd w (by decide), fun _ => ⟨fun w => ⟨rfl, ?_⟩, fun w => ⟨rfl, k0 j pt M6 hni hS (hbadE (Or.inr w)) kd6⟩⟩⟩
            refine k1 j pt N l la _ M6 hni hS hN hNb ⟨d0, Or.inr ⟨by omega, q2, he, m, hE, m0, w, rfl⟩⟩ kd6 ?_ ?_ ?_ ?_ gb
            · rw [o6 2 (by decide) (by decide), o5 2 (by decide) (by decide) (by decide), c2]; exact hy
            · rw [o6 3 (by decide) (by decide), o5 3 (by decide) (by decide) (by decide), c3]
            · rw [L6]; exact hF.2.2.1
            · rw [o6 5 (by decide) (by decide)]; exact hF.2.2.2
    have h63n : ¬ (8 ≤ t ∧ INF tx (sp tx a b) b) → B_N_parse_63 post false (zI t) (0 : Int32) M3 := by
      intro hni
      unfold B_N_parse_63 B_N_parse_88
      refine ⟨⟨rfl, rfl⟩, fun M4 e4 => ?_⟩
      have d0 : mg_I M4 6 0 = zI (sp tx a b) := by rw [e4]; exact g3
      have d1 : mg_I M4 6 1 = zI b := by rw [e4]; exact h1
      have d2 : mg_I M4 6 2 = y := by rw [e4]; exact h2
      have d3 : mg_I M4 6 3 = 0 := by rw [e4]; rfl
      have k4 : kD M M4 := kd3.tr (by rw [e4]; exact kD_6I M3 3 0)
      rw [d3, show (1 : Int32) = zI (1 : Nat) by decide, zlt (by omega) (by omega), show (8 : Int32) = zI (8 : Nat) by decide, zlt (by omega) (by omega)]
      have e10 : ∀ z : Int32, (¬ z = 0 ↔ mayP t) → B_N_parse_93 post false (zI t) z false M4 := fun z hz => h93 z M4 hz hni k4 d0 d1 d2 d3
      have ones : (¬ (zI ((1 : Nat) : Int) : Int32) = 0) := by decide
      refine ⟨fun _ => ⟨fun q => e10 _ ⟨fun _ => Or.inl q, fun _ => ones⟩, fun q => ⟨fun q2 => e10 _ ⟨fun w => absurd rfl w, fun w => by unfold mayP at w; omega⟩, fun q2 => e10 _ ⟨fun _ => Or.inr (by omega), fun _ => ones⟩⟩⟩, fun q => absurd rfl q⟩
    unfold B_N_parse_62
    rw [show (8 : Int32) = zI (8 : Nat) by decide, zlt (by omega) (by omega)]
    refine ⟨fun q => h63n (fun h => by omega), fun q => s_N_isInfinityWord hT (kd3.2.1.row hr) hab.2 hspb g3 h1 (fun hi => ⟨fun w => absurd w (by decide), fun _ => ?_⟩) (fun hi => ⟨fun _ => h63n (fun h => hi h.2), fun w => absurd rfl w⟩)⟩
    unfold B_N_parse_63
    refine ⟨⟨rfl, rfl⟩, fun M4 e4 => ?_⟩
    have d3 : mg_I M4 6 3 = 1 := by rw [e4]; rfl
    rw [d3]
    refine ⟨fun w => absurd w (by decide), fun _ => ki M4 (by omega) hi (kd3.tr (by rw [e4]; exact kD_6I M3 3 1)) ?_ d3⟩
    have d2 : mg_I M4 6 2 = y := by rw [e4]; exact h2
    rw [d2]
    exact hy
  unfold B_N_parse_34
  rw [g0, g1, zlt (by omega) (by omega)]
  refine ⟨fun q => ?_, fun q => h35 0 ?_⟩
  · have hx := hT.2 a (by omega)
    refine s_at hT (k1'.2.1.row hr) (by omega) ?_
    rw [show (45 : Int32) = zI (45 : Nat) by decide, zeq (by omega) (by omega)]
    refine ⟨fun z => h35 1 ?_, fun z => h35 0 ?_⟩
    · unfold sn
      rw [decide_eq_true ⟨q, z⟩]
      rfl
    · unfold sn
      rw [decide_eq_false (fun w => z w.2)]
      rfl
  · unfold sn
    rw [decide_eq_false (fun w => q w.1)]
    rfl
