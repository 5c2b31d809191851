/-! read: what stands in the text; the system's way through it -/
def dig (c : Nat) : Prop := 48 ≤ c ∧ c ≤ 57
def BL (n : Nat) (tx : Nat → Nat) (a b : Nat) : Prop := (∀ i, i < a → tx i = 32) ∧ a ≤ n ∧ (a < n → tx a ≠ 32) ∧ a ≤ b ∧ b ≤ n ∧ (∀ i, b ≤ i → i < n → tx i = 32) ∧ (a < b → tx (b - 1) ≠ 32)
theorem BL_1 {n : Nat} {tx : Nat → Nat} {a b a' b' : Nat} (h : BL n tx a b) (h' : BL n tx a' b') : a = a' ∧ b = b' := by
  obtain ⟨h1, h2, h3, h4, h5, h6, h7⟩ := h
  obtain ⟨g1, g2, g3, g4, g5, g6, g7⟩ := h'
  have ea : a = a' := by
    rcases Nat.lt_trichotomy a a' with q | q | q
    · exact absurd (g1 a q) (h3 (by omega))
    · exact q
    · exact absurd (h1 a' q) (g3 (by omega))
  subst ea
  refine ⟨rfl, ?_⟩
  rcases Nat.lt_trichotomy b b' with q | q | q
  · exact absurd (h6 (b' - 1) (by omega) (by omega)) (g7 (by omega))
  · exact q
  · exact absurd (g6 (b - 1) (by omega) (by omega)) (h7 (by omega))
def sp (tx : Nat → Nat) (a b : Nat) : Nat := if a < b ∧ (tx a = 45 ∨ tx a = 43) then a + 1 else a
def sn (tx : Nat → Nat) (a b : Nat) : Bool := decide (a < b ∧ tx a = 45)
theorem kD_6I (M : nf_M) (k : Nat) (v : Int32) : kD M (ms_I M 6 k v) := by
  refine ⟨fun o h1 h2 => ⟨?_, rfl, rfl⟩, ⟨rfl, rfl⟩, fun _ _ => rfl⟩
  show (if o = 6 then _ else mg_I M o) = mg_I M o
  rw [if_neg (by omega)]
theorem kD_6L (M : nf_M) (k : Nat) (v : Int64) : kD M (ms_L M 6 k v) := by
  refine ⟨fun o h1 h2 => ⟨rfl, ?_, rfl⟩, ⟨rfl, rfl⟩, fun _ _ => rfl⟩
  show (if o = 6 then _ else mg_L M o) = mg_L M o
  rw [if_neg (by omega)]
theorem s_at {n i : Nat} {tx : Nat → Nat} {M : nf_M} {post : Int32 → nf_M → Prop} (hT : okT n tx) (hr : rowF M false n tx) (hi : i < n) (k : post (zI (tx i)) M) : P_R_at false (zI i) M post := by
  have hn := hT.1
  refine s_R_at hr (by show n ≤ 40; exact hn) (fun j hj => by have := hT.2 j hj; omega) (fun j hj e => ?_) (fun q => absurd (by rw [z_of (by omega)]; omega) q)
  rw [zeq (by omega) (by omega)] at e
  rw [← e]
  exact k
theorem s_N_passBlanks {n : Nat} {tx : Nat → Nat} {M : nf_M} {post : Unit → nf_M → Prop} (hT : okT n tx) (hr : rowF M false n tx) (k : ∀ a b M', BL n tx a b → kD M M' → mg_I M' 6 0 = zI (a : Nat) → mg_I M' 6 1 = zI (b : Nat) → post () M') : P_N_passBlanks false M post := by
  have hn := hT.1
  have h50 : ∀ (r a b : Nat) (M1 : nf_M), r + a = b → b ≤ n → (∀ i, i < a → tx i = 32) → (a < n → tx a ≠ 32) → (∀ i, b ≤ i → i < n → tx i = 32) → kD M M1 → mg_I M1 6 0 = zI a → mg_I M1 6 1 = zI b → B_N_passBlanks_50 post (r + 1) false M1 := by
    intro r
    induction r with
    | zero =>
      intro a b M1 hr1 hb h1 h2 h3 hk g1 g2
      unfold B_N_passBlanks_50 B_N_passBlanks_89
      rw [g1, g2, zlt (by omega) (by omega)]
      exact ⟨fun q => by omega, fun _ => k a b M1 ⟨h1, by omega, h2, by omega, hb, h3, fun q => by omega⟩ hk g1 g2⟩
    | succ r ih =>
      intro a b M1 hr1 hb h1 h2 h3 hk g1 g2
      unfold B_N_passBlanks_50 B_N_passBlanks_89
      rw [g1, g2, zlt (by omega) (by omega), e1i, zI_sub, show (b : Int) - (1 : Nat) = ((b - 1 : Nat) : Int) by omega]
      have hx := hT.2 (b - 1) (by omega)
      refine ⟨fun _ => s_at hT (hk.2.1.row hr) (by omega) ?_, fun q => by omega⟩
      rw [show (32 : Int32) = zI (32 : Nat) by decide, zeq (by omega) (by omega)]
      refine ⟨fun q t3 e3 M4 e4 => ?_, fun q => k a b M1 ⟨h1, by omega, h2, by omega, hb, h3, fun _ => q⟩ hk g1 g2⟩
      rw [g2, zI_sub, show (b : Int) - (1 : Nat) = ((b - 1 : Nat) : Int) by omega] at e3
      refine ih a (b - 1) M4 (by omega) (by omega) h1 h2 (fun i hi hi2 => ?_) (hk.tr (by rw [e4]; exact kD_6I M1 1 t3)) (by rw [e4]; exact g1) (by rw [e4, e3]; rfl)
      by_cases c : i = b - 1
      · rw [c]; exact q
      · exact h3 i (by omega) hi2
  have h13 : ∀ (r a : Nat) (M1 : nf_M), r + a = n → (∀ i, i < a → tx i = 32) → kD M M1 → mg_I M1 6 0 = zI a → mg_I M1 6 1 = zI n → B_N_passBlanks_13 post (r + 1) false M1 := by
    intro r
    induction r with
    | zero =>
      intro a M1 hr1 h1 hk g1 g2
      unfold B_N_passBlanks_13
      rw [g1, g2, zlt (by omega) (by omega)]
      exact ⟨fun q => by omega, fun _ => ⟨n - a + 1, h50 (n - a) a n M1 (by omega) (Nat.le_refl _) h1 (fun q => by omega) (fun i a b => by omega) hk g1 g2⟩⟩
    | succ r ih =>
      intro a M1 hr1 h1 hk g1 g2
      have hx := hT.2 a (by omega)
      unfold B_N_passBlanks_13
      rw [g1, g2, zlt (by omega) (by omega)]
      refine ⟨fun _ => s_at hT (hk.2.1.row hr) (by omega) ?_, fun q => by omega⟩
      rw [show (32 : Int32) = zI (32 : Nat) by decide, zeq (by omega) (by omega)]
      refine ⟨fun q t3 e3 M4 e4 => ?_, fun q => ⟨n - a + 1, h50 (n - a) a n M1 (by omega) (Nat.le_refl _) h1 (fun _ => q) (fun i a b => by omega) hk g1 g2⟩⟩
      rw [g1, z_s] at e3
      refine ih (a + 1) M4 (by omega) (fun i hi => ?_) (hk.tr (by rw [e4]; exact kD_6I M1 0 t3)) (by rw [e4, e3]; rfl) (by rw [e4]; exact g2)
      by_cases c : i = a
      · rw [c]; exact q
      · exact h1 i (by omega)
  unfold P_N_passBlanks
  intro M1 e1 t2 e2 M3 e3
  have e4 : mg_N M1 false = zI n := by rw [e1]; exact hr.1
  rw [e4] at e2
  exact ⟨n + 1, h13 n 0 M3 (by omega) (fun i hi => absurd hi (Nat.not_lt_zero _)) (by rw [e3, e1]; exact (kD_6I M 0 0).tr (kD_6I _ 1 t2)) (by rw [e3, e1]; rfl) (by rw [e3, e2]; rfl)⟩
theorem s_N_passSign {n i b : Nat} {tx : Nat → Nat} {M : nf_M} {post : Unit → nf_M → Prop} (hT : okT n tx) (hr : rowF M false n tx) (hb : b ≤ n) (g1 : mg_I M 6 0 = zI i) (g2 : mg_I M 6 1 = zI b) (hi : i ≤ b) (k : ∀ M', kD M M' → (∀ j, j ≠ 0 → mg_I M' 6 j = mg_I M 6 j) → mg_L M' 6 = mg_L M 6 → mg_I M' 6 0 = zI (sp tx i b : Nat) → post () M') : P_N_passSign false M post := by
  have hn := hT.1
  unfold P_N_passSign B_N_passSign_37 B_N_passSign_47
  rw [g1, g2, zlt (by omega) (by omega)]
  unfold sp at k
  have hgo : i < b → (tx i = 45 ∨ tx i = 43) → ∀ t1 : Int32, t1 = mg_I M 6 0 + (1 : Int32) → ∀ M2 : nf_M, M2 = ms_I M 6 0 t1 → post () M2 := fun h1 h2 t1 e1 M2 e2 => by
    rw [if_pos ⟨h1, h2⟩] at k
    rw [g1, z_s] at e1
    refine k M2 (by rw [e2]; exact kD_6I M 0 t1) (fun j hj => ?_) (by rw [e2]; rfl) (by rw [e2, e1]; rfl)
    rw [e2]
    show (if j = 0 then _ else mg_I M 6 j) = _
    rw [if_neg hj]
  refine ⟨fun q => ?_, fun q => ?_⟩
  · have hx := hT.2 i (by omega)
    refine s_at hT hr (by omega) ?_
    rw [show (45 : Int32) = zI (45 : Nat) by decide, zeq (by omega) (by omega)]
    refine ⟨fun z => hgo q (Or.inl z), fun z => ?_⟩
    rw [g1]
    refine s_at hT hr (by omega) ?_
    rw [show (43 : Int32) = zI (43 : Nat) by decide, zeq (by omega) (by omega)]
    refine ⟨fun z2 => hgo q (Or.inr z2), fun z2 => ?_⟩
    rw [if_neg (fun h => by rcases h.2 with h | h; exact z h; exact z2 h)] at k
    exact k M (kD.rf M) (fun _ _ => rfl) rfl g1
  · rw [if_neg (fun h => q h.1)] at k
    exact k M (kD.rf M) (fun _ _ => rfl) rfl g1
/-- how far the digits go: j characters, the point behind pt of them (-1: none) -/
def SI (tx : Nat → Nat) (p b : Nat) (may : Prop) (j : Nat) (pt : Int) : Prop := p + j ≤ b ∧ ((pt = -1 ∧ ∀ k, k < j → dig (tx (p + k))) ∨ (may ∧ 0 ≤ pt ∧ pt < j ∧ tx (p + pt.toNat) = 46 ∧ ∀ k, k < j → k ≠ pt.toNat → dig (tx (p + k))))
def SE (tx : Nat → Nat) (p b : Nat) (may : Prop) (j : Nat) (pt : Int) : Prop := SI tx p b may j pt ∧ ¬ (p + j < b ∧ (dig (tx (p + j)) ∨ (may ∧ pt = -1 ∧ tx (p + j) = 46)))
theorem SE_1 {tx : Nat → Nat} {p b : Nat} {may : Prop} {j j' : Nat} {pt pt' : Int} (h : SE tx p b may j pt) (h' : SE tx p b may j' pt') : j = j' ∧ pt = pt' := by
  have key : ∀ (j j' : Nat) (pt pt' : Int), SE tx p b may j pt → SE tx p b may j' pt' → j < j' → False := by
    intro j j' pt pt' h h' hj
    obtain ⟨⟨a1, a2⟩, a3⟩ := h
    obtain ⟨⟨b1, b2⟩, b3⟩ := h'
    refine a3 ⟨by omega, ?_⟩
    rcases b2 with ⟨c1, c2⟩ | ⟨c1, c2, c3, c4, c5⟩
    · exact Or.inl (c2 j hj)
    · by_cases q : j = pt'.toNat
      · refine Or.inr ⟨c1, ?_, by rw [q]; exact c4⟩
        rcases a2 with ⟨d1, d2⟩ | ⟨d1, d2, d3, d4, d5⟩
        · exact d1
        · exfalso
          have := c5 pt.toNat (by omega) (by omega)
          unfold dig at this
          omega
      · exact Or.inl (c5 j hj q)
  have hj : j = j' := by
    rcases Nat.lt_trichotomy j j' with q | q | q
    · exact (key j j' pt pt' h h' q).elim
    · exact q
    · exact (key j' j pt' pt h' h q).elim
  subst hj
  refine ⟨rfl, ?_⟩
  obtain ⟨⟨a1, a2⟩, a3⟩ := h
  obtain ⟨⟨b1, b2⟩, b3⟩ := h'
  rcases a2 with ⟨d1, d2⟩ | ⟨d1, d2, d3, d4, d5⟩ <;> rcases b2 with ⟨c1, c2⟩ | ⟨c1, c2, c3, c4, c5⟩
  · omega
  · have := d2 pt'.toNat (by omega)
    unfold dig at this
    omega
  · have := c2 pt.toNat (by omega)
    unfold dig at this
    omega
  · refine Classical.byContradiction fun q => ?_
    have := d5 pt'.toNat (by omega) (by omega)
    unfold dig at this
    omega
def dcn (j : Nat) (pt : Int) : Nat := if pt < 0 then j else j - 1
def dvv (tx : Nat → Nat) (p : Nat) (pt : Int) (k : Nat) : Nat := if pt < 0 ∨ (k : Int) < pt then tx (p + k) - 48 else tx (p + k + 1) - 48
theorem vd_zeros {f : Nat → Nat} {l : Nat} : ∀ m, (∀ k, l ≤ k → k < l + m → f k = 0) → vd f (l + m) = vd f l * 10 ^ m
  | 0, _ => by rw [Nat.add_zero, Nat.pow_zero, Nat.mul_one]
  | m + 1, h => by
    show 10 * vd f (l + m) + f (l + m) = _
    rw [vd_zeros m (fun k a b => h k a (by omega)), h (l + m) (by omega) (by omega), Nat.pow_succ, Nat.add_zero, Nat.mul_comm 10, Nat.mul_assoc]
/-- the system's number: N with l digits up to the last that is no 0, the la-th -/
def NI (D : Nat) (dv : Nat → Nat) (N l la : Nat) : Prop := la ≤ D ∧ l ≤ la ∧ (∀ k, la ≤ k → k < D → dv k = 0) ∧ vd dv la < 10 ^ l ∧ ((l = 0 ∧ la = 0) ∨ (0 < l ∧ 10 ^ (l - 1) ≤ vd dv la ∧ 0 < la ∧ dv (la - 1) ≠ 0)) ∧ (l ≤ 15 → N = vd dv la)
theorem NI_ext {D : Nat} {f g : Nat → Nat} {N l la : Nat} (h : NI D f N l la) (e : ∀ k, k < D → f k = g k) : NI D g N l la := by
  obtain ⟨a, b, c, d, x, y⟩ := h
  have ev : vd f la = vd g la := vd_ext la (fun i hi => e i (by omega))
  rw [ev] at d x y
  refine ⟨a, b, fun k h1 h2 => by rw [← e k h2]; exact c k h1 h2, d, ?_, y⟩
  rcases x with x | ⟨x1, x2, x3, x4⟩
  · exact Or.inl x
  · exact Or.inr ⟨x1, x2, x3, by rw [← e (la - 1) (by omega)]; exact x4⟩
theorem NI_zero {D : Nat} {f : Nat → Nat} {N l la : Nat} (h : NI D f N l la) (e : f D = 0) : NI (D + 1) f N l la := by
  obtain ⟨a, b, c, d, x, y⟩ := h
  refine ⟨by omega, b, fun k h1 h2 => ?_, d, x, y⟩
  by_cases q : k = D
  · rw [q]; exact e
  · exact c k h1 (by omega)
theorem NI_dig {D : Nat} {f : Nat → Nat} {N l la : Nat} (h : NI D f N l la) (e : f D ≠ 0) (e9 : f D < 10) : NI (D + 1) f (if l + (if l = 0 then 1 else D + 1 - la) ≤ 15 then N * 10 ^ (if l = 0 then 1 else D + 1 - la) + f D else N) (l + (if l = 0 then 1 else D + 1 - la)) (D + 1) := by
  obtain ⟨a, b, c, d, x, y⟩ := h
  obtain ⟨pl, hpl⟩ : ∃ pl, pl = (if l = 0 then 1 else D + 1 - la) := ⟨_, rfl⟩
  rw [← hpl]
  have hz : vd f D = vd f la * 10 ^ (D - la) := by
    have := vd_zeros (f := f) (l := la) (D - la) (fun k h1 h2 => c k h1 (by omega))
    rw [show la + (D - la) = D by omega] at this
    exact this
  have hV : vd f (D + 1) = vd f la * 10 ^ pl + f D := by
    show 10 * vd f D + f D = _
    rw [hz]
    rcases x with ⟨x1, x2⟩ | ⟨x1, x2, x3, x4⟩
    · rw [x2, show vd f 0 = 0 from rfl, Nat.zero_mul, Nat.zero_mul]
    · rw [if_neg (by omega)] at hpl
      rw [hpl, show D + 1 - la = (D - la) + 1 by omega, Nat.pow_succ, Nat.mul_comm 10, Nat.mul_assoc]
  have hp1 : 1 ≤ pl := by rw [hpl]; split <;> omega
  have h10 : 10 ≤ 10 ^ pl := by
    have : 10 ^ 1 ≤ 10 ^ pl := Nat.pow_le_pow_right (by decide) hp1
    exact this
  refine ⟨Nat.le_refl _, ?_, fun k h1 h2 => by omega, ?_, Or.inr ⟨by omega, ?_, by omega, by rw [Nat.add_sub_cancel]; exact e⟩, fun hl => ?_⟩
  · rw [hpl]; split <;> omega
  · rw [hV, Nat.pow_add]
    have : (vd f la + 1) * 10 ^ pl ≤ 10 ^ l * 10 ^ pl := Nat.mul_le_mul_right _ d
    rw [Nat.add_mul, Nat.one_mul] at this
    omega
  · rw [hV]
    rcases x with ⟨x1, x2⟩ | ⟨x1, x2, x3, x4⟩
    · rw [if_pos x1] at hpl
      rw [x1, hpl]
      show 1 ≤ _
      omega
    · rw [show l + pl - 1 = (l - 1) + pl by omega, Nat.pow_add]
      have := Nat.mul_le_mul_right (10 ^ pl) x2
      omega
  · rw [if_pos hl, hV, y (by omega)]
