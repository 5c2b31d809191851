/-! read: what it comes to; the system -/
def lst (dv : Nat → Nat) : Nat → Nat
  | 0 => 0
  | D + 1 => if dv D = 0 then lst dv D else D + 1
theorem lst_ok (dv : Nat → Nat) : ∀ D, lst dv D ≤ D ∧ (∀ k, lst dv D ≤ k → k < D → dv k = 0) ∧ (lst dv D = 0 ∨ dv (lst dv D - 1) ≠ 0)
  | 0 => ⟨Nat.le_refl _, fun k a b => absurd b (Nat.not_lt_zero _), Or.inl rfl⟩
  | D + 1 => by
    obtain ⟨a, b, c⟩ := lst_ok dv D
    unfold lst
    by_cases h : dv D = 0
    · rw [if_pos h]
      refine ⟨by omega, fun k h1 h2 => ?_, c⟩
      by_cases q : k = D
      · rw [q]; exact h
      · exact b k h1 (by omega)
    · rw [if_neg h]
      exact ⟨Nat.le_refl _, fun k h1 h2 => by omega, Or.inr h⟩
theorem NI_lst {D : Nat} {dv : Nat → Nat} {N l la : Nat} (h : NI D dv N l la) : la = lst dv D := by
  obtain ⟨a, b, c, d, x, y⟩ := h
  obtain ⟨a', b', c'⟩ := lst_ok dv D
  rcases Nat.lt_trichotomy la (lst dv D) with q | q | q
  · rcases c' with c' | c'
    · omega
    · exact absurd (c (lst dv D - 1) (by omega) (by omega)) c'
  · exact q
  · rcases x with ⟨x1, x2⟩ | ⟨x1, x2, x3, x4⟩
    · omega
    · exact absurd (b' (la - 1) (by omega) (by omega)) x4
def fitR (t : Nat) (u : Int) (s : Nat) (k : Nat) (c : nf_V) : Prop := (2 ≤ t ∧ ¬ fitT t u ∧ k = 1) ∨ ((t < 2 ∨ fitT t u) ∧ k = 0 ∧ c = (zI t, zL u, zI s, 0))
theorem fitR_1 {t s k k' : Nat} {u : Int} {c c' : nf_V} (h : fitR t u s k c) (h' : fitR t u s k' c') : k = k' ∧ (k = 0 → c = c') := by
  unfold fitR at *
  generalize fitT t u = F at *
  rcases h with ⟨a, b, e⟩ | ⟨a, b, e⟩ <;> rcases h' with ⟨a', b', e'⟩ | ⟨a', b', e'⟩
  · exact ⟨by omega, fun q => by omega⟩
  · exfalso
    rcases a' with q | q
    · omega
    · exact b q
  · exfalso
    rcases a with q | q
    · omega
    · exact b' q
  · exact ⟨by omega, fun _ => by rw [e, e']⟩
def dsg (neg : Bool) (y : UInt64) : UInt64 := if neg then FP.dneg y else y
def rdF (V : Nat) (pw : Int) : UInt64 := tms (FP.l2d (zL V)) pw
def RV (t : Nat) (neg : Bool) (V : Nat) (pw : Int) (k : Nat) (c : nf_V) : Prop :=
  (t < 8 ∧ V = 0 ∧ fitR t 0 0 k c) ∨ (t < 8 ∧ V ≠ 0 ∧ (pw < -6 ∨ 1000000000000000 ≤ V * 10 ^ pw.toNat) ∧ k = 4) ∨ (t < 8 ∧ V ≠ 0 ∧ -6 ≤ pw ∧ V * 10 ^ pw.toNat < 1000000000000000 ∧ fitR t (sgd neg (V * 10 ^ pw.toNat)) (-pw).toNat k c) ∨ (8 ≤ t ∧ V = 0 ∧ k = 0 ∧ c = flt t (dsg neg 0)) ∨ (8 ≤ t ∧ V ≠ 0 ∧ (1000000000000000 ≤ V ∨ pw < -22 ∨ 22 < pw) ∧ k = 4) ∨ (8 ≤ t ∧ V ≠ 0 ∧ V < 1000000000000000 ∧ -22 ≤ pw ∧ pw ≤ 22 ∧ k = 0 ∧ c = flt t (dsg neg (rdF V pw)))
theorem RV_1 {t V k k' : Nat} {neg : Bool} {pw : Int} {c c' : nf_V} (h : RV t neg V pw k c) (h' : RV t neg V pw k' c') : k = k' ∧ (k = 0 → c = c') := by
  unfold RV at *
  generalize V * 10 ^ pw.toNat = W at *
  rcases h with ⟨a1, a2, a3⟩ | ⟨a1, a2, a3, a4⟩ | ⟨a1, a2, a3, a4, a5⟩ | ⟨a1, a2, a3, a4⟩ | ⟨a1, a2, a3, a4⟩ | ⟨a1, a2, a3, a4, a5, a6, a7⟩ <;> rcases h' with ⟨b1, b2, b3⟩ | ⟨b1, b2, b3, b4⟩ | ⟨b1, b2, b3, b4, b5⟩ | ⟨b1, b2, b3, b4⟩ | ⟨b1, b2, b3, b4⟩ | ⟨b1, b2, b3, b4, b5, b6, b7⟩
  all_goals first | omega | exact fitR_1 a3 b3 | exact fitR_1 a5 b5 | exact ⟨by omega, fun _ => by rw [a4, b4]⟩ | exact ⟨by omega, fun _ => by rw [a7, b7]⟩ | exact ⟨by omega, fun _ => by omega⟩
def infD : UInt64 := 9218868437227405312
def dvL (tx : Nat → Nat) (p : Nat) (j : Nat) (pt : Int) : Nat := vd (dvv tx p pt) (lst (dvv tx p pt) (dcn j pt))
def pwL (tx : Nat → Nat) (p : Nat) (j : Nat) (pt E : Int) : Int := (if pt < 0 then (dcn j pt : Int) else pt) - (lst (dvv tx p pt) (dcn j pt) : Nat) + E
def rd1 (n : Nat) (tx : Nat → Nat) (t k : Nat) (c : nf_V) : Prop := ∃ a b, BL n tx a b ∧ ((8 ≤ t ∧ INF tx (sp tx a b) b ∧ k = 0 ∧ c = flt t (dsg (sn tx a b) infD)) ∨ (¬ (8 ≤ t ∧ INF tx (sp tx a b) b) ∧ ∃ j pt, SE tx (sp tx a b) b (mayP t) j pt ∧ (((∀ E, ¬ GD tx (sp tx a b) b t j pt E) ∧ k = 1) ∨ ∃ E, GD tx (sp tx a b) b t j pt E ∧ RV t (sn tx a b) (dvL tx (sp tx a b) j pt) (pwL tx (sp tx a b) j pt E) k c)))
theorem GD_1 {tx : Nat → Nat} {p b t j : Nat} {pt E E' : Int} (h : GD tx p b t j pt E) (h' : GD tx p b t j pt E') : E = E' := by
  rcases h.2 with ⟨a1, a2⟩ | ⟨a1, a2, a3, m, a4, a5, a6, a7⟩ <;> rcases h'.2 with ⟨b1, b2⟩ | ⟨b1, b2, b3, m', b4, b5, b6, b7⟩
  · omega
  · omega
  · omega
  · have := EX_1 a4 b4
    subst this
    rw [a7, b7]
theorem rd1_1 {n t k k' : Nat} {tx : Nat → Nat} {c c' : nf_V} (h : rd1 n tx t k c) (h' : rd1 n tx t k' c') : k = k' ∧ (k = 0 → c = c') := by
  obtain ⟨a, b, hB, h⟩ := h
  obtain ⟨a', b', hB', h'⟩ := h'
  obtain ⟨e1, e2⟩ := BL_1 hB hB'
  subst e1 e2
  rcases h with ⟨a1, a2, a3, a4⟩ | ⟨a1, j, pt, a2, a3⟩ <;> rcases h' with ⟨b1, b2, b3, b4⟩ | ⟨b1, j', pt', b2, b3⟩
  · exact ⟨by omega, fun _ => by rw [a4, b4]⟩
  · exact absurd ⟨a1, a2⟩ b1
  · exact absurd ⟨b1, b2⟩ a1
  · obtain ⟨e3, e4⟩ := SE_1 a2 b2
    subst e3 e4
    rcases a3 with ⟨a3, a4⟩ | ⟨E, a3, a4⟩ <;> rcases b3 with ⟨b3, b4⟩ | ⟨E', b3, b4⟩
    · exact ⟨by omega, fun _ => by omega⟩
    · exact absurd b3 (a3 E')
    · exact absurd a3 (b3 E)
    · have := GD_1 a3 b3
      subst this
      exact RV_1 a4 b4
theorem inf_ok : okD infD := by decide +kernel
theorem dsg_ok {neg : Bool} {y : UInt64} (h : okD y) : okD (dsg neg y) := by
  unfold dsg
  split
  · exact (FP.dneg_nan y).trans h
  · exact h
/-- the digits are digits -/
theorem dvv_lt {tx : Nat → Nat} {p b j : Nat} {may : Prop} {pt : Int} (h : SI tx p b may j pt) : ∀ k, k < dcn j pt → dvv tx p pt k < 10 := by
  intro k hk
  unfold dcn at hk
  unfold dvv
  rcases h.2 with ⟨a1, a2⟩ | ⟨a1, a2, a3, a4, a5⟩
  · rw [if_pos (by omega)] at hk ⊢
    have := a2 k hk
    unfold dig at this
    omega
  · rw [if_neg (by omega)] at hk
    by_cases c : pt < 0 ∨ (k : Int) < pt
    · rw [if_pos c]
      have := a5 k (by omega) (by omega)
      unfold dig at this
      omega
    · rw [if_neg c]
      have := a5 (k + 1) (by omega) (by omega)
      rw [show p + (k + 1) = p + k + 1 by omega] at this
      unfold dig at this
      omega
theorem RV_ok {n t a b j : Nat} {tx : Nat → Nat} {pt E : Int} {neg : Bool} {c : nf_V} (ht : t < 10) (hS : SE tx (sp tx a b) b (mayP t) j pt) (hG : GD tx (sp tx a b) b t j pt E) (h : RV t neg (dvL tx (sp tx a b) j pt) (pwL tx (sp tx a b) j pt E) 0 c) : okV c := by
  have fl : ∀ y, okD y → 8 ≤ t → c = flt t y → okV c := fun y hy h8 e => by rw [e]; exact flt_ok (by omega) hy
  rcases h with ⟨a1, a2, a3⟩ | ⟨a1, a2, a3, a4⟩ | ⟨a1, a2, a3, a4, a5⟩ | ⟨a1, a2, a3, a4⟩ | ⟨a1, a2, a3, a4⟩ | ⟨a1, a2, a3, a4, a5, a6, a7⟩
  · rcases a3 with ⟨q1, q2, q3⟩ | ⟨q1, q2, q3⟩
    · omega
    · exact Or.inr (Or.inl ⟨t, 0, 0, ⟨a1, by decide, by decide, by decide, Or.inl rfl, fun _ => rfl⟩, q3⟩)
  · omega
  · rcases a5 with ⟨q1, q2, q3⟩ | ⟨q1, q2, q3⟩
    · omega
    · refine Or.inr (Or.inl ⟨t, _, _, ?_, q3⟩)
      obtain ⟨l1, l2, l3⟩ := lst_ok (dvv tx (sp tx a b) pt) (dcn j pt)
      have hd := dvv_lt hS.1
      have hE : E = 0 := by
        rcases hG.2 with ⟨_, q⟩ | ⟨q, _⟩
        · exact q
        · omega
      have hs0 : 0 < t → (-pwL tx (sp tx a b) j pt E).toNat = 0 := fun h0 => by
        rcases hS.1.2 with ⟨b1, b2⟩ | ⟨b1, _⟩
        · unfold pwL
          rw [if_pos (by omega), hE]
          omega
        · unfold mayP at b1
          omega
      have hn : (-pwL tx (sp tx a b) j pt E).toNat = 0 ∨ (dvL tx (sp tx a b) j pt * 10 ^ (pwL tx (sp tx a b) j pt E).toNat) % 10 ≠ 0 := by
        by_cases hp : 0 ≤ pwL tx (sp tx a b) j pt E
        · exact Or.inl (by omega)
        · right
          rw [show (pwL tx (sp tx a b) j pt E).toNat = 0 by omega, Nat.pow_zero, Nat.mul_one]
          unfold dvL at a2 ⊢
          rcases l3 with l3 | l3
          · rw [l3] at a2
            exact absurd rfl a2
          · obtain ⟨y, hy⟩ : ∃ y, lst (dvv tx (sp tx a b) pt) (dcn j pt) = y + 1 := by
              refine ⟨lst (dvv tx (sp tx a b) pt) (dcn j pt) - 1, ?_⟩
              have : lst (dvv tx (sp tx a b) pt) (dcn j pt) ≠ 0 := fun q => by
                rw [q] at a2
                exact a2 rfl
              omega
            rw [hy] at l3 l1 ⊢
            rw [Nat.add_sub_cancel] at l3
            have hd2 := hd y (by omega)
            show (10 * vd (dvv tx (sp tx a b) pt) y + dvv tx (sp tx a b) pt y) % 10 ≠ 0
            omega
      generalize dvL tx (sp tx a b) j pt * 10 ^ (pwL tx (sp tx a b) j pt E).toNat = W at *
      unfold sgd
      cases neg
      · rw [if_neg (by decide)]
        exact ⟨a1, by omega, by omega, by omega, by omega, hs0⟩
      · rw [if_pos rfl]
        exact ⟨a1, by omega, by omega, by omega, by omega, hs0⟩
  · exact fl _ (dsg_ok ok0) a1 a4
  · omega
  · exact fl _ (dsg_ok (tms_ok (okF (FP.Core.l2d_fin _)) (by omega) (by omega))) a1 a7
theorem s_F_fin94 {r : Nat} {c : nf_V} {M M1 : nf_M} {post : Unit → nf_M → Prop} {ex : Nat → nf_M → Prop} (hr : r < 8) (h : kZ 0 c M M1) (k : ∀ M', kC r c M M' → post () (ms_N M' false 0)) : B_F_read_94 post ex (rgn r) M1 := by
  unfold B_F_read_94
  obtain ⟨M0, h1, h2⟩ := h
  refine s_V_become (Ne.symm (rgn_0 r)) (fun M' hk => ?_)
  rw [h2.2.2.2.2.1] at hk
  unfold P_R_clear
  intro M4 e4
  rw [e4]
  exact k M' ((h1.tr h2.D).C (kW.C hr hk))
theorem s_N_asFloating {t N l : Nat} {neg : Bool} {pw : Int} {M : nf_M} {post : UInt64 → nf_M → Prop} {ex : Nat → nf_M → Prop} (g2 : mg_I M 6 2 = (if neg then 1 else 0)) (g3 : mg_I M 6 3 = 0) (g4 : mg_L M 6 4 = zL N) (g5 : mg_I M 6 5 = zI l) (g6 : mg_I M 6 6 = zI pw) (hl : l ≤ 60) (hpw : -2000 < pw ∧ pw < 2000) (k0 : l = 0 → post (dsg neg 0) M) (k4 : 0 < l → (15 < l ∨ pw < -22 ∨ 22 < pw) → ex 4 M) (k : 0 < l → l ≤ 15 → -22 ≤ pw → pw ≤ 22 → post (dsg neg (rdF N pw)) M) : P_N_asFloating M post ex := by
  unfold P_N_asFloating B_N_asFloating_50
  have h73 : ∀ x : UInt64, post (dsg neg x) M → B_N_asFloating_73 post ex x M := fun x hx => by
    unfold B_N_asFloating_73 B_N_asFloating_86
    rw [g2]
    unfold dsg at hx
    cases neg
    · rw [if_neg (by decide)] at hx ⊢
      exact ⟨fun _ => hx, fun q => absurd rfl q⟩
    · rw [if_pos rfl] at hx ⊢
      exact ⟨fun q => absurd q (by decide), fun _ => hx⟩
  rw [g3, g5, g6, show (15 : Int32) = zI (15 : Nat) by decide, zlt (by omega) (by omega), show (-22 : Int32) = zI (-22) by decide, show (22 : Int32) = zI 22 by decide, zI_lt (by omega) (by omega) (by omega) (by omega), zI_lt (by omega) (by omega) (by omega) (by omega)]
  refine ⟨fun _ => ⟨fun q => ?_, fun q => h73 _ (k0 ?_)⟩, fun q => absurd rfl q⟩
  · rw [show (0 : Int32) = zI (0 : Nat) by decide, zlt (by omega) (by omega)] at q
    refine ⟨fun q2 => k4 q (Or.inl q2), fun q2 => ⟨fun q3 => k4 q (Or.inr (Or.inl q3)), fun q3 => ⟨fun q4 => k4 q (Or.inr (Or.inr q4)), fun q4 => ?_⟩⟩⟩
    rw [g4]
    exact s_F_timesTen (okF (FP.Core.l2d_fin _)) (by omega) (by omega) (h73 _ (k q (by omega) (by omega) (by omega)))
  · rw [show (0 : Int32) = zI (0 : Nat) by decide, zlt (by omega) (by omega)] at q
    omega
theorem s_N_units {N l : Nat} {neg : Bool} {pw : Int} {M : nf_M} {post : Int64 → nf_M → Prop} {ex : Nat → nf_M → Prop} (g2 : mg_I M 6 2 = (if neg then 1 else 0)) (g4 : mg_L M 6 4 = zL N) (g5 : mg_I M 6 5 = zI l) (g6 : mg_I M 6 6 = zI pw) (hl : l ≤ 60) (hpw : -100 < pw ∧ pw < 100) (k0 : l = 0 → post 0 M) (k4 : 0 < l → (pw < -6 ∨ 15 < l + pw.toNat) → ex 4 M) (k : 0 < l → -6 ≤ pw → l + pw.toNat ≤ 15 → post (zL (sgd neg (N * 10 ^ pw.toNat))) M) : P_N_units M post ex := by
  unfold P_N_units B_N_units_36 B_N_units_76
  rw [g5, g6, z0' (by omega), show (-6 : Int32) = zI (-6) by decide, zI_lt (by omega) (by omega) (by omega) (by omega)]
  refine ⟨fun q => k0 q, fun q => ⟨fun q2 => k4 (by omega) (Or.inl q2), fun q2 => ?_⟩⟩
  have em : (if pw < 0 then 0 else pw) = ((pw.toNat : Nat) : Int) := by split <;> omega
  rw [show (0 : Int32) = zI 0 by decide]
  refine s_JM_maxZ (by omega) (by omega) ?_
  rw [em, zI_add, show (l : Int) + ((pw.toNat : Nat) : Int) = ((l + pw.toNat : Nat) : Int) by omega, show (15 : Int32) = zI (15 : Nat) by decide, zlt (by omega) (by omega)]
  refine ⟨fun q3 => k4 (by omega) (Or.inr q3), fun q3 => ?_⟩
  rw [g6]
  refine s_JM_maxZ (by omega) (by omega) ?_
  rw [em]
  refine s_F_power (by omega) (fun t7 e7 => ?_)
  have k := k (by omega) (by omega) (by omega)
  rw [g4, pw_z, zLmul] at e7
  rw [g2, e7]
  unfold sgd at k
  cases neg
  · rw [if_neg (by decide)] at k ⊢
    exact ⟨fun _ => k, fun q => absurd rfl q⟩
  · rw [if_pos rfl] at k ⊢
    rw [zL_neg]
    exact ⟨fun q => absurd q (by decide), fun _ => k⟩
theorem s_N_scale {l : Nat} {pw : Int} {M : nf_M} {post : Int32 → nf_M → Prop} (g5 : mg_I M 6 5 = zI l) (g6 : mg_I M 6 6 = zI pw) (hl : l ≤ 60) (hpw : -100 < pw ∧ pw < 100) (k0 : l = 0 → post 0 M) (k : 0 < l → post (zI ((-pw).toNat : Nat)) M) : P_N_scale M post := by
  unfold P_N_scale B_N_scale_20
  rw [g5, g6, z0' (by omega)]
  refine ⟨fun q => k0 q, fun q => ?_⟩
  rw [zI_neg, show (0 : Int32) = zI 0 by decide]
  refine s_JM_maxZ (by omega) (by omega) ?_
  rw [show (if -pw < 0 then 0 else -pw) = (((-pw).toNat : Nat) : Int) by split <;> omega]
  exact k (by omega)
