/-! picture: the number; the system's call -/
theorem PIc_p {n : Nat} {tx : Nat → Nat} {h W a b : Nat} (p : PIc n tx h W a b) : (a - (h + W) - 1) + (b - a) = b - (h + W) - 1 := by
  obtain ⟨p1, p2, p3⟩ := p
  rcases p3 with ⟨f1, f2, f3, f4⟩ | ⟨f1, f2, f3⟩
  · have h1 := f3.1
    have h2 := f4.1
    omega
  · omega
def rndA (A s p : Nat) : Nat := if p < s then rnd A (s - p) else A
def rndS (s p : Nat) : Nat := if p < s then p else s
def picF (n : Nat) (tx : Nat → Nat) (h W a b : Nat) (u : Int) (s : Nat) : List Nat := picL n tx h W a b (decide (u < 0) = true ∧ (dz (rndS s (b - (h + W) - 1)) (rndA u.natAbs s (b - (h + W) - 1))).1 ≠ 0) (dz (rndS s (b - (h + W) - 1)) (rndA u.natAbs s (b - (h + W) - 1))).1 (dz (rndS s (b - (h + W) - 1)) (rndA u.natAbs s (b - (h + W) - 1))).2
def pct1 (np : Prop) (u0 : Int) (s0 k : Nat) (u : Int) (s : Nat) : Prop := (np ∧ k = 0 ∧ u = u0 ∧ s = s0) ∨ (¬ np ∧ (spS (u0.natAbs * 100) s0).1 < 1000000000000000 ∧ k = 0 ∧ u = sgd (decide (u0 < 0)) (spS (u0.natAbs * 100) s0).1 ∧ s = (spS (u0.natAbs * 100) s0).2) ∨ (¬ np ∧ ¬ (spS (u0.natAbs * 100) s0).1 < 1000000000000000 ∧ k = 4)
def pic1 (A : nf_V) (np : Prop) (k : Nat) (u : Int) (s : Nat) : Prop := ∃ k0 c, cast1 0 A k0 c ∧ ((k0 ≠ 0 ∧ k = k0) ∨ (k0 = 0 ∧ ∃ u0 s0, okE 0 u0 s0 ∧ c = (zI (0 : Nat), zL u0, zI (s0 : Nat), 0) ∧ pct1 np u0 s0 k u s))
theorem pic1_1 {A : nf_V} {np : Prop} {k k' s s' : Nat} {u u' : Int} (h : pic1 A np k u s) (h' : pic1 A np k' u' s') : k = k' ∧ (k = 0 → u = u' ∧ s = s') := by
  obtain ⟨k0, c, hc, h⟩ := h
  obtain ⟨k0', c', hc', h'⟩ := h'
  obtain ⟨e1, e2⟩ := cast1_1 hc hc'
  subst e1
  rcases h with ⟨a1, a2⟩ | ⟨a1, u0, s0, o, ec, hp⟩ <;> rcases h' with ⟨b1, b2⟩ | ⟨b1, u0', s0', o', ec', hp'⟩
  · exact ⟨by omega, fun q => by omega⟩
  · omega
  · omega
  · have e3 := e2 a1
    rw [ec, ec'] at e3
    injection e3 with x1 x2
    injection x2 with x2 x3
    injection x3 with x3 x4
    obtain ⟨o1, o2, o3, o4, -⟩ := o
    obtain ⟨o1', o2', o3', o4', -⟩ := o'
    rw [zL_eq (by omega) (by omega) (by omega) (by omega)] at x2
    rw [zeq (by omega) (by omega)] at x3
    subst x2 x3
    unfold pct1 at hp hp'
    generalize spS (u0.natAbs * 100) s0 = q at *
    rcases hp with ⟨y1, y2, y3, y4⟩ | ⟨y1, y2, y3, y4, y5⟩ | ⟨y1, y2, y3⟩ <;> rcases hp' with ⟨z1, z2, z3, z4⟩ | ⟨z1, z2, z3, z4, z5⟩ | ⟨z1, z2, z3⟩
    · exact ⟨by omega, fun _ => ⟨by rw [y3, z3], by omega⟩⟩
    · exact absurd y1 z1
    · exact absurd y1 z1
    · exact absurd z1 y1
    · exact ⟨by omega, fun _ => ⟨by rw [y4, z4], by omega⟩⟩
    · omega
    · exact absurd z1 y1
    · omega
    · exact ⟨by omega, fun w => by omega⟩
theorem sgd_abs (neg : Bool) (n : Nat) : (sgd neg n).natAbs = n := by
  unfold sgd
  cases neg
  · simp
  · simp
theorem sgd_b (neg : Bool) {n : Nat} (h : n < 1000000000000000) : lim (sgd neg n) := by
  show -1000000000000000 < _ ∧ _ < 1000000000000000
  unfold sgd
  cases neg
  · rw [if_neg (by decide)]; omega
  · rw [if_pos rfl]; omega
theorem natAbs10 {u : Int} : u % 10 ≠ 0 → u.natAbs % 10 ≠ 0 := by omega
/-- a DECIMAL as it stands before the rounding -/
def okU (u : Int) (s : Nat) : Prop := lim u ∧ s ≤ 6 ∧ (s = 0 ∨ u.natAbs % 10 ≠ 0)
theorem pct1_ok {np : Prop} {u0 u : Int} {s0 s : Nat} (o : okE 0 u0 s0) (h : pct1 np u0 s0 0 u s) : okU u s := by
  obtain ⟨o1, o2, o3, o4, o5, -⟩ := o
  rcases h with ⟨y1, y2, y3, y4⟩ | ⟨y1, y2, y3, y4, y5⟩ | ⟨y1, y2, y3⟩
  · rw [y3, y4]
    refine ⟨⟨o2, o3⟩, o4, ?_⟩
    rcases o5 with q | q
    · exact Or.inl q
    · exact Or.inr (natAbs10 q)
  · obtain ⟨n1, n2, n3⟩ := spS_norm (u0.natAbs * 100) s0
    rw [y4, y5]
    exact ⟨sgd_b _ y2, n2, by rw [sgd_abs]; exact n1⟩
  · omega
theorem cast0_c {A c : nf_V} (va : okV A) (fa : 0 ≤ A.1.toInt) (h : cast1 0 A 0 c) : ∃ u0 s0, okE 0 u0 s0 ∧ c = (zI (0 : Nat), zL u0, zI (s0 : Nat), 0) := by
  have hv := cast1_ok va fa h
  have hc1 : c.1 = 0 := by
    rcases h with ⟨h1, h2, h3⟩ | ⟨h1, h2, h3⟩ | ⟨h1, ta, p, a, oa, eA, h⟩ | ⟨h1, ta, x, ht, hx, eA, h⟩
    · omega
    · omega
    · rcases h with ⟨a1, a2, a3⟩ | ⟨a1, a2, a3⟩
      · omega
      · rw [a3]; rfl
    · rcases h with ⟨a1, a2⟩ | ⟨a1, a2, a3⟩ | ⟨a1, a2, a3, u, a4, a5, a6⟩ | ⟨a1, a2, a3, a4, n, a5, a6⟩
      · omega
      · omega
      · rcases a6 with ⟨b1, b2, b3⟩ | ⟨b1, b2, b3⟩
        · omega
        · rw [b3]; rfl
      · rcases a6 with ⟨b1, b2⟩ | ⟨b1, b2, b3⟩
        · omega
        · rw [b3]
  obtain ⟨t, p, a, oa, eA⟩ := okV_X hv (by rw [hc1]; decide) (by rw [hc1]; decide)
  have t8 := oa.1
  have et : t = 0 := by
    have : zI (t : Int) = 0 := by rw [← hc1, eA]
    exact (z0' (by omega)).mp this
  subst et
  exact ⟨a, p, oa, eA⟩
theorem rnd_lt {A s p : Nat} (h : A < 1000000000000000) : rndA A s p < 1000000000000000 := by
  unfold rndA
  split
  · have h1 := rnd_le2 A (s - p)
    have h2 : 10 ^ 1 ≤ 10 ^ (s - p) := Nat.pow_le_pow_right (by decide) (by omega)
    have h3 : A / 10 ^ (s - p) ≤ A / 10 ^ 1 := Nat.div_le_div_left h2 (by decide)
    omega
  · exact h
theorem dzr_ok {u : Int} {s p : Nat} (o : okU u s) : (dz (rndS s p) (rndA u.natAbs s p)).1 < 1000000000000000 ∧ (dz (rndS s p) (rndA u.natAbs s p)).2 ≤ 6 ∧ rndS s p ≤ 6 := by
  obtain ⟨⟨l1, l2⟩, o2, o3⟩ := o
  have h1 := rnd_lt (A := u.natAbs) (s := s) (p := p) (by omega)
  have h2 := dz_le (rndS s p) (rndA u.natAbs s p)
  have h3 : rndS s p ≤ 6 := by unfold rndS; split <;> omega
  omega
/-- the system's answer before it is written -/
def stF (M0 M : nf_M) (u : Int) (s : Nat) : Prop := kD M0 M ∧ mg_U M 0 = zL u ∧ mg_S M 0 = zI s
theorem kZ_st {M0 M M' : nf_M} {c : nf_V} (hk : kD M0 M) (h : kZ 0 c M M') : kD M0 M' ∧ mg_U M' 0 = c.2.1 ∧ mg_S M' 0 = c.2.2.1 := by
  refine ⟨hk.tr (kZ_D h), kZ_U h, ?_⟩
  obtain ⟨M1, h1, h2⟩ := h
  exact congrArg (fun c : nf_V => c.2.2.1) h2.2.2.2.2.1
theorem s_W_becomeV {x : Nat} {M : nf_M} {post : Unit → nf_M → Prop} (hx : x < 9223372036854775808) (k : ∀ M', kD M M' → isW M' x → mg_U M' 0 = mg_U M 0 → mg_S M' 0 = mg_S M 0 → post () M') : P_W_become (zL x) M post := by
  unfold P_W_become
  intro t1 e1 M2 e2 t3 e3 M4 e4
  rw [e15, zmod hx (by omega)] at e3
  rw [e15, zdiv hx (by omega)] at e1
  subst e1 e2 e3 e4
  exact k _ (kD_92 _ _ _ _ _) ⟨rfl, rfl, by omega⟩ rfl rfl
theorem s_F_roundAnswer {p s : Nat} {u : Int} {M0 M : nf_M} {post : Unit → nf_M → Prop} {ex : Nat → nf_M → Prop} (hp : p < 100) (o : okU u s) (h : stF M0 M u s) (k : ∀ M', stF M0 M' (sgd (decide (u < 0)) (dz (rndS s p) (rndA u.natAbs s p)).1) (dz (rndS s p) (rndA u.natAbs s p)).2 → post () M') : P_F_roundAnswer (zI p) M post ex := by
  obtain ⟨d1, d2, d3⟩ := dzr_ok (p := p) o
  obtain ⟨⟨l1, l2⟩, o2, o3⟩ := o
  obtain ⟨hk, gU, gS⟩ := h
  unfold P_F_roundAnswer B_F_roundAnswer_75
  rw [gS, gU, zlt (by omega) (by omega)]
  refine ⟨fun q => ?_, fun q => ?_⟩
  · refine s_JM_abs (by omega) ?_
    rw [gS, zI_sub, show (s : Int) - (p : Int) = ((s - p : Nat) : Int) by omega]
    obtain ⟨q1, q2⟩ := pow6 (show s - p ≤ 6 by omega)
    refine s_F_power (by omega) ?_
    rw [pw_z]
    have hA : rndA u.natAbs s p = rnd u.natAbs (s - p) := if_pos q
    have hS : rndS s p = p := if_pos q
    have hw := rnd_lt (A := u.natAbs) (s := s) (p := p) (by omega)
    rw [hA] at hw
    rw [hA, hS] at k d1 d2
    have e8 : spS (rnd u.natAbs (s - p)) p = dz p (rnd u.natAbs (s - p)) := if_neg (by omega)
    have hset : ∀ (neg : Bool) (x3 : Int32) (M8 : nf_M), kD M M8 → isW M8 (rnd u.natAbs (s - p)) → neg = decide (u < 0) → (x3 = if neg then 1 else 0) → B_F_roundAnswer_71 post ex (zI p) x3 (0 : Int32) (0 : Fin 9) M8 := by
      intro neg x3 M8 k8 w8 en ex3
      unfold B_F_roundAnswer_71 B_F_roundAnswer_75
      refine s_W_settle (neg := neg) ex3 (by omega) w8 (by omega) (fun hlt M9 hz => ?_) (fun hlt => absurd (by rw [e8]; exact d1) hlt)
      rw [e8, en] at hz
      exact k M9 (kZ_st (hk.tr k8) hz)
    have go : ∀ w : Nat, w = rnd u.natAbs (s - p) → P_W_become (zL w) M (fun _ M8 => (mg_U M8 (0 : Fin 9) < (0 : Int64) → B_F_roundAnswer_71 post ex (zI p) (1 : Int32) (0 : Int32) (0 : Fin 9) M8) ∧ (¬ mg_U M8 (0 : Fin 9) < (0 : Int64) → B_F_roundAnswer_71 post ex (zI p) (0 : Int32) (0 : Int32) (0 : Fin 9) M8)) := by
      intro w ew
      subst ew
      refine s_W_becomeV (by omega) (fun M8 k8 w8 g8 _ => ?_)
      rw [g8, gU, show (0 : Int64) = zL 0 by decide, zL_lt (by omega) (by omega) (by omega) (by omega)]
      exact ⟨fun c => hset true 1 M8 k8 w8 (decide_eq_true c).symm rfl, fun c => hset false 0 M8 k8 w8 (decide_eq_false c).symm rfl⟩
    refine s_F_overHalfEven (by omega) (by omega) (fun z => go _ ?_) (fun z => go _ ?_)
    · exact (if_pos z).symm
    · exact (if_neg z).symm
  · have hA : rndA u.natAbs s p = u.natAbs := if_neg q
    have hS : rndS s p = s := if_neg q
    rw [hA, hS, dz_stay s u.natAbs o3] at k
    refine k M ⟨hk, ?_, gS⟩
    rw [gU]
    congr 1
    show u = sgd (decide (u < 0)) u.natAbs
    unfold sgd
    by_cases c : u < 0
    · rw [decide_eq_true c, if_pos rfl]; omega
    · rw [decide_eq_false c, if_neg (by decide)]; omega
theorem s_F_pic107 {n : Nat} {tx : Nat → Nat} {h W a b s : Nat} {u : Int} {M0 M : nf_M} {post : Int32 → nf_M → Prop} {ex : Nat → nf_M → Prop} (hT : okT n tx) (hr : rowF M0 false n tx) (p : PIc n tx h W a b) (f : PFd n tx h W a b M0) (o : okU u s) (g : stF M0 M u s) (k : ∀ M', kE M0 M' → wF M' (picF n tx h W a b u s) → post (zI (picF n tx h W a b u s).length) M') : B_F_picture_107 post ex M := by
  obtain ⟨p1, p2, p3⟩ := PIc_le p
  have hn := hT.1
  obtain ⟨d1, d2, d3⟩ := dzr_ok (p := b - (h + W) - 1) o
  have e7 : ∀ {M1 : nf_M}, kD M0 M1 → ∀ j, mg_I M1 7 j = mg_I M0 7 j := fun k1 j => by rw [(k1.1 7 (by decide) (by decide)).1]
  unfold B_F_picture_107
  rw [e7 g.1 5, e7 g.1 6, f.2.2.2.2.1, f.2.2.2.2.2.1, zI_add, show ((a - (h + W) - 1 : Nat) : Int) + ((b - a : Nat) : Int) = ((b - (h + W) - 1 : Nat) : Int) by have := PIc_p p; omega]
  refine s_F_roundAnswer (by omega) o g (fun M1 g1 => ?_)
  obtain ⟨k1, gU, gS⟩ := g1
  have f1 : PFd n tx h W a b M1 := by
    unfold PFd at f ⊢
    rw [e7 k1 0, e7 k1 1, e7 k1 3, e7 k1 4, e7 k1 5, e7 k1 6, e7 k1 7]
    exact f
  refine s_P_fill hT (k1.2.1.row hr) p d1 d2 f1 gU gS (fun M' k' w' => ?_)
  rw [w'.1]
  exact k M' (k1.E.tr k'.E) w'
theorem s_F_pic26 {n : Nat} {tx : Nat → Nat} {h W a b r : Nat} {rg : Nat → nf_V} {M : nf_M} {post : Int32 → nf_M → Prop} {ex : Nat → nf_M → Prop} (hT : okT n tx) (hr : rowF M false n tx) (p : PIc n tx h W a b) (f : PFd n tx h W a b M) (hr8 : r < 8) (hc : cv M rg) (hv : okR rg) (fa : 0 ≤ (rg r).1.toInt) (k : ∀ k u s, pic1 (rg r) (NPt n tx b) k u s → (k ≠ 0 → ∀ M', kD M M' → ex k M') ∧ (k = 0 → okU u s → ∀ M', kE M M' → wF M' (picF n tx h W a b u s) → post (zI (picF n tx h W a b u s).length) M')) : P_F_castIntoAnswer (rgn r) (0 : Int32) M (fun _ M8 => (mg_I M8 7 7 = 0 → B_F_picture_107 post ex M8) ∧ (¬ mg_I M8 7 7 = 0 → P_JM_abs_JJ (mg_U M8 (0 : Fin 9)) M8 (fun r9 M10 => P_W_become (r9 * (100 : Int64)) M10 (fun _ M12 => (mg_U M12 (0 : Fin 9) < (0 : Int64) → B_F_picture_97 post ex (1 : Int32) (0 : Int32) (0 : Fin 9) M12) ∧ (¬ mg_U M12 (0 : Fin 9) < (0 : Int64) → B_F_picture_97 post ex (0 : Int32) (0 : Int32) (0 : Fin 9) M12))))) ex := by
  rw [show (0 : Int32) = zI ((0 : Nat) : Int) by decide]
  refine s_F_castInto hr8 (by decide) hc hv fa (fun k0 c hcst => ⟨fun hk0 M' kd => ?_, fun hk0 M8 hz => ?_⟩)
  · have h5 : ¬ k0 = 5 := fun e => by
      rcases hcst with ⟨h1, h2, h3⟩ | ⟨h1, h2, h3⟩ | ⟨h1, ta, p, a, oa, eA, h⟩ | ⟨h1, ta, x, ht, hx, eA, h⟩
      · omega
      · omega
      · unfold fitOut at h; omega
      · rcases h with ⟨a1, a2⟩ | ⟨a1, a2, a3⟩ | ⟨a1, a2, a3, u, a4, a5, a6⟩ | ⟨a1, a2, a3, a4, n, a5, a6⟩
        · omega
        · omega
        · unfold fitOut at a6; omega
        · omega
    rw [if_neg h5]
    exact (k k0 0 0 ⟨k0, c, hcst, Or.inl ⟨hk0, rfl⟩⟩).1 hk0 M' kd
  · subst hk0
    obtain ⟨u0, s0, o, ec⟩ := cast0_c (hv r hr8) fa hcst
    obtain ⟨k8, gU, gS⟩ := kZ_st (kD.rf M) hz
    rw [ec] at gU gS
    have g8 : stF M M8 u0 s0 := ⟨k8, gU, gS⟩
    have mk : ∀ kk u s, pct1 (NPt n tx b) u0 s0 kk u s → pic1 (rg r) (NPt n tx b) kk u s := fun kk u s q => ⟨0, c, hcst, Or.inr ⟨rfl, u0, s0, o, ec, q⟩⟩
    have e7 : mg_I M8 7 7 = mg_I M 7 7 := by rw [(k8.1 7 (by decide) (by decide)).1]
    obtain ⟨o1, o2, o3, o4, o5, -⟩ := id o
    rw [show ((zI ((0 : Nat) : Int)) : Int32) = 0 by decide, e7, f.2.2.2.2.2.2]
    refine ⟨fun q => ?_, fun q => ?_⟩
    · have hp : pct1 (NPt n tx b) u0 s0 0 u0 s0 := Or.inl ⟨q, rfl, rfl, rfl⟩
      exact s_F_pic107 hT hr p f (pct1_ok o hp) g8 ((k 0 u0 s0 (mk _ _ _ hp)).2 rfl (pct1_ok o hp))
    · rw [gU]
      refine s_JM_abs (by omega) ?_
      rw [show (100 : Int64) = zL (100 : Nat) by decide, zLmul]
      refine s_W_becomeV (by omega) (fun M12 k12 w12 u12 s12 => ?_)
      rw [u12, gU, show (0 : Int64) = zL 0 by decide, zL_lt (by omega) (by omega) (by omega) (by omega)]
      have hset : ∀ (neg : Bool) (x3 : Int32), neg = decide (u0 < 0) → (x3 = if neg then 1 else 0) → B_F_picture_97 post ex x3 (0 : Int32) (0 : Fin 9) M12 := by
        intro neg x3 en ex3
        unfold B_F_picture_97
        rw [s12, gS]
        refine s_W_settle (neg := neg) ex3 (by omega) w12 (by omega) (fun hlt M9 hz9 => ?_) (fun hlt M9 k9 => ?_)
        · rw [en] at hz9
          have hp : pct1 (NPt n tx b) u0 s0 0 (sgd (decide (u0 < 0)) (spS (u0.natAbs * 100) s0).1) (spS (u0.natAbs * 100) s0).2 := Or.inr (Or.inl ⟨q, hlt, rfl, rfl, rfl⟩)
          exact s_F_pic107 hT hr p f (pct1_ok o hp) (kZ_st (k8.tr k12) hz9) ((k 0 _ _ (mk _ _ _ hp)).2 rfl (pct1_ok o hp))
        · exact (k 4 0 0 (mk _ _ _ (Or.inr (Or.inr ⟨q, hlt, rfl⟩)))).1 (by decide) M9 (k8.tr (k12.tr k9))
      exact ⟨fun c => hset true 1 (decide_eq_true c).symm rfl, fun c => hset false 0 (decide_eq_false c).symm rfl⟩
theorem s_F_picture {n : Nat} {tx : Nat → Nat} {x1 : Int32} {rg : Nat → nf_V} {M : nf_M} {post : Int32 → nf_M → Prop} {ex : Nat → nf_M → Prop} (hT : okT n tx) (hr : rowF M false n tx) (hc : cv M rg) (hv : okR rg) (hc7 : ∀ M', k7 M M' → cv M' rg) (h0 : ¬ inR x1 → ex 0 M) (h2 : ∀ r, r < 8 → x1 = zI (r : Nat) → (rg r).1.toInt = -1 → ex 2 M) (h1 : ∀ r, r < 8 → x1 = zI (r : Nat) → 0 ≤ (rg r).1.toInt → (∀ h W a b, PIc n tx h W a b → ¬ OKP n tx h W b) → ∀ M', k7 M M' → ex 1 M') (k : ∀ r, r < 8 → x1 = zI (r : Nat) → 0 ≤ (rg r).1.toInt → ∀ h W a b, PIc n tx h W a b → OKP n tx h W b → ∀ M6, k7 M M6 → ∀ k u s, pic1 (rg r) (NPt n tx b) k u s → (k ≠ 0 → ∀ M', kD M6 M' → ex k M') ∧ (k = 0 → okU u s → ∀ M', kE M6 M' → wF M' (picF n tx h W a b u s) → post (zI (picF n tx h W a b u s).length) M')) : P_F_picture x1 M post ex := by
  unfold P_F_picture
  refine s_F_register (fun r hr8 er => s_F_checkFull (hc r hr8) (hv r hr8) (fun fa => ?_) (fun z => h2 r hr8 er z)) h0
  refine s_P_parse hT hr (fun hno M6 k6 => ⟨fun _ => h1 r hr8 er fa hno M6 k6, fun w => absurd rfl w⟩) (fun h W a b p ok M6 k6 f => ⟨fun w => absurd w (by decide), fun _ => ?_⟩)
  exact s_F_pic26 hT (k6.row hr) p f hr8 (hc7 M6 k6) hv fa (k r hr8 er fa h W a b p ok M6 k6)
