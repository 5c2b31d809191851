/-! the digits of a floating number: the system -/
def bk (sg : Bool) (m : Nat) (q : Int) : UInt64 := if sg then sng (tms (FP.l2d (zL m)) q) else tms (FP.l2d (zL m)) q
def hit (sg : Bool) (d : UInt64) (e : Int) (j m : Nat) : Prop := zv (bk sg m (e - j)) = zv d
def mxd (sg : Bool) : Nat := if sg then 8 else 15
def FR (sg : Bool) (d : UInt64) (e : Int) (j m : Nat) : Prop := j < mxd sg ∧ ev (tms d (-(e - j))) m ∧ (∀ i, i < j → ∀ m' : Nat, ev (tms d (-(e - i))) m' → ¬ hit sg d e i m') ∧ (j + 1 = mxd sg ∨ hit sg d e j m)
theorem FR_1 {sg : Bool} {d : UInt64} {e : Int} {j j' m m' : Nat} (h : FR sg d e j m) (h' : FR sg d e j' m') : j = j' ∧ m = m' := by
  obtain ⟨a, b, c, f⟩ := h
  obtain ⟨a', b', c', f'⟩ := h'
  have hj : j = j' := by
    rcases Nat.lt_trichotomy j j' with q | q | q
    · rcases f with f | f
      · omega
      · exact absurd f (c' j q m b)
    · exact q
    · rcases f' with f' | f'
      · omega
      · exact absurd f' (c j' q m' b')
  subst hj
  have := ev_1 b b'
  exact ⟨rfl, by omega⟩
/-- zeros at the end go -/
def ST (m : Nat) (q : Int) (m' : Nat) (q' : Int) : Prop := m' % 10 ≠ 0 ∧ ∃ i : Nat, m = m' * 10 ^ i ∧ q' = q + i
theorem ST_1 {m a b : Nat} {q c d : Int} (h : ST m q a c) (h' : ST m q b d) : a = b ∧ c = d := by
  obtain ⟨h1, i, h2, h3⟩ := h
  obtain ⟨g1, k, g2, g3⟩ := h'
  have key : ∀ (i k a b : Nat), a * 10 ^ i = b * 10 ^ k → a % 10 ≠ 0 → b % 10 ≠ 0 → i ≤ k → i = k := by
    intro i k a b e ha hb hik
    refine Classical.byContradiction fun q => ?_
    obtain ⟨l, rfl⟩ : ∃ l, k = i + (l + 1) := ⟨k - i - 1, by omega⟩
    rw [Nat.pow_add, Nat.mul_comm (10 ^ i), ← Nat.mul_assoc] at e
    have := Nat.eq_of_mul_eq_mul_right (Nat.pow_pos (by decide)) e
    rw [Nat.pow_succ, ← Nat.mul_assoc] at this
    omega
  have hik : i = k := by
    rcases Nat.le_total i k with q | q
    · exact key i k a b (h2.symm.trans g2) h1 g1 q
    · exact (key k i b a (g2.symm.trans h2) g1 h1 q).symm
  subst hik
  exact ⟨Nat.eq_of_mul_eq_mul_right (Nat.pow_pos (by decide)) (h2.symm.trans g2), by omega⟩
theorem kD_8L (M : nf_M) (k : Nat) (v : Int64) : kD M (ms_L M 8 k v) := by
  refine ⟨fun o h1 h2 => ⟨rfl, ?_, rfl⟩, ⟨rfl, rfl⟩, fun _ _ => rfl⟩
  show (if o = 8 then _ else mg_L M o) = mg_L M o
  rw [if_neg (by omega)]
theorem kD_8I (M : nf_M) (k : Nat) (v : Int32) : kD M (ms_I M 8 k v) := by
  refine ⟨fun o h1 h2 => ⟨?_, rfl, rfl⟩, ⟨rfl, rfl⟩, fun _ _ => rfl⟩
  show (if o = 8 then _ else mg_I M o) = mg_I M o
  rw [if_neg (by omega)]
theorem s_D_dropZeros {m : Nat} {q : Int} {M : nf_M} {post : Unit → nf_M → Prop} (hm : 1 ≤ m) (hm2 : m < 10000000000000000) (hq : -100 < q ∧ q < 100) (h1 : mg_L M 8 0 = zL m) (h2 : mg_I M 8 1 = zI q) (k : ∀ m' q' M', ST m q m' q' → kD M M' → mg_L M' 8 0 = zL (m' : Nat) → mg_I M' 8 1 = zI q' → post () M') : P_D_dropZeros M post := by
  have key : ∀ (r i a : Nat) (M1 : nf_M), r + i = 16 → m = a * 10 ^ i → 1 ≤ a → kD M M1 → mg_L M1 8 0 = zL a → mg_I M1 8 1 = zI (q + i) → B_D_dropZeros_2 post (r + 1) (zI i) M1 := by
    intro r
    induction r with
    | zero =>
      intro i a M1 hr he ha hk g1 g2
      exfalso
      have hi : i = 16 := by omega
      subst hi
      have : 1 * 10 ^ 16 ≤ a * 10 ^ 16 := Nat.mul_le_mul_right _ ha
      omega
    | succ r ih =>
      intro i a M1 hr he ha hk g1 g2
      have hp : 0 < 10 ^ i := Nat.pow_pos (by decide)
      have hab : a ≤ m := by rw [he]; exact Nat.le_mul_of_pos_right _ hp
      unfold B_D_dropZeros_2 B_D_dropZeros_60
      rw [show (16 : Int32) = zI (16 : Nat) by decide, zlt (by omega) (by omega), g1, el0, zLlt (by omega) (by omega), e10, zmod (by omega) (by omega), zLeq (by omega) (by omega), zdiv (by omega) (by omega)]
      refine ⟨fun _ => ⟨fun _ => ⟨fun z t1 e1 M2 e2 t3 e3 M4 e4 => ?_, fun z => k a (q + i) M1 ⟨z, i, he, rfl⟩ hk g1 g2⟩, fun z => absurd (by omega) z⟩, fun z => absurd (by omega) z⟩
      have g3 : mg_I M2 8 1 = zI (q + i) := by rw [e2]; exact g2
      rw [g3, e1i, zI_add, show q + (i : Int) + (1 : Nat) = q + ((i + 1 : Nat) : Int) by omega] at e3
      rw [z_s]
      refine ih (i + 1) (a / 10) M4 (by omega) ?_ (by omega) (hk.tr (by rw [e4, e2]; exact (kD_8L M1 0 t1).tr (kD_8I _ 1 t3))) (by rw [e4, e2, e1]; rfl) (by rw [e4, e3]; rfl)
      rw [he, Nat.pow_succ, Nat.mul_comm (10 ^ i) 10, ← Nat.mul_assoc]
      congr 1
      omega
  unfold P_D_dropZeros
  refine ⟨17, ?_⟩
  have h := key 16 0 m M rfl (by rw [Nat.pow_zero, Nat.mul_one]) hm (kD.rf M) h1 (by rw [h2]; congr 1; omega)
  exact h
theorem tms_1 {k : Int} (h1 : -23 < k) (h2 : k < 23) : tms FP.dconst1 k = tM k := by
  unfold tms tM
  split
  · rfl
  · exact FP.Core.one_dmul (okF (tn_F (by omega)))
theorem tM_ok2 {k : Int} (h1 : -8 ≤ k) (h2 : k ≤ 15) : okD (tM k) := by
  have := (tM_ok (k + 8).toNat (by omega)).1
  rw [show (((k + 8).toNat : Nat) : Int) - 8 = k by omega] at this
  exact this
theorem s_D_leadingPower {d : UInt64} {M : nf_M} {post : Int32 → nf_M → Prop} (hd : okD d) (h8 : zv (tM (-8)) ≤ zv d) (h15 : zv d < zv (tM 15)) (k : ∀ e, ldg d e → post (zI e) M) : P_D_leadingPower d M post := by
  have key : ∀ (r : Nat) (e : Int), e = (r : Int) - 8 → e ≤ 14 → (∀ k, e < k → k ≤ 15 → zv d < zv (tM k)) → B_D_leadingPower_3 post (r + 1) d (zI e) M := by
    intro r
    induction r with
    | zero =>
      intro e he h14 hk
      unfold B_D_leadingPower_3 B_D_leadingPower_25
      rw [show (-8 : Int32) = zI (-8) by decide, zI_lt (by omega) (by omega) (by omega) (by omega)]
      exact ⟨fun z => by omega, fun _ => k e ⟨by omega, h14, by rw [show e = -8 by omega]; exact h8, hk⟩⟩
    | succ r ih =>
      intro e he h14 hk
      unfold B_D_leadingPower_3 B_D_leadingPower_25
      rw [show (-8 : Int32) = zI (-8) by decide, zI_lt (by omega) (by omega) (by omega) (by omega)]
      refine ⟨fun z => s_F_timesTen (by decide +kernel) (by omega) (by omega) ?_, fun z => by omega⟩
      rw [tms_1 (by omega) (by omega), dgt_z (tM_ok2 (by omega) (by omega)) hd]
      refine ⟨fun q => ?_, fun q => k e ⟨by omega, h14, by omega, hk⟩⟩
      rw [show (-1 : Int32) = zI (-1) by decide, zI_add]
      refine ih (e + -1) (by omega) (by omega) (fun k' h1 h2 => ?_)
      by_cases c : k' = e
      · rw [c]; exact q
      · exact hk k' (by omega) h2
  unfold P_D_leadingPower
  refine ⟨23, ?_⟩
  have h := key 22 14 (by decide) (by decide) (fun k' h1 h2 => by rw [show k' = 15 by omega]; exact h15)
  exact h
theorem bk_ok {sg : Bool} {m : Nat} {q : Int} (h1 : -23 < q) (h2 : q < 23) : okD (tms (FP.l2d (zL m)) q) ∧ okD (bk sg m q) := by
  have h := tms_ok (x := FP.l2d (zL m)) (k := q) (okF (FP.Core.l2d_fin _)) h1 h2
  refine ⟨h, ?_⟩
  unfold bk
  split
  · exact okS_D (dS h)
  · exact h
theorem s_D_find {sg : Bool} {x3 : Int32} {d : UInt64} {M : nf_M} {post : Unit → nf_M → Prop} {ex : Nat → nf_M → Prop} (hd : FP.Core.DFin d) (h0 : 0 < zv d) (hs : x3 = 0 ↔ sg = false) (k4 : zv d < zv (tM (-8)) ∨ zv (tM 15) ≤ zv d → ex 4 M) (k : zv (tM (-8)) ≤ zv d → zv d < zv (tM 15) → ∀ e j m m' q' M', ldg d e → FR sg d e j m → ST m (e - j) m' q' → kD M M' → mg_L M' 8 0 = zL (m' : Nat) → mg_I M' 8 1 = zI q' → post () M') : P_D_find d x3 M post ex := by
  have hdo := hd.notNaN
  unfold P_D_find B_D_find_22 B_D_find_49
  rw [show (8 : Int32) = zI (8 : Nat) by decide]
  refine s_F_ten (by decide) ?_
  have e8 : FP.ddiv FP.dconst1 (tn 8) = tM (-8) := rfl
  have e15 : tn 15 = tM 15 := rfl
  have o8 : okD (tM (-8)) := tM_ok2 (by decide) (by decide)
  have o15 : okD (tM 15) := tM_ok2 (by decide) (by decide)
  rw [e8, dlt_z hdo o8]
  refine ⟨(n64 _).mpr o8, fun z => k4 (Or.inl z), fun z => ?_⟩
  rw [show (15 : Int32) = zI (15 : Nat) by decide]
  refine s_F_ten (by decide) ?_
  rw [e15, dge_z hdo o15]
  refine ⟨fun z2 => k4 (Or.inr z2), fun z2 => s_D_leadingPower hdo (by omega) (by omega) (fun e he => ?_)⟩
  have he1 := he.1
  have he2 := he.2.1
  have k := k (by omega) (by omega) e
  have hmx : mxd sg ≤ 15 := by unfold mxd; split <;> decide
  have h141 : ∀ (j m : Nat) (M1 : nf_M), FR sg d e j m → kD M M1 → mg_L M1 8 0 = zL m → mg_I M1 8 1 = zI (e - j) → B_D_find_141 post ex M1 := by
    intro j m M1 hF hk g1 g2
    have hj := hF.1
    obtain ⟨t1, t2, t3⟩ := tms_b hd he (j := j) (by omega)
    have hu := (half_up t1 t2 t3).2 m hF.2.1
    have hp : 10 ^ (j + 1) ≤ 10 ^ 15 := Nat.pow_le_pow_right (by decide) (by omega)
    have hp2 : 10 ^ 15 = 1000000000000000 := by decide
    unfold B_D_find_141
    exact s_D_dropZeros hu.1 (by omega) (by omega) g1 g2 (fun m' q' M2 hST k2 g3 g4 => k j m m' q' M2 he hF hST (hk.tr k2) g3 g4)
  have key : ∀ (r j : Nat) (M1 : nf_M), r + j = mxd sg → (∀ i, i < j → ∀ m' : Nat, ev (tms d (-(e - i))) m' → ¬ hit sg d e i m') → (j = 0 ∨ ∃ m : Nat, ev (tms d (-(e - (j - 1 : Nat)))) m ∧ mg_L M1 8 0 = zL m ∧ mg_I M1 8 1 = zI (e - (j - 1 : Nat))) → kD M M1 → B_D_find_57 post ex (r + 2) d x3 (zI e) (zI (mxd sg)) 0 (zI (j + 1 : Nat)) M1 := by
    intro r
    induction r with
    | zero =>
      intro j M1 hr hn hp hk
      unfold B_D_find_57
      rw [zlt (by omega) (by omega)]
      refine ⟨fun _ => ?_, fun q => by omega⟩
      rcases hp with hp | ⟨m, p1, p2, p3⟩
      · exfalso
        unfold mxd at hr
        split at hr <;> omega
      · have hj1 : 1 ≤ j := by
          unfold mxd at hr
          split at hr <;> omega
        exact h141 (j - 1) m M1 ⟨by omega, p1, fun i hi => hn i (by omega), Or.inl (by omega)⟩ hk p2 p3
    | succ r ih =>
      intro j M1 hr hn hp hk
      unfold B_D_find_57
      rw [zlt (by omega) (by omega)]
      refine ⟨fun q => by omega, fun _ => ⟨fun _ t1 e1 M2 e2 => ?_, fun q => absurd rfl q⟩⟩
      rw [zI_sub, e1i, zI_add, show e - ((j + 1 : Nat) : Int) + (1 : Nat) = e - j by omega] at e1
      have g1 : mg_I M2 8 1 = zI (e - j) := by rw [e2, e1]; rfl
      obtain ⟨t1', t2, t3⟩ := tms_b hd he (j := j) (by omega)
      have hu := half_up t1' t2 t3
      have hp15 : 10 ^ (j + 1) ≤ 10 ^ 15 := Nat.pow_le_pow_right (by decide) (by omega)
      have hp2 : 10 ^ 15 = 1000000000000000 := by decide
      have hw0 : 0 ≤ zv (tms d (-(e - j))) := by
        have hp : (0 : Int) < 2 ^ 1072 := by decide +kernel
        generalize (2 : Int) ^ 1072 = P at *
        omega
      rw [g1, zI_neg]
      refine s_F_timesTen hdo (by omega) (by omega) (s_F_nearestEven t1' hw0 (by omega) (fun m hm M7 e7 => ?_))
      have g2 : mg_L M7 8 0 = zL m := by rw [e7]; rfl
      have g3 : mg_I M7 8 1 = zI (e - j) := by rw [e7]; exact g1
      have k7 : kD M M7 := hk.tr (by rw [e7, e2]; exact (kD_8I M1 1 t1).tr (kD_8L _ 0 _))
      rw [g2, g3]
      obtain ⟨b1, b2⟩ := bk_ok (sg := sg) (m := m) (q := e - j) (by omega) (by omega)
      refine s_F_timesTen (okF (FP.Core.l2d_fin _)) (by omega) (by omega) ?_
      have h123 : B_D_find_123 (fun x1 x3 x4 x5 x6 x7 z => B_D_find_57 post ex (r + 2) x1 x3 x4 x5 x6 x7 z) post ex d x3 (zI e) (zI (mxd sg)) (zI (j + 1 : Nat)) (bk sg m (e - j)) M7 := by
        unfold B_D_find_123 B_D_find_133
        rw [deq_z b2 hdo, z_s]
        refine ⟨fun z => ?_, fun z => ih (j + 1) M7 (by omega) (fun i hi m' hm' => ?_) (Or.inr ⟨m, hm, g2, g3⟩) k7⟩
        · have hF : FR sg d e j m := ⟨by omega, hm, hn, Or.inr z⟩
          have hfin := h141 j m M7 hF k7 g2 g3
          unfold B_D_find_57
          exact ⟨fun _ => hfin, fun _ => ⟨fun q => absurd q (by decide), fun _ => hfin⟩⟩
        · by_cases c : i < j
          · exact hn i c m' hm'
          · have : i = j := by omega
            subst this
            have : m' = m := by have := ev_1 hm' hm; omega
            rw [this]
            exact z
      rw [hs]
      unfold bk at h123 b2
      refine ⟨fun q => ?_, fun q => ⟨d2f_n b1, sng_n b1, ?_⟩⟩
      · rw [q] at h123 ⊢
        exact h123
      · have q2 : sg = true := by cases sg; exact absurd rfl q; rfl
        rw [q2] at h123 ⊢
        exact h123
  rw [hs]
  have hk0 := key (mxd sg) 0 M rfl (fun i hi => absurd hi (Nat.not_lt_zero _)) (Or.inl rfl) (kD.rf M)
  refine ⟨fun q => ⟨mxd sg + 2, ?_⟩, fun q => ⟨mxd sg + 2, ?_⟩⟩
  · have : mxd sg = 15 := by unfold mxd; rw [q]; rfl
    rw [this] at hk0 ⊢
    exact hk0
  · have q2 : sg = true := by cases sg; exact absurd rfl q; rfl
    have : mxd sg = 8 := by unfold mxd; rw [q2]; rfl
    rw [this] at hk0 ⊢
    exact hk0
