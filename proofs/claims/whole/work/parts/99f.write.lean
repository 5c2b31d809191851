/-! write: the reference -/
theorem c67 : (4517329193108106637 : UInt64) = tM (-6) ∧ (4696837146684686336 : UInt64) = tM 6 := by decide +kernel
theorem tn0 : tn 0 = FP.dconst1 := rfl
theorem div_1 {d : UInt64} (hd : okD d) : FP.ddiv d (tn 0) = tms d 0 := by
  have e1 : FP.Core.ddiv d FP.Core.dconst1 = d := FP.Core.ddiv_one (okD_val.mp hd)
  have e2 : FP.Core.dmul d FP.Core.dconst1 = d := FP.Core.dmul_one (okD_val.mp hd)
  unfold tms
  rw [if_neg (by decide)]
  show FP.Core.ddiv d FP.Core.dconst1 = FP.Core.dmul d FP.Core.dconst1
  rw [e1, e2]
theorem s_M_wr89 {x3 : Int32} {d : UInt64} {M : nf_M} {post : Unit → nf_M → Prop} (hd : okD d) (h15 : zv d < zv (tM 15)) (kk : ∀ e, ldg d e → ∃ n9 : Nat, B_M_writeReal_150 post n9 x3 d (zI e) (0 : Int64) (0 : Int32) (0 : Int32) (1 : Int32) M) : ∀ (r : Nat) (k e : Int), (r : Int) = 16 - k → -7 ≤ k → -8 ≤ e → e < k → zv (tM e) ≤ zv d → (∀ i, e < i → i < k → zv d < zv (tM i)) → B_M_writeReal_89 post (r + 1) x3 d (zI e) (zI k) M := by
  intro r
  induction r with
  | zero =>
    intro k e hr hk he1 he2 h1 h2
    unfold B_M_writeReal_89
    rw [show (16 : Int32) = zI 16 by decide, zI_lt (by omega) (by omega) (by omega) (by omega)]
    refine ⟨fun z => by omega, fun _ => kk e ⟨he1, ?_, h1, fun i a b => h2 i a (by omega)⟩⟩
    refine Int.not_lt.mp fun q => ?_
    have : e = 15 := by omega
    rw [this] at h1
    omega
  | succ r ih =>
    intro k e hr hk he1 he2 h1 h2
    unfold B_M_writeReal_89
    rw [show (16 : Int32) = zI 16 by decide, zI_lt (by omega) (by omega) (by omega) (by omega), show (0 : Int32) = zI 0 by decide, zI_lt (by omega) (by omega) (by omega) (by omega)]
    have okk : okD (tM k) := tM_ok2 (by omega) (by omega)
    have h117 : B_M_writeReal_117 (fun x3 x4 x6 x7 z => B_M_writeReal_89 post (r + 1) x3 x4 x6 x7 z) post x3 d (zI e) (zI k) (tM k) M := by
      unfold B_M_writeReal_117 B_M_writeReal_130
      rw [dle_z okk hd, show (1 : Int32) = zI 1 by decide, zI_add]
      refine ⟨fun z => ih (k + 1) k (by omega) (by omega) (by omega) (by omega) z (fun i a b => by omega), fun z => ih (k + 1) e (by omega) (by omega) he1 (by omega) h1 (fun i a b => ?_)⟩
      by_cases c : i = k
      · rw [c]; omega
      · exact h2 i a (by omega)
    refine ⟨fun _ => ⟨fun z => ?_, fun z => ?_⟩, fun z => by omega⟩
    · rw [zI_neg, show -k = (((-k).toNat : Nat) : Int) by omega]
      refine s_M_ten (by omega) ?_
      have et : FP.ddiv FP.dconst1 (tn (-k).toNat) = tM k := by unfold tM; rw [if_pos z]
      rw [et]
      exact ⟨(n64 _).mpr okk, h117⟩
    · have et : tM k = tn k.toNat := by unfold tM; rw [if_neg z]
      rw [et] at h117
      have e1 : k = ((k.toNat : Nat) : Int) := by omega
      have h117' := h117
      rw [e1] at h117' ⊢
      exact s_M_ten (by omega) h117'
theorem s_M_wr150 {sg : Bool} {x3 : Int32} {d : UInt64} {e : Int} {L : List Nat} {M : nf_M} {post : Unit → nf_M → Prop} (hd : FP.Core.DFin d) (he : ldg d e) (hs : x3 = 0 ↔ sg = false) (hL : L.length ≤ 1) (ho : oM M L) (k : ∀ j m m' q', FR sg d e j m → ST m (e - j) m' q' → ∀ M', kQ M M' → (pla d → oM M' (L ++ plaL m' q')) → (¬ pla d → oM M' (L ++ expL m' q')) → post () M') : ∃ n9 : Nat, B_M_writeReal_150 post n9 x3 d (zI e) (0 : Int64) (0 : Int32) (0 : Int32) (1 : Int32) M := by
  have hdo := hd.notNaN
  have he1 := he.1
  have he2 := he.2.1
  have hmx : mxd sg ≤ 15 := by unfold mxd; split <;> decide
  have hmx1 : 8 ≤ mxd sg := by unfold mxd; split <;> decide
  have o6 : okD (tM (-6)) := tM_ok2 (by decide) (by decide)
  have o6' : okD (tM 6) := tM_ok2 (by decide) (by decide)
  have h275 : ∀ j m : Nat, FR sg d e j m → B_M_writeReal_275 post d (zL m) (zI (e - j)) M := by
    intro j m hF
    have hj := hF.1
    obtain ⟨t1, t2, t3⟩ := tms_b hd he (j := j) (by omega)
    have hu := (half_up t1 t2 t3).2 m hF.2.1
    have hp : 10 ^ (j + 1) ≤ 10 ^ 15 := Nat.pow_le_pow_right (by decide) (by omega)
    have hp2 : 10 ^ 15 = 1000000000000000 := by decide
    unfold B_M_writeReal_275 B_M_writeReal_302 B_M_writeReal_303
    rw [c67.1, c67.2, dge_z hdo o6, dlt_z hdo o6']
    have hno : ¬ pla d → P_M_addReal (zL m) (zI (e - j)) (0 : Int32) M (fun _ M2 => post () M2) := fun n => by
      refine s_M_addReal hu.1 (by omega) (by omega) (by omega) ho (fun m' q' hST => ?_) (fun m' q' hST M' hk ho' => k j m m' q' hF hST M' hk (fun p => absurd p n) (fun _ => ?_))
      · obtain ⟨b1, b2, b3, b4, b5, b6⟩ := ST_b hd he hF hST
        exact ⟨b1, b3, b4, b5, fun q => absurd rfl q⟩
      · rw [if_pos rfl] at ho'
        exact ho'
    refine ⟨fun z => ⟨fun z2 => ?_, fun z2 => hno (fun p => z2 p.2)⟩, fun z => hno (fun p => z p.1)⟩
    have hp : pla d := ⟨z, z2⟩
    refine s_M_addReal hu.1 (by omega) (by omega) (by omega) ho (fun m' q' hST => ?_) (fun m' q' hST M' hk ho' => k j m m' q' hF hST M' hk (fun _ => ?_) (fun n => absurd hp n))
    · obtain ⟨b1, b2, b3, b4, b5, b6⟩ := ST_b hd he hF hST
      exact ⟨b1, b3, b4, b5, fun _ => b6 hp⟩
    · rw [if_neg (by decide)] at ho'
      exact ho'
  have hx : ∀ (n : Nat) (a : Int64) (b : Int32) (f : Int32) (j : Nat), B_M_writeReal_163 (fun x3 x4 x6 x7 x9 x10 x11 z => B_M_writeReal_150 post n x3 x4 x6 x7 x9 x10 x11 z) post x3 d (zI e) a b f (zI j) (zI (mxd sg)) (zI j) M → B_M_writeReal_150 post (n + 1) x3 d (zI e) a b f (zI j) M := by
    intro n a b f j h
    unfold B_M_writeReal_150
    rw [hs]
    refine ⟨fun q => ?_, fun q => ?_⟩
    · have : mxd sg = 15 := by unfold mxd; rw [q]; rfl
      rw [this] at h
      exact h
    · have q2 : sg = true := by cases sg; exact absurd rfl q; rfl
      have : mxd sg = 8 := by unfold mxd; rw [q2]; rfl
      rw [this] at h
      exact h
  have key : ∀ (r j : Nat) (a : Int64) (b : Int32), r + j = mxd sg → (∀ i, i < j → ∀ m' : Nat, ev (tms d (-(e - i))) m' → ¬ hit sg d e i m') → (j = 0 ∨ ∃ m : Nat, ev (tms d (-(e - (j - 1 : Nat)))) m ∧ a = zL m ∧ b = zI (e - (j - 1 : Nat))) → B_M_writeReal_150 post (r + 2) x3 d (zI e) a b 0 (zI (j + 1 : Nat)) M := by
    intro r
    induction r with
    | zero =>
      intro j a b hr hn hp
      refine hx _ _ _ _ _ ?_
      unfold B_M_writeReal_163
      rw [zlt (by omega) (by omega)]
      refine ⟨fun _ => ?_, fun q => by omega⟩
      rcases hp with hp | ⟨m, p1, p2, p3⟩
      · omega
      · rw [p2, p3]
        exact h275 (j - 1) m ⟨by omega, p1, fun i hi => hn i (by omega), Or.inl (by omega)⟩
    | succ r ih =>
      intro j a b hr hn hp
      refine hx _ _ _ _ _ ?_
      unfold B_M_writeReal_163
      rw [zlt (by omega) (by omega)]
      refine ⟨fun q => by omega, fun _ => ⟨fun _ t1 e1 => ?_, fun q => absurd rfl q⟩⟩
      rw [zI_sub, e1i, zI_add, show e - ((j + 1 : Nat) : Int) + (1 : Nat) = e - j by omega] at e1
      obtain ⟨t1', t2, t3⟩ := tms_b hd he (j := j) (by omega)
      have hu := half_up t1' t2 t3
      have hp15 : 10 ^ (j + 1) ≤ 10 ^ 15 := Nat.pow_le_pow_right (by decide) (by omega)
      have hp2 : 10 ^ 15 = 1000000000000000 := by decide
      have hw0 : 0 ≤ zv (tms d (-(e - j))) := by
        have hp : (0 : Int) < 2 ^ 1072 := by decide +kernel
        generalize (2 : Int) ^ 1072 = P at *
        omega
      have h205 : B_M_writeReal_205 (fun x3 x4 x6 x7 x9 x10 x11 z => B_M_writeReal_150 post (r + 2) x3 x4 x6 x7 x9 x10 x11 z) post x3 d (zI e) (zI (e - j)) (zI (j + 1 : Nat)) (tms d (-(e - j))) M := by
        unfold B_M_writeReal_205
        refine s_M_even t1' (by omega) (fun n hn' => ?_)
        have hn0 : 0 ≤ n := by
          have hfl : 0 ≤ flo (tms d (-(e - j))) := by unfold flo; rw [if_neg (by omega)]; omega
          unfold ev at hn'
          omega
        obtain ⟨m, rfl⟩ : ∃ m : Nat, n = m := ⟨n.toNat, by omega⟩
        have hm : ev (tms d (-(e - j))) m := hn'
        obtain ⟨b1, b2⟩ := bk_ok (sg := sg) (m := m) (q := e - j) (by omega) (by omega)
        have h252 : B_M_writeReal_252 (fun x3 x4 x6 x7 x9 x10 x11 z => B_M_writeReal_150 post (r + 2) x3 x4 x6 x7 x9 x10 x11 z) post x3 d (zI e) (zL m) (zI (e - j)) (zI (j + 1 : Nat)) (bk sg m (e - j)) M := by
          unfold B_M_writeReal_252 B_M_writeReal_267
          rw [deq_z b2 hdo, z_s]
          refine ⟨fun z => ?_, fun z => ih (j + 1) (zL m) (zI (e - j)) (by omega) (fun i hi m' hm' => ?_) (Or.inr ⟨m, hm, rfl, rfl⟩)⟩
          · have hF : FR sg d e j m := ⟨by omega, hm, hn, Or.inr z⟩
            have hfin := h275 j m hF
            refine hx _ _ _ _ _ ?_
            unfold B_M_writeReal_163
            exact ⟨fun _ => hfin, fun _ => ⟨fun q => absurd q (by decide), fun _ => hfin⟩⟩
          · by_cases c : i < j
            · exact hn i c m' hm'
            · have : i = j := by omega
              subst this
              have : m' = m := by have := ev_1 hm' hm; omega
              rw [this]
              exact z
        have h237 : ∀ y : UInt64, y = tms (FP.l2d (zL m)) (e - j) → B_M_writeReal_237 (fun x3 x4 x6 x7 x9 x10 x11 z => B_M_writeReal_150 post (r + 2) x3 x4 x6 x7 x9 x10 x11 z) post x3 d (zI e) (zL m) (zI (e - j)) (zI (j + 1 : Nat)) y M := fun y ey => by
          unfold B_M_writeReal_237
          rw [hs, ey]
          unfold bk at h252 b2
          refine ⟨fun q => ?_, fun q => ⟨d2f_n b1, sng_n b1, ?_⟩⟩
          · rw [q] at h252
            exact h252
          · have q2 : sg = true := by cases sg; exact absurd rfl q; rfl
            rw [q2] at h252
            exact h252
        rw [show (0 : Int32) = zI 0 by decide, zI_lt (by omega) (by omega) (by omega) (by omega)]
        refine ⟨fun z => ?_, fun z => ?_⟩
        · rw [zI_neg, show -(e - (j : Int)) = (((-(e - (j : Int))).toNat : Nat) : Int) by omega]
          have et : FP.ddiv (FP.l2d (zL m)) (tn (-(e - (j : Int))).toNat) = tms (FP.l2d (zL m)) (e - j) := by unfold tms; rw [if_pos z]
          refine s_M_ten (by omega) ?_
          rw [et]
          exact ⟨(n64 _).mpr b1, h237 _ rfl⟩
        · have et : FP.dmul (FP.l2d (zL m)) (tn (e - (j : Int)).toNat) = tms (FP.l2d (zL m)) (e - j) := by unfold tms; rw [if_neg z]
          have h2 := h237 _ et
          have ez : zI (e - (j : Int)) = zI (((e - (j : Int)).toNat : Nat) : Int) := by congr 1; omega
          rw [ez] at h2 ⊢
          refine s_M_ten (by omega) ⟨(n64 _).mpr (by rw [et]; exact b1), h2⟩
      rw [e1, show (0 : Int32) = zI 0 by decide, zI_lt (by omega) (by omega) (by omega) (by omega)]
      refine ⟨fun z => ?_, fun z => ?_⟩
      · rw [zI_neg, show -(e - (j : Int)) = (((-(e - (j : Int))).toNat : Nat) : Int) by omega]
        have et : FP.dmul d (tn (-(e - (j : Int))).toNat) = tms d (-(e - j)) := by unfold tms; rw [if_neg (by omega)]
        refine s_M_ten (by omega) ?_
        rw [et]
        exact ⟨(n64 _).mpr t1', h205⟩
      · have et : FP.ddiv d (tn (e - (j : Int)).toNat) = tms d (-(e - j)) := by
          by_cases c : e - (j : Int) = 0
          · rw [c]
            exact div_1 hdo
          · unfold tms
            rw [if_pos (by omega), Int.neg_neg]
        have ez : zI (e - (j : Int)) = zI (((e - (j : Int)).toNat : Nat) : Int) := by congr 1; omega
        rw [← et] at h205 t1'
        rw [ez] at h205 ⊢
        exact s_M_ten (by omega) ⟨(n64 _).mpr t1', h205⟩
  have h := key (mxd sg) 0 0 0 rfl (fun i hi => absurd hi (Nat.not_lt_zero _)) (Or.inl rfl)
  exact ⟨mxd sg + 2, h⟩
