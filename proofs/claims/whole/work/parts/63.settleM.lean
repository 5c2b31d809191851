/-! exact numbers: the reference gathers and settles its digits -/
def isD (M : nf_M) (ds : Nat → Nat) (n : Nat) : Prop := mg_I M 19 13 = zI n ∧ ∀ i, i < n → mg_I M 26 i = zI (ds i) ∧ ds i < 10
def kH (M M' : nf_M) : Prop := kO M M' ∧ mg_I M' 19 0 = mg_I M 19 0
theorem kH.tr {A B C : nf_M} (h1 : kH A B) (h2 : kH B C) : kH A C := ⟨h1.1.tr h2.1, h2.2.trans h1.2⟩
theorem kG.H {A B : nf_M} (h : kG A B) : kH A B := ⟨h.1, h.2.2⟩
theorem e5i : (5 : Int32) = zI (5 : Nat) := by decide
theorem e1i : (1 : Int32) = zI (1 : Nat) := by decide
theorem s_M_gather {ds : Nat → Nat} {n : Nat} {M : nf_M} {post : Int64 → nf_M → Prop} (hn : n ≤ 80) (hD : isD M ds n) (h9 : mg_I M 19 9 = 0) (k1 : vd ds n < 1000000000000000 → ∀ M', kH M M' → mg_I M' 19 9 = 0 → post (zL (vd ds n)) M') (k0 : ¬ vd ds n < 1000000000000000 → ∀ M', kH M M' → mg_I M' 19 9 = 5 → post (zL (0 : Nat)) M') : P_M_gather M post := by
  have key : ∀ r i : Nat, i + r = n → ∀ (M1 : nf_M) (x : Int64), kH M M1 → isD M1 ds n → ((vd ds i < 1000000000000000 ∧ x = zL (vd ds i) ∧ mg_I M1 19 9 = 0) ∨ (¬ vd ds i < 1000000000000000 ∧ x = zL (0 : Nat) ∧ mg_I M1 19 9 = 5)) → B_M_gather_4 post (r + 1) x (zI i) M1 := by
    intro r
    induction r with
    | zero =>
      intro i hi M1 x hk hd hc
      have : i = n := by omega
      subst this
      unfold B_M_gather_4
      rw [hd.1]
      refine ⟨fun z => absurd z (by rw [zlt (by omega) (by omega)]; omega), fun _ => ?_⟩
      rcases hc with ⟨a, b, c⟩ | ⟨a, b, c⟩
      · rw [b]; exact k1 a M1 hk c
      · rw [b]; exact k0 a M1 hk c
    | succ r ih =>
      intro i hi M1 x hk hd hc
      unfold B_M_gather_4 B_M_gather_29 B_M_gather_57
      rw [hd.1, e1i, zI_add, show (i : Int) + (1 : Nat) = ((i + 1 : Nat) : Int) by omega]
      have hdi := hd.2 i (by omega)
      have hv : vd ds (i + 1) = 10 * vd ds i + ds i := rfl
      refine ⟨fun _ => ?_, fun z => absurd (show zI i < zI n by rw [zlt (by omega) (by omega)]; omega) z⟩
      have kk : ∀ v : Int32, kH M (ms_I M1 19 9 v) := fun v => hk.tr ⟨kO_19 M1 9 v (by decide) (by decide), rfl⟩
      have dd : ∀ v : Int32, isD (ms_I M1 19 9 v) ds n := fun v => hd
      rcases hc with ⟨a, b, c⟩ | ⟨a, b, c⟩
      · rw [b, e14, zLlt (by omega) (by omega), c]
        refine ⟨fun z M2 e2 => ⟨fun q => ?_, fun _ => ⟨z_in (by omega) (by omega), ?_⟩⟩, fun z M2 e2 => ⟨fun _ => ?_, fun q => ?_⟩⟩
        · rw [e2] at q
          exact absurd q (show ¬ (0 : Int32) = 5 by decide)
        · have e3 : mg_I M2 26 = mg_I M1 26 := by rw [e2]; rfl
          rw [e3, z_cl (by omega), hdi.1, zI_l (by omega) (by omega), e10, zLmul, zLadd, ← hv]
          exact ih (i + 1) (by omega) M2 _ (by rw [e2]; exact kk 0) (by rw [e2]; exact dd 0) (Or.inl ⟨by omega, rfl, by rw [e2]; rfl⟩)
        · rw [el0]
          exact ih (i + 1) (by omega) M2 _ (by rw [e2]; exact kk 5) (by rw [e2]; exact dd 5) (Or.inr ⟨by omega, rfl, by rw [e2]; rfl⟩)
        · rw [e2] at q
          exact absurd (show (5 : Int32) = 5 by rfl) q
      · rw [b, e14, zLlt (by omega) (by omega), c]
        refine ⟨fun z M2 e2 => ⟨fun _ => ?_, fun q => ?_⟩, fun z => by omega⟩
        · rw [el0]
          exact ih (i + 1) (by omega) M2 _ (by rw [e2]; exact kk 5) (by rw [e2]; exact dd 5) (Or.inr ⟨by omega, rfl, by rw [e2]; rfl⟩)
        · rw [e2] at q
          exact absurd (show (5 : Int32) = 5 by rfl) q
  exact ⟨n + 1, key n 0 (by omega) M _ ⟨kO.rf M, rfl⟩ hD (Or.inl ⟨show (0 : Nat) < 1000000000000000 by decide, el0, h9⟩)⟩
/-- the reference's result: a number within the limit, or the note 5 -/
def resM (neg : Bool) (q : Nat × Nat) (M M' : nf_M) : Prop := kH M M' ∧ ((q.1 < 1000000000000000 ∧ mg_I M' 19 9 = 0 ∧ mg_L M' 19 10 = zL (sgd neg q.1) ∧ mg_I M' 19 11 = zI q.2) ∨ (¬ q.1 < 1000000000000000 ∧ mg_I M' 19 9 = 5))
theorem s_M_settle199 {x1 : Int32} {neg : Bool} {post : Unit → nf_M → Prop} {M0 : nf_M} (hx : x1 = if neg then 1 else 0) : ∀ (p w n : Nat) (M : nf_M), p ≤ n → isG M w n → mg_I M 19 9 = 0 → kH M0 M → (∀ M', resM neg (dz p w) M0 M' → post () M') → B_M_settle_199 post (p + 1) x1 (zI p) M := by
  have fin : ∀ (p w n : Nat) (M : nf_M), isG M w n → mg_I M 19 9 = 0 → kH M0 M → (∀ M', resM neg (w, p) M0 M' → post () M') → B_M_settle_234 post x1 (zI p) M := by
    intro p w n M hg h9 hk k
    obtain ⟨h0, h1, ds, h2, h3⟩ := hg
    unfold B_M_settle_234 B_M_settle_253
    subst h3
    refine s_M_gather h0 ⟨h1, h2⟩ h9 (fun hlt M1 hk1 q9 => ?_) (fun hlt M1 hk1 q9 => ?_)
    · cases neg with
      | true =>
        refine ⟨fun z => absurd (hx.symm.trans z) (by decide), fun _ M2 e2 M3 e3 => k M3 ⟨hk.tr (hk1.tr ?_), Or.inl ⟨hlt, ?_, ?_, ?_⟩⟩⟩
        · rw [e3, e2]; exact ⟨(kO_L _ _ _).tr (kO_19 _ 11 _ (by decide) (by decide)), rfl⟩
        · rw [e3, e2]; exact q9
        · rw [e3, e2, zL_n]; rfl
        · rw [e3]; rfl
      | false =>
        refine ⟨fun _ M2 e2 M3 e3 => k M3 ⟨hk.tr (hk1.tr ?_), Or.inl ⟨hlt, ?_, ?_, ?_⟩⟩, fun z => absurd hx z⟩
        · rw [e3, e2]; exact ⟨(kO_L _ _ _).tr (kO_19 _ 11 _ (by decide) (by decide)), rfl⟩
        · rw [e3, e2]; exact q9
        · rw [e3, e2]; rfl
        · rw [e3]; rfl
    · have hend : ∀ (v : Int64) (M2 M3 : nf_M), M2 = ms_L M1 19 10 v → M3 = ms_I M2 19 11 (zI p) → post () M3 := fun v M2 M3 e2 e3 => k M3 ⟨hk.tr (hk1.tr (by rw [e3, e2]; exact ⟨(kO_L _ _ _).tr (kO_19 _ 11 _ (by decide) (by decide)), rfl⟩)), Or.inr ⟨hlt, by rw [e3, e2]; exact q9⟩⟩
      exact ⟨fun _ M2 e2 M3 e3 => hend _ M2 M3 e2 e3, fun _ M2 e2 M3 e3 => hend _ M2 M3 e2 e3⟩
  intro p
  induction p with
  | zero =>
    intro w n M hp hg h9 hk k
    unfold B_M_settle_199
    exact ⟨fun z => absurd z (by decide), fun _ => fin 0 w n M hg h9 hk k⟩
  | succ p ih =>
    intro w n M hp hg h9 hk k
    obtain ⟨m, rfl⟩ : ∃ m, n = m + 1 := ⟨n - 1, by omega⟩
    have h80 := hg.1
    have h13 := hg.2.1
    obtain ⟨a1, a2, a3⟩ := isG_pop hg
    have em : zI (m + 1 : Nat) - (1 : Int32) = zI m := by rw [e1i, zI_sub]; congr 1; omega
    unfold B_M_settle_199
    rw [h13, em, z_cl (by omega), a3]
    unfold dz at k
    refine ⟨fun _ => ⟨z_in (by omega) (by omega), fun z t2 e2 M3 e3 => ?_, fun z => ?_⟩, fun z => absurd (show (0 : Int32) < zI (p + 1 : Nat) by rw [i32_lt, t0, z_of (by omega)]; omega) z⟩
    · rw [z0' (by omega)] at z
      rw [if_pos z] at k
      rw [e2] at e3
      rw [show (-1 : Int32) = zI (-1) by decide, zI_add, show ((p + 1 : Nat) : Int) + (-1) = (p : Nat) by omega]
      exact ih (w / 10) m M3 (by omega) (by rw [e3]; exact a1) (by rw [e3]; exact h9) (hk.tr (by rw [e3]; exact a2.H)) k
    · rw [z0' (by omega)] at z
      rw [if_neg z] at k
      exact fin (p + 1) w (m + 1) M hg h9 hk k
theorem vd_up (ds : Nat → Nat) (j d : Nat) : ∀ n, j < n → vd (up ds j d) n + ds j * 10 ^ (n - 1 - j) = vd ds n + d * 10 ^ (n - 1 - j) := by
  intro n
  induction n with
  | zero => intro h; omega
  | succ n ih =>
    intro h
    unfold vd
    by_cases e : j = n
    · subst e
      have e1 : vd (up ds j d) j = vd ds j := vd_ext j (fun i hi => by unfold up; rw [if_neg (by omega)])
      have e2 : up ds j d j = d := by unfold up; rw [if_pos rfl]
      rw [e1, e2, show j + 1 - 1 - j = 0 by omega, Nat.pow_zero]
      omega
    · have h1 := ih (by omega)
      have e2 : up ds j d n = ds n := by unfold up; rw [if_neg (by omega)]
      rw [e2, show n + 1 - 1 - j = (n - 1 - j) + 1 by omega, Nat.pow_succ]
      generalize 10 ^ (n - 1 - j) = a at h1 ⊢
      rw [← Nat.mul_assoc, ← Nat.mul_assoc]
      omega
theorem isD_set {M : nf_M} {ds : Nat → Nat} {n j d : Nat} (h : isD M ds n) (hd : d < 10) : isD (ms_I M 26 j (zI d)) (up ds j d) n ∧ kG M (ms_I M 26 j (zI d)) := by
  refine ⟨⟨h.1, fun i hi => ?_⟩, kO_26 M j _, rfl, rfl⟩
  have e : mg_I (ms_I M 26 j (zI d)) 26 i = if i = j then zI d else mg_I M 26 i := rfl
  rw [e]
  unfold up
  by_cases q : i = j
  · rw [if_pos q, if_pos q]; exact ⟨rfl, hd⟩
  · rw [if_neg q, if_neg q]; exact h.2 i hi
theorem s_M_settle134 {x1 x5 : Int32} {post : Unit → nf_M → Prop} {M : nf_M} {W n : Nat} (hn : n ≤ 80) (hW : W < 10 ^ n) (k : ∀ M', kG M M' → isG M' W n → ∃ n9 : Nat, B_M_settle_199 post n9 x1 x5 M') : ∀ (j : Nat) (M1 : nf_M) (ds : Nat → Nat) (x6 : Int32), j ≤ n → isD M1 ds n → kG M M1 → ((x6 = 1 ∧ vd ds n + 10 ^ (n - j) = W) ∨ (x6 = 0 ∧ vd ds n = W)) → B_M_settle_134 post (j + 1) x1 x5 x6 (zI ((j : Int) - 1)) M1 := by
  intro j
  induction j with
  | zero =>
    intro M1 ds x6 hj hd hk hc
    unfold B_M_settle_134
    rcases hc with ⟨a, b⟩ | ⟨a, b⟩
    · rw [Nat.sub_zero] at b
      omega
    · exact ⟨fun _ => k M1 hk ⟨hn, hd.1, ds, hd.2, b⟩, fun z => absurd (show zI (((0 : Nat) : Int) - 1) < 0 by decide) z⟩
  | succ j ih =>
    intro M1 ds x6 hj hd hk hc
    unfold B_M_settle_134
    have ex : zI (((j + 1 : Nat) : Int) - 1) = zI j := by congr 1; omega
    rw [ex]
    have hdj := hd.2 j (by omega)
    refine ⟨fun z => ?_, fun _ => ⟨fun z => ?_, fun z => ⟨z_in (by omega) (by omega), ?_⟩⟩⟩
    · rw [i32_lt, z_of (by omega), t0] at z
      omega
    · rcases hc with ⟨a, b⟩ | ⟨a, b⟩
      · exact absurd (a.symm.trans z) (by decide)
      · exact k M1 hk ⟨hn, hd.1, ds, hd.2, b⟩
    · rcases hc with ⟨a, b⟩ | ⟨a, b⟩
      · rw [z_cl (by omega), hdj.1, show (9 : Int32) = zI (9 : Nat) by decide, zeq (by omega) (by omega)]
        unfold B_M_settle_175 B_M_settle_191
        rw [show (-1 : Int32) = zI (-1) by decide, zI_add, z_cl (by omega)]
        have hin := z_in (show j < 80 by omega) (show 80 < 2147483648 by decide)
        have hvu := vd_up ds j
        refine ⟨fun q => ⟨hin, fun M2 e2 => ⟨hin, ?_⟩⟩, fun q => ⟨hin, hin, fun M2 e2 => ⟨hin, ?_⟩⟩⟩
        · obtain ⟨s1, s2⟩ := isD_set (j := j) hd (show 0 < 10 by decide)
          have e3 : M2 = ms_I M1 26 j (zI (0 : Nat)) := e2
          have e4 : mg_I M2 26 j = 0 := by
            rw [e3]
            show (if j = j then zI (0 : Nat) else _) = _
            rw [if_pos rfl]; decide
          rw [e4]
          refine ⟨fun _ => ih M2 (up ds j 0) 1 (by omega) (by rw [e3]; exact s1) (hk.tr (by rw [e3]; exact s2)) (Or.inl ⟨rfl, ?_⟩), fun z => absurd rfl z⟩
          have h1 := hvu 0 n (by omega)
          rw [q, show n - 1 - j = n - (j + 1) by omega] at h1
          rw [show n - j = n - (j + 1) + 1 by omega, Nat.pow_succ]
          generalize 10 ^ (n - (j + 1)) = A at h1 b ⊢
          omega
        · obtain ⟨s1, s2⟩ := isD_set (j := j) hd (show ds j + 1 < 10 by omega)
          have e3 : M2 = ms_I M1 26 j (zI (ds j + 1 : Nat)) := by
            rw [e2, e1i, zI_add]
            rfl
          have e4 : mg_I M2 26 j = zI (ds j + 1 : Nat) := by
            rw [e3]
            show (if j = j then zI (ds j + 1 : Nat) else _) = _
            rw [if_pos rfl]
          rw [e4, z0' (by omega)]
          refine ⟨fun z => by omega, fun _ => ih M2 (up ds j (ds j + 1)) 0 (by omega) (by rw [e3]; exact s1) (hk.tr (by rw [e3]; exact s2)) (Or.inr ⟨rfl, ?_⟩)⟩
          have h1 := hvu (ds j + 1) n (by omega)
          rw [show n - 1 - j = n - (j + 1) by omega, Nat.add_mul, Nat.one_mul] at h1
          generalize 10 ^ (n - (j + 1)) = A at h1 b ⊢
          generalize ds j * A = B at h1
          omega
      · exact absurd a z
