/-! ONE of a floating number: the whole number that it comes to -/
def flo (x : UInt64) : Int := if zv x < 0 then (if fq x = 0 then -(wq x : Int) else -(wq x : Int) - 1) else wq x
def rsE (x : UInt64) : Int := if zv x < 0 then (if fq x = 0 then 0 else (O1 : Int) - fq x) else fq x
theorem flo_rs (x : UInt64) : zv x = flo x * (O1 : Int) + rsE x ∧ 0 ≤ rsE x ∧ rsE x < O1 := by
  have e := wf x
  have h := fq_lt x
  have e2 : ((zv x).natAbs : Int) = (wq x : Int) * (O1 : Int) + fq x := by rw [e, Int.natCast_add, Int.natCast_mul]
  unfold flo rsE
  by_cases hn : zv x < 0
  · rw [if_pos hn, if_pos hn]
    by_cases hf : fq x = 0
    · rw [if_pos hf, if_pos hf, Int.neg_mul]
      rw [hf] at e2
      omega
    · rw [if_neg hf, if_neg hf, Int.sub_mul, Int.neg_mul, Int.one_mul]
      omega
  · rw [if_neg hn, if_neg hn]
    omega
theorem fin_w {x : UInt64} (h : okD x) (hw : wq x < 2 ^ 53) : FP.Core.DFin x := by
  refine (fin_big h).mpr ?_
  have e := wf x
  have hf := fq_lt x
  have hb : (2 ^ 53 : Int) * (O1 : Int) ≤ zv big := by decide +kernel
  have : (wq x + 1) * O1 ≤ 2 ^ 53 * O1 := Nat.mul_le_mul_right _ (by omega)
  rw [Nat.add_mul, Nat.one_mul] at this
  unfold isInf
  omega
theorem flo_ab {x : UInt64} (hw : wq x < 2 ^ 52) : (flo x).natAbs ≤ 2 ^ 52 := by
  unfold flo
  split
  · split <;> omega
  · omega
theorem s_M_floor {x : UInt64} {M : nf_M} {post : UInt64 → nf_M → Prop} (hx : okD x) (hw : wq x < 2 ^ 52) (k : ∀ f, FP.Core.DFin f → zv f = flo x * (O1 : Int) → post f M) : P_M_floor x M post := by
  unfold P_M_floor B_M_floor_17
  intro t1 e1
  rw [d2l_w hx (by omega)] at e1
  obtain ⟨hz, hr0, hr1⟩ := flo_rs x
  have hn : (if zv x < 0 then -(wq x : Int) else wq x).natAbs ≤ 2 ^ 53 := by split <;> omega
  obtain ⟨f1, f2⟩ := l2d_z hn
  rw [← e1] at f1 f2
  rw [dgt_z f1.notNaN hx, f2]
  have hO := O1_pos
  by_cases hneg : zv x < 0
  · rw [if_pos hneg] at f2 ⊢
    by_cases hf : fq x = 0
    · have ef : flo x = -(wq x : Int) := by unfold flo; rw [if_pos hneg, if_pos hf]
      have er : rsE x = 0 := by unfold rsE; rw [if_pos hneg, if_pos hf]
      rw [ef, er] at hz
      refine ⟨fun z => by omega, fun _ => k _ f1 (by rw [ef]; exact f2)⟩
    · have ef : flo x = -(wq x : Int) - 1 := by unfold flo; rw [if_pos hneg, if_neg hf]
      have hd := dec_z f1 f2 (by omega)
      refine ⟨fun _ => ⟨(n64 _).mpr hd.1.notNaN, k _ hd.1 (by rw [ef]; exact hd.2)⟩, fun z => ?_⟩
      exfalso
      rw [ef, Int.sub_mul] at hz
      omega
  · rw [if_neg hneg] at f2 ⊢
    have ef : flo x = (wq x : Int) := by unfold flo; rw [if_neg hneg]
    rw [ef] at hz
    exact ⟨fun z => by omega, fun _ => k _ f1 (by rw [ef]; exact f2)⟩
theorem rest_ok {x f : UInt64} (hx : okD x) (hw : wq x < 2 ^ 52) (hf : FP.Core.DFin f) (e : zv f = flo x * (O1 : Int)) : okD (FP.Core.dsub x f) ∧ (0 < zv (FP.Core.dsub x f) ↔ 0 < rsE x) ∧ (zv hf5 ≤ zv (FP.Core.dsub x f) ↔ (O1 : Int) ≤ 2 * rsE x) ∧ (zv (FP.Core.dsub x f) = rsE x ∨ flo x = -1) := by
  have hxf := fin_w hx (by omega)
  obtain ⟨hz, hr0, hr1⟩ := flo_rs x
  have hE : zv x - zv f = rsE x := by rw [e]; omega
  have hO := O1_pos
  have h5 := hf5_z
  have ok := FP.Core.dsub_out hx hf
  refine ⟨ok, ?_⟩
  have exact_ok : rep (rsE x) → zv (FP.Core.dsub x f) = rsE x := fun h => by rw [dsub_rep hxf hf (by rw [hE]; exact h), hE]
  by_cases hneg : zv x < 0
  · by_cases hf0 : fq x = 0
    · have er : rsE x = 0 := by unfold rsE; rw [if_pos hneg, if_pos hf0]
      have := exact_ok (by rw [er]; exact ⟨0, ok0, zv0⟩)
      rw [this]
      exact ⟨Iff.rfl, by omega, Or.inl rfl⟩
    · have er : rsE x = (O1 : Int) - fq x := by unfold rsE; rw [if_pos hneg, if_neg hf0]
      have ef : flo x = -(wq x : Int) - 1 := by unfold flo; rw [if_pos hneg, if_neg hf0]
      have hex : 2 * fq x > O1 ∨ 1 ≤ wq x → zv (FP.Core.dsub x f) = rsE x := by
        intro hc
        refine exact_ok ?_
        have hw' := wf x
        have e3 : rsE x = (((wq x + 1) * O1 : Nat) : Int) - ((zv x).natAbs : Int) := by
          rw [er, hw', Nat.add_mul, Nat.one_mul]
          omega
        rw [e3]
        refine rep_sub ⟨wq x + 1, 1074, by omega, by decide, rfl⟩ ?_ ?_ ?_
        · have h1 := rep_of (dneg_fin hxf) (by rw [zv_neg]; omega)
          rw [zv_neg] at h1
          have : ((zv x).natAbs : Int) = -zv x := by omega
          rw [this]
          exact h1
        · rw [Nat.add_mul, Nat.one_mul]; have := fq_lt x; omega
        · rw [Nat.add_mul, Nat.one_mul]
          rcases hc with hc | hc
          · omega
          · have : 1 * O1 ≤ wq x * O1 := Nat.mul_le_mul_right _ hc
            omega
      by_cases hc : 2 * fq x > O1 ∨ 1 ≤ wq x
      · have := hex hc
        rw [this]
        exact ⟨Iff.rfl, by omega, Or.inl rfl⟩
      · have g1 := dsub_ge hxf hf h5.1.notNaN (by rw [hE]; omega)
        refine ⟨by omega, by omega, Or.inr (by omega)⟩
  · have er : rsE x = fq x := by unfold rsE; rw [if_neg hneg]
    have ef : flo x = (wq x : Int) := by unfold flo; rw [if_neg hneg]
    have := exact_ok (by
      have h1 := rest_pos hxf (by omega) (by omega)
      rw [er]
      exact ⟨_, h1.1.notNaN, h1.2⟩)
    rw [this]
    exact ⟨Iff.rfl, by omega, Or.inl rfl⟩
/-- does the whole number below go up -/
def upc (op : Nat) (E f : Int) : Prop := match op with
  | 3 => 0 < E
  | 4 => (O1 : Int) ≤ 2 * E
  | 5 => (O1 : Int) < 2 * E ∨ (2 * E = O1 ∧ ¬ f % 2 = 0)
  | _ => False
def good (op : Nat) (x D : UInt64) : Prop := okD D ∧ ∃ n : Int, ((upc op (rsE x) (flo x) ∧ n = flo x + 1) ∨ (¬ upc op (rsE x) (flo x) ∧ n = flo x)) ∧ zv D = n * (O1 : Int) ∧ (n = 0 → D = if zv x < 0 then 9223372036854775808 else 0)
theorem good_1 {op : Nat} {x D D' : UInt64} (h : good op x D) (h' : good op x D') : D = D' := by
  obtain ⟨k, n, hn, e, z⟩ := h
  obtain ⟨k', n', hn', e', z'⟩ := h'
  have : n = n' := by
    rcases hn with ⟨a, b⟩ | ⟨a, b⟩ <;> rcases hn' with ⟨a', b'⟩ | ⟨a', b'⟩
    · omega
    · exact absurd a a'
    · exact absurd a' a
    · omega
  subst this
  by_cases hz : n = 0
  · rw [z hz, z' hz]
  · refine d_ext k k' (e.trans e'.symm) (fun q => ?_)
    rw [e'] at q
    rcases Int.mul_eq_zero.mp q with q | q
    · exact absurd q hz
    · have := O1_pos
      omega
theorem zmin : zv 9223372036854775808 = 0 := by decide +kernel
theorem okmin : okD 9223372036854775808 := by decide +kernel
/-- what is left when it is known to be whole -/
theorem good_self {op : Nat} {x : UInt64} (hx : okD x) (hf : fq x = 0) (hx0 : zv x ≠ 0) : good op x x := by
  obtain ⟨hz, hr0, hr1⟩ := flo_rs x
  have hO := O1_pos
  have er : rsE x = 0 := by unfold rsE; rw [if_pos hf, hf]; split <;> rfl
  rw [er] at hz
  refine ⟨hx, flo x, Or.inr ⟨?_, rfl⟩, by omega, fun q => ?_⟩
  · rw [er]
    unfold upc
    split <;> first | omega | exact id
  · rw [q] at hz
    omega
