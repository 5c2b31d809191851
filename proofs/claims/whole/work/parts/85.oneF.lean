/-! ONE of a floating number, both sides to one -/
theorem z52 : okD 4841369599423283200 ∧ zv 4841369599423283200 = ((2 ^ 52 * O1 : Nat) : Int) := ⟨by decide +kernel, by decide +kernel⟩
theorem z23 : okD 4710765210229538816 ∧ zv 4710765210229538816 = ((2 ^ 23 * O1 : Nat) : Int) := ⟨by decide +kernel, by decide +kernel⟩
theorem wq_le {x : UInt64} (n : Nat) : ((n * O1 : Nat) : Int) ≤ ((zv x).natAbs : Int) ↔ n ≤ wq x := by
  unfold wq
  rw [Nat.le_div_iff_mul_le O1_pos]
  omega
theorem fin_f {X : UInt32} (h : okS X) (hi : ¬ isInf (FP.f2d X)) : FP.Core.FFin X := by
  cases hv : FP.Core.val32 X with
  | nan => exact absurd hv (okS_val.mp h)
  | inf s => exact absurd ((isInf_f h).mpr ⟨s, hv⟩) hi
  | fin s c q => exact ⟨s, c, q, hv⟩
theorem isF_whole {x : UInt64} (hF : isF x) (hw : 2 ^ 23 ≤ wq x) (hl : wq x < 2 ^ 52) : fq x = 0 := by
  obtain ⟨X, hX, e⟩ := hF
  have hS : okS X := (n32 _).mp hX
  have hok : okD x := by rw [e]; exact okS_D hS
  have hfin := fin_w hok (by omega)
  have hff : FP.Core.FFin X := fin_f hS (by rw [← e]; exact (fin_big hok).mp hfin)
  have hm := (mag_f hff).1
  rw [← e] at hm
  have hfit := FP.Core.val32_fits X
  obtain ⟨s, c, q, ev⟩ := hff
  rw [ev] at hfit hm
  have e3 : FP.Core.b32.qmin = -149 := by decide +kernel
  have e5 : FP.Core.b32.p = 24 := by decide +kernel
  have hc : c < 2 ^ 24 := by have := hfit.1; rw [e5] at this; exact this
  have e6 : FP.Core.zmag FP.Core.b32 (.fin s c q) = c * 2 ^ (q - FP.Core.b32.qmin).toNat := rfl
  rw [e6, Nat.mul_assoc, ← Nat.pow_add] at hm
  have hlow : 2 ^ 23 * O1 ≤ (zv x).natAbs := by
    have := (wq_le (x := x) (2 ^ 23)).mpr hw
    omega
  rw [hm] at hlow
  have hk : 1074 ≤ (q - FP.Core.b32.qmin).toNat + 925 := by
    refine Nat.le_of_not_lt fun hlt => ?_
    have h1 : c * 2 ^ ((q - FP.Core.b32.qmin).toNat + 925) ≤ c * 2 ^ 1073 := Nat.mul_le_mul_left _ (Nat.pow_le_pow_right (by decide) (by omega))
    have h2 : c * 2 ^ 1073 < 2 ^ 24 * 2 ^ 1073 := Nat.mul_lt_mul_of_pos_right hc (Nat.two_pow_pos _)
    have h3 : 2 ^ 24 * 2 ^ 1073 = 2 ^ 23 * O1 := by decide +kernel
    omega
  unfold fq
  rw [hm]
  obtain ⟨j, hj⟩ : ∃ j, (q - FP.Core.b32.qmin).toNat + 925 = j + 1074 := ⟨(q - FP.Core.b32.qmin).toNat + 925 - 1074, by omega⟩
  rw [hj, Nat.pow_add, ← Nat.mul_assoc]
  exact Nat.mul_mod_left _ _
def one1 (op : Nat) (x D : UInt64) : Prop := (op = 0 ∧ D = FP.dneg x) ∨ (op = 1 ∧ D = dab x) ∨ (2 ≤ op ∧ ((zv x = 0 ∨ 2 ^ 52 ≤ wq x) ∧ D = x)) ∨ (2 ≤ op ∧ zv x ≠ 0 ∧ wq x < 2 ^ 52 ∧ good op x D)
theorem one1_1 {op : Nat} {x D D' : UInt64} (h : one1 op x D) (h' : one1 op x D') : D = D' := by
  rcases h with ⟨a, b⟩ | ⟨a, b⟩ | ⟨a, b, c⟩ | ⟨a, b, c, d⟩ <;> rcases h' with ⟨a', b'⟩ | ⟨a', b'⟩ | ⟨a', b', c'⟩ | ⟨a', b', c', d'⟩ <;> first | omega | (rw [b, b']) | (rw [c, c']) | exact good_1 d d'
theorem zero_2 {x : UInt64} (h : okD x) (hz : zv x = 0) : x = 0 ∨ x = 9223372036854775808 := by
  refine FP.Core.zero_bits ?_
  rw [dcmp_z h ok0, hz, zv0]
  rfl
theorem upc_0 {op : Nat} {f : Int} : ¬ upc op 0 f := by
  have := O1_pos
  unfold upc
  split <;> first | omega | exact id
theorem s_M_oneReal {op : Nat} {x H : UInt64} {M : nf_M} {post : Unit → nf_M → Prop} (hop : op < 6) (hx : okD x) (hH : H = 4841369599423283200 ∨ (H = 4710765210229538816 ∧ isF x)) (k : ∀ D, one1 op x D → post () (ms_D M 19 12 D)) : P_M_oneReal (zI op) x H M post := by
  have hHz : okD H ∧ (∀ a, zv a = ((zv x).natAbs : Int) → (zv H ≤ zv a → one1 op x x ∨ op < 2) ∧ (¬ zv H ≤ zv a → wq x < 2 ^ 52)) := by
    rcases hH with rfl | ⟨rfl, hF⟩
    · refine ⟨z52.1, fun a ea => ?_⟩
      rw [z52.2, ea, wq_le]
      refine ⟨fun z => ?_, fun z => by omega⟩
      by_cases h2 : op < 2
      · exact Or.inr h2
      · exact Or.inl (Or.inr (Or.inr (Or.inl ⟨by omega, Or.inr z, rfl⟩)))
    · refine ⟨z23.1, fun a ea => ?_⟩
      rw [z23.2, ea, wq_le]
      refine ⟨fun z => ?_, fun z => by omega⟩
      by_cases h2 : op < 2
      · exact Or.inr h2
      · by_cases h3 : wq x < 2 ^ 52
        · have hz0 : zv x ≠ 0 := fun q => by
            unfold wq at z
            rw [q] at z
            rw [Int.natAbs_zero, Nat.zero_div] at z
            omega
          exact Or.inl (Or.inr (Or.inr (Or.inr ⟨by omega, hz0, h3, good_self hx (isF_whole hF z h3) hz0⟩)))
        · exact Or.inl (Or.inr (Or.inr (Or.inl ⟨by omega, Or.inr (by omega), rfl⟩)))
  obtain ⟨hHok, hHc⟩ := hHz
  have h182 : 2 ≤ op → wq x < 2 ^ 52 → ∀ (v : UInt64) (n : Int), okD v → ((upc op (rsE x) (flo x) ∧ n = flo x + 1) ∨ (¬ upc op (rsE x) (flo x) ∧ n = flo x)) → zv v = n * (O1 : Int) → B_M_oneReal_182 post x v M := by
    intro h2 hw v n hv hn e
    have hO := O1_pos
    have hv0 : zv v = 0 ↔ n = 0 := by
      rw [e]
      constructor
      · intro q
        rcases Int.mul_eq_zero.mp q with q | q <;> omega
      · intro q
        rw [q, Int.zero_mul]
    unfold B_M_oneReal_182 B_M_oneReal_204 B_M_oneReal_208 B_M_oneReal_209 B_M_oneReal_236
    rw [dc0, deq_z hv ok0, dlt_z hx ok0, deq_z hx ok0, zv0, hv0]
    refine ⟨fun z => ⟨fun z2 => ⟨fun q => absurd q (by decide), fun _ M1 e1 => ?_⟩, fun z2 M1 e1 => ?_⟩, fun z => ⟨fun z2 => ?_, fun z2 => ⟨fun z3 => ⟨fun _ M1 e1 => ?_, fun q => absurd rfl q⟩, fun z3 M1 e1 => ?_⟩⟩⟩
    · rw [e1]
      exact k _ (Or.inr (Or.inr (Or.inr ⟨h2, by omega, hw, okmin, n, hn, by rw [z2, zmin, Int.zero_mul], fun _ => by rw [if_pos z]⟩)))
    · rw [e1]
      exact k _ (Or.inr (Or.inr (Or.inr ⟨h2, by omega, hw, hv, n, hn, e, fun q => absurd q z2⟩)))
    · obtain ⟨hz, hr0, hr1⟩ := flo_rs x
      have hn0 : n = 0 := by
        have w0 : wq x = 0 := by unfold wq; rw [z2, Int.natAbs_zero, Nat.zero_div]
        have f0 : fq x = 0 := by unfold fq; rw [z2, Int.natAbs_zero, Nat.zero_mod]
        have ef : flo x = 0 := by unfold flo; rw [if_neg (by omega), w0]; rfl
        have er : rsE x = 0 := by unfold rsE; rw [if_neg (by omega), f0]; rfl
        rw [er, ef] at hn
        have := upc_0 (op := op) (f := 0)
        rcases hn with ⟨a, b⟩ | ⟨a, b⟩
        · exact absurd a this
        · exact b
      have hself : one1 op x x := Or.inr (Or.inr (Or.inl ⟨h2, Or.inl z2, rfl⟩))
      rcases zero_2 hx z2 with rfl | rfl
      · have n1 : ¬ nf_dlt (FP.ddiv FP.dconst1 0) 0 := by unfold nf_dlt; decide +kernel
        exact ⟨(n64 _).mpr (by decide +kernel), fun q => absurd q n1, fun _ => ⟨fun _ => ⟨fun _ M1 e1 => by rw [e1]; exact k _ hself, fun q => absurd rfl q⟩, fun q => absurd hn0 q⟩⟩
      · have n1 : nf_dlt (FP.ddiv FP.dconst1 9223372036854775808) 0 := by unfold nf_dlt; decide +kernel
        exact ⟨(n64 _).mpr (by decide +kernel), fun _ => ⟨fun _ => ⟨fun q => absurd q (by decide), fun _ M1 e1 => by rw [e1]; exact k _ hself⟩, fun q => absurd hn0 q⟩, fun q => absurd n1 q⟩
    · rw [e1]
      exact k _ (Or.inr (Or.inr (Or.inr ⟨h2, z2, hw, ok0, n, hn, by rw [z3, zv0, Int.zero_mul], fun _ => by rw [if_neg z]⟩)))
    · rw [e1]
      exact k _ (Or.inr (Or.inr (Or.inr ⟨h2, z2, hw, hv, n, hn, e, fun q => absurd q z3⟩)))
  have h12 : ∀ a, okD a → zv a = ((zv x).natAbs : Int) → B_M_oneReal_12 post (zI op) x H a M := by
    intro a ha ea
    obtain ⟨c1, c2⟩ := hHc a ea
    unfold B_M_oneReal_12 B_M_oneReal_42
    rw [show (2 : Int32) = zI (2 : Nat) by decide, zlt (by omega) (by omega), z0' (by omega), dge_z ha hHok, dc0, dle_z hx ok0, zv0]
    refine ⟨fun z => ⟨fun z0 M1 e1 => ?_, fun z0 => ⟨fun z1 => ⟨(n64 _).mpr (zv_sub0 hx).2, fun M1 e1 => ?_⟩, fun z1 M1 e1 => ?_⟩⟩, fun z => ⟨fun z2 M1 e1 => ?_, fun z2 => ?_⟩⟩
    · rw [e1]
      exact k _ (Or.inl ⟨z0, rfl⟩)
    · rw [e1]
      exact k _ (Or.inr (Or.inl ⟨by omega, by unfold dab; rw [if_pos z1]⟩))
    · rw [e1]
      exact k _ (Or.inr (Or.inl ⟨by omega, by unfold dab; rw [if_neg z1]⟩))
    · rw [e1]
      rcases c1 z2 with q | q
      · exact k _ q
      · omega
    · have hw := c2 z2
      refine s_M_floor hx hw (fun f hf ef => ?_)
      obtain ⟨r1, r2, r3, r4⟩ := rest_ok hx hw hf ef
      have h5 := hf5_z
      refine ⟨(n64 _).mpr r1, fun t6 et => ?_⟩
      have hfl := flo_ab hw
      have h182 := h182 (by omega) hw
      have ed : FP.d2l f = zL (flo x) := by
        have ew : wq f = (flo x).natAbs := by
          unfold wq
          rw [ef, Int.natAbs_mul]
          exact Nat.mul_div_cancel _ O1_pos
        rw [d2l_w hf.notNaN (by omega), ew]
        have hs : zv f < 0 ↔ flo x < 0 := by
          rw [ef]
          have hO : (0 : Int) < (O1 : Int) := by have := O1_pos; omega
          constructor
          · intro q
            refine Int.lt_of_not_ge fun r => ?_
            have := Int.mul_nonneg r (Int.le_of_lt hO)
            omega
          · intro q
            exact Int.mul_neg_of_neg_of_pos q hO
        congr 1
        split <;> omega
      have hup : upc op (rsE x) (flo x) → B_M_oneReal_166 post x f (1 : Int32) M := fun u => by
        unfold B_M_oneReal_166
        have hi := inc_z hf ef (by omega)
        exact ⟨fun q => absurd q (by decide), fun _ => ⟨(n64 _).mpr hi.1, h182 _ _ hi.1 (Or.inl ⟨u, rfl⟩) hi.2⟩⟩
      have hno : ¬ upc op (rsE x) (flo x) → B_M_oneReal_166 post x f (0 : Int32) M := fun u => by
        unfold B_M_oneReal_166
        exact ⟨fun _ => h182 _ _ hf.notNaN (Or.inr ⟨u, rfl⟩) ef, fun q => absurd rfl q⟩
      have h89 : ∀ y : Int32, (y = 0 ↔ flo x % 2 = 0) → B_M_oneReal_89 post (zI op) x f t6 y M := by
        intro y hy
        rw [et]
        unfold B_M_oneReal_89 B_M_oneReal_161 B_M_oneReal_165
        have c5 := h5.1.notNaN
        have e5 : (4602678819172646912 : UInt64) = hf5 := rfl
        rw [e5, zeqI 3 3 (by decide) (by omega) (by omega), zeqI 4 4 (by decide) (by omega) (by omega), zeqI 5 5 (by decide) (by omega) (by omega), dc0, dgt_z r1 ok0, dge_z r1 c5, dgt_z r1 c5, deq_z r1 c5, zv0, hy]
        refine ⟨fun z => ?_, fun n3 => ⟨fun z => ?_, fun n4 => ⟨fun z => ?_, fun n5 => ?_⟩⟩⟩
        · subst z
          exact ⟨fun q => hup (r2.mp q), fun q => hno (fun u => q (r2.mpr u))⟩
        · subst z
          exact ⟨fun q => hup (r3.mp q), fun q => hno (fun u => q (r3.mpr u))⟩
        · subst z
          have hu : upc 5 (rsE x) (flo x) = ((O1 : Int) < 2 * rsE x ∨ (2 * rsE x = O1 ∧ ¬ flo x % 2 = 0)) := rfl
          rw [hu] at hup hno
          show (zv hf5 < zv (FP.Core.dsub x f) → _) ∧ (¬ zv hf5 < zv (FP.Core.dsub x f) → (zv (FP.Core.dsub x f) = zv hf5 → _) ∧ (¬ zv (FP.Core.dsub x f) = zv hf5 → _))
          refine ⟨fun q => hup ?_, fun q => ⟨fun q2 => ⟨fun q3 => hno ?_, fun q3 => hup ?_⟩, fun q2 => hno ?_⟩⟩ <;> rcases r4 with r4 | r4 <;> omega
        · exact hno (fun u => by
            have : op = 2 := by omega
            subst this
            exact u)
      rw [ed, odd_L (by omega) (by omega)]
      exact ⟨fun q => h89 0 ⟨fun _ => q, fun _ => rfl⟩, fun q => h89 1 ⟨fun q2 => absurd q2 (by decide), fun q2 => absurd q2 q⟩⟩
  unfold P_M_oneReal
  rw [dc0, dlt_z hx ok0, zv0]
  refine ⟨fun z => h12 _ ((FP.dneg_nan x).trans hx) ?_, fun z => h12 _ hx (by omega)⟩
  rw [zv_neg]
  omega
/-- away from 0 -/
def awy (op : Nat) (neg : Bool) (w : Nat) (r : Int) : Prop := match op with
  | 2 => neg = true ∧ 0 < r
  | 3 => neg = false ∧ 0 < r
  | 4 => (O1 : Int) < 2 * r ∨ (2 * r = O1 ∧ neg = false)
  | _ => (O1 : Int) < 2 * r ∨ (2 * r = O1 ∧ ¬ w % 2 = 0)
theorem s_F_isHalfEvenUp {w : Nat} {R : UInt64} {M : nf_M} {post : Int32 → nf_M → Prop} (hw : w < 4611686018427387904) (hR : okD R) (k1 : (O1 : Int) < 2 * zv R ∨ (2 * zv R = O1 ∧ ¬ w % 2 = 0) → post 1 M) (k0 : ¬ ((O1 : Int) < 2 * zv R ∨ (2 * zv R = O1 ∧ ¬ w % 2 = 0)) → post 0 M) : P_F_isHalfEvenUp (zL w) R M post := by
  have h5 := hf5_z
  have c5 := h5.1.notNaN
  have e5 : (4602678819172646912 : UInt64) = hf5 := rfl
  unfold P_F_isHalfEvenUp B_F_isHalfEvenUp_26 B_F_isHalfEvenUp_30 B_F_isHalfEvenUp_31
  rw [e5, dgt_z hR c5, deq_z hR c5, odd_L (by omega) (by omega)]
  exact ⟨fun q => ⟨rfl, k1 (by omega)⟩, fun q => ⟨fun q2 => ⟨fun q3 => ⟨rfl, k0 (by omega)⟩, fun q3 => ⟨rfl, k1 (by omega)⟩⟩, fun q2 => ⟨rfl, k0 (by omega)⟩⟩⟩
theorem s_F_away {op w : Nat} {neg : Bool} {R : UInt64} {M : nf_M} {post : Int32 → nf_M → Prop} (h2 : 2 ≤ op) (hop : op < 6) (hw : w < 4611686018427387904) (hR : okD R) (k1 : awy op neg w (zv R) → post 1 M) (k0 : ¬ awy op neg w (zv R) → post 0 M) : P_F_isAwayFromZero (zI op) (if neg then 1 else 0) (zL w) R M post := by
  have h5 := hf5_z
  have c5 := h5.1.notNaN
  have e5 : (4602678819172646912 : UInt64) = hf5 := rfl
  have hneg : (if neg then (1 : Int32) else 0) = 0 ↔ neg = false := by cases neg <;> decide
  unfold P_F_isAwayFromZero B_F_isAwayFromZero_43 B_F_isAwayFromZero_44 B_F_isAwayFromZero_60 B_F_isAwayFromZero_61 B_F_isAwayFromZero_84 B_F_isAwayFromZero_88 B_F_isAwayFromZero_89
  rw [e5, zeqI 2 2 (by decide) (by omega) (by omega), zeqI 3 3 (by decide) (by omega) (by omega), zeqI 4 4 (by decide) (by omega) (by omega), dc0, dgt_z hR ok0, dgt_z hR c5, deq_z hR c5, zv0, hneg]
  refine ⟨fun z => ?_, fun n2 => ⟨fun z => ?_, fun n3 => ⟨fun z => ?_, fun n4 => ?_⟩⟩⟩
  · subst z
    exact ⟨fun q => ⟨rfl, k0 (fun u => by rw [u.1] at q; exact absurd q (by decide))⟩, fun q => ⟨fun q2 => ⟨rfl, k1 ⟨by cases neg; exact absurd rfl q; rfl, q2⟩⟩, fun q2 => ⟨rfl, k0 (fun u => q2 u.2)⟩⟩⟩
  · subst z
    exact ⟨fun q => ⟨fun q2 => ⟨rfl, k1 ⟨q, q2⟩⟩, fun q2 => ⟨rfl, k0 (fun u => q2 u.2)⟩⟩, fun q => ⟨rfl, k0 (fun u => q u.1)⟩⟩
  · subst z
    have hu : awy 4 neg w (zv R) = ((O1 : Int) < 2 * zv R ∨ (2 * zv R = O1 ∧ neg = false)) := rfl
    rw [hu] at k1 k0
    exact ⟨fun q => ⟨rfl, k1 (by omega)⟩, fun q => ⟨fun q2 => ⟨fun q3 => ⟨rfl, k1 (Or.inr ⟨by omega, q3⟩)⟩, fun q3 => ⟨rfl, k0 (fun u => by rcases u with u | u; omega; exact q3 u.2)⟩⟩, fun q2 => ⟨rfl, k0 (by omega)⟩⟩⟩
  · have : op = 5 := by omega
    subst this
    exact s_F_isHalfEvenUp hw hR (fun u => ⟨rfl, k1 u⟩) (fun u => ⟨rfl, k0 u⟩)
theorem s_F_floatingOne {op : Nat} {x : UInt64} {M : nf_M} {post : UInt64 → nf_M → Prop} (hop : op < 6) (hx : okD x) (k : ∀ D, one1 op x D → post D M) : P_F_floatingOne (zI op) x M post := by
  have hab := dab_ok hx
  unfold P_F_floatingOne B_F_floatingOne_34
  rw [z0' (by omega), zeqI 1 1 (by decide) (by omega) (by omega), dc0, deq_z hx ok0, zv0]
  refine ⟨fun z => k _ (Or.inl ⟨z, rfl⟩), fun n0 => ⟨fun z => s_F_amount hx (k _ (Or.inr (Or.inl ⟨z, rfl⟩))), fun n1 => ⟨fun z => k _ (Or.inr (Or.inr (Or.inl ⟨by omega, Or.inl z, rfl⟩))), fun z => s_F_amount hx ?_⟩⟩⟩
  rw [dge_z hab.1 z52.1, z52.2, hab.2, wq_le]
  refine ⟨fun q => k _ (Or.inr (Or.inr (Or.inl ⟨by omega, Or.inr q, rfl⟩))), fun hw => s_F_amount hx (fun t7 e7 => ?_)⟩
  have ew : wq (dab x) = wq x := by unfold wq; rw [hab.2]; rfl
  have ef : fq (dab x) = fq x := by unfold fq; rw [hab.2]; rfl
  have hfin : FP.Core.DFin (dab x) := fin_w hab.1 (by rw [ew]; omega)
  have hrp := rest_pos hfin (by omega) (by rw [ew]; omega)
  obtain ⟨f1, f2⟩ := l2d_z (n := (wq x : Int)) (by omega)
  rw [ew, ef] at hrp
  rw [d2l_w hab.1 (by rw [ew]; omega), ew, if_neg (by omega)] at e7
  have ed : FP.d2l t7 = zL (wq x) := by
    have ew2 : wq t7 = wq x := by
      unfold wq
      rw [e7, f2, Int.natAbs_mul]
      exact Nat.mul_div_cancel _ O1_pos
    have h0 : 0 ≤ zv t7 := by
      rw [e7, f2]
      exact Int.mul_nonneg (by omega) (by omega)
    rw [d2l_w (by rw [e7]; exact f1.notNaN) (by rw [ew2]; omega), ew2, if_neg (by omega)]
  have e0 := wf x
  have hf := fq_lt x
  have hO := O1_pos
  have h73 : ∀ (v : UInt64) (n : Nat), okD v → zv v = (n : Int) * (O1 : Int) → (n = 0 → v = 0) → ((upc op (rsE x) (flo x) ∧ (if zv x < 0 then -(n : Int) else n) = flo x + 1) ∨ (¬ upc op (rsE x) (flo x) ∧ (if zv x < 0 then -(n : Int) else n) = flo x)) → B_F_floatingOne_73 post x v M := by
    intro v n hv ev h0 hn
    unfold B_F_floatingOne_73 B_F_floatingOne_85
    rw [dc0, dlt_z hx ok0, zv0]
    refine ⟨fun q => k _ (Or.inr (Or.inr (Or.inr ⟨by omega, z, by omega, (FP.dneg_nan v).trans hv, -(n : Int), ?_, ?_, ?_⟩))), fun q => k _ (Or.inr (Or.inr (Or.inr ⟨by omega, z, by omega, hv, (n : Int), ?_, ev, ?_⟩)))⟩
    · rw [if_pos q] at hn
      exact hn
    · rw [zv_neg, ev, Int.neg_mul]
    · intro q2
      rw [if_pos q, h0 (by omega)]
      decide +kernel
    · rw [if_neg q] at hn
      exact hn
    · intro q2
      rw [if_neg q, h0 (by omega)]
  have h55 : ∀ neg : Bool, (neg = true ↔ zv x < 0) → B_F_floatingOne_55 post x t7 (if neg then 1 else 0) (zI op) M := by
    intro neg hneg
    unfold B_F_floatingOne_55
    refine s_F_amount hx ?_
    rw [ed, e7]
    refine ⟨(n64 _).mpr hrp.1.notNaN, s_F_away (by omega) hop (by omega) hrp.1.notNaN (fun u => ⟨fun q => absurd q (by decide), fun _ => ?_⟩) (fun u => ⟨fun _ => ?_, fun q => absurd rfl q⟩)⟩
    · have hi := inc_z f1 f2 (by omega)
      refine ⟨(n64 _).mpr hi.1, fun t8 e8 => ?_⟩
      rw [e8]
      refine h73 _ (wq x + 1) hi.1 (by rw [hi.2]; rfl) (fun q => absurd q (by omega)) ?_
      have hrs := hrp.2
      have u2 : awy op neg (wq x) (fq x) := by rw [← hrs]; exact u
      have hc : op = 2 ∨ op = 3 ∨ op = 4 ∨ op = 5 := by omega
      unfold flo rsE
      rcases hc with rfl | rfl | rfl | rfl <;> simp only [awy] at u2 <;> simp only [upc] <;> by_cases hn : zv x < 0 <;> by_cases hf0 : fq x = 0 <;> simp only [hn, hf0, if_true, if_false] <;> cases neg <;> simp_all <;> omega
    · refine h73 _ (wq x) f1.notNaN f2 (fun q => by rw [q]; decide +kernel) ?_
      have hrs := hrp.2
      have u2 : ¬ awy op neg (wq x) (fq x) := by rw [← hrs]; exact u
      have hc : op = 2 ∨ op = 3 ∨ op = 4 ∨ op = 5 := by omega
      unfold flo rsE
      rcases hc with rfl | rfl | rfl | rfl <;> simp only [awy] at u2 <;> simp only [upc] <;> by_cases hn : zv x < 0 <;> by_cases hf0 : fq x = 0 <;> simp only [hn, hf0, if_true, if_false] <;> cases neg <;> simp_all <;> omega
  rw [dlt_z hx ok0, zv0]
  exact ⟨fun q => h55 true ⟨fun _ => q, fun _ => rfl⟩, fun q => h55 false ⟨fun r => absurd r (by decide), fun r => absurd r q⟩⟩
