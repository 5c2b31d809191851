/-! floating answers that are no number, both sides to one -/
def odd (op : Nat) (a b : UInt64) : Prop := match op with
  | 0 => isInf a ∧ isInf b ∧ ¬ (0 < zv a ↔ 0 < zv b)
  | 1 => isInf a ∧ isInf b ∧ (0 < zv a ↔ 0 < zv b)
  | 2 => (zv a = 0 ∧ isInf b) ∨ (isInf a ∧ zv b = 0)
  | 3 => (isInf a ∧ isInf b) ∨ (zv a = 0 ∧ zv b = 0)
  | 4 => (isInf a ∧ isInf b) ∨ zv b = 0
  | _ => isInf a ∨ zv b = 0
theorem q_F_isInfinite {x : UInt64} {M : nf_M} {post : Int32 → nf_M → Prop} (h : okD x) : P_F_isInfinite x M post ↔ (isInf x → post 1 M) ∧ (¬ isInf x → post 0 M) := by
  constructor
  · intro k
    unfold P_F_isInfinite B_F_isInfinite_16 P_F_amount B_F_amount_13 at k
    rw [dc0, dle_z h ok0, zv0] at k
    have hd := dab_ok h
    have e := dgt_z hd.1 okbig.1
    unfold big at e
    unfold dab at hd e
    unfold isInf
    unfold big
    by_cases z : zv x ≤ 0
    · rw [if_pos z] at hd e
      have k2 := (k.1 z).2
      change (nf_dgt (FP.Core.dsub 0 x) 9218868437227405311 → _) ∧ (¬ nf_dgt (FP.Core.dsub 0 x) 9218868437227405311 → _) at k2
      rw [e, hd.2] at k2
      exact ⟨fun q => (k2.1 q).2, fun q => (k2.2 q).2⟩
    · rw [if_neg z] at hd e
      have k2 := k.2 z
      change (nf_dgt x 9218868437227405311 → _) ∧ (¬ nf_dgt x 9218868437227405311 → _) at k2
      rw [e, hd.2] at k2
      exact ⟨fun q => (k2.1 q).2, fun q => (k2.2 q).2⟩
  · exact fun k => s_F_isInfinite h k.1 k.2
theorem q_M_isInfinite {x : UInt64} {M : nf_M} {post : Int32 → nf_M → Prop} (h : okD x) : P_M_isInfinite x M post ↔ (isInf x → post 1 M) ∧ (¬ isInf x → post 0 M) := by
  constructor
  · intro k
    unfold P_M_isInfinite B_M_isInfinite_16 B_M_isInfinite_21 at k
    have e1 := dgt_z h okbig.1
    have e2 := dlt_z h okbig.2
    have h0 := zvbig0
    rw [zvbig] at e2
    unfold isInf
    unfold big at *
    rw [e1, e2] at k
    by_cases z : zv 9218868437227405311 < zv x
    · exact ⟨fun _ => (k.1 z).2, fun q => absurd (show _ < ((zv x).natAbs : Int) by omega) q⟩
    · by_cases z2 : zv x < -zv 9218868437227405311
      · exact ⟨fun _ => ((k.2 z).1 z2).2, fun q => absurd (show _ < ((zv x).natAbs : Int) by omega) q⟩
      · exact ⟨fun q => absurd q (by omega), fun _ => ((k.2 z).2 z2).2⟩
  · exact fun k => s_M_isInfinite h k.1 k.2
theorem b01 : (narrow .boolean (.int 0) = .int 0) ∧ (narrow .boolean (.int 1) = .int 1) := ⟨rfl, rfl⟩
theorem d01 : ¬ (1 : Int32) = 0 := by decide
theorem d10 : ¬ (0 : Int32) = 1 := by decide
theorem s_F_isNoNumber {op : Nat} {x y : UInt64} {M : nf_M} {post : Int32 → nf_M → Prop} (hop : op < 6) (hx : okD x) (hy : okD y) (k1 : odd op x y → post 1 M) (k0 : ¬ odd op x y → post 0 M) : P_F_isNoNumber (zI op) x y M post := by
  unfold P_F_isNoNumber B_F_isNoNumber_18 B_F_isNoNumber_19 B_F_isNoNumber_213 B_F_isNoNumber_218 B_F_isNoNumber_194 B_F_isNoNumber_199 B_F_isNoNumber_177 B_F_isNoNumber_181 B_F_isNoNumber_182 B_F_isNoNumber_141 B_F_isNoNumber_154 B_F_isNoNumber_158 B_F_isNoNumber_159 B_F_isNoNumber_108 B_F_isNoNumber_119 B_F_isNoNumber_126 B_F_isNoNumber_127 B_F_isNoNumber_72 B_F_isNoNumber_83 B_F_isNoNumber_90 B_F_isNoNumber_91
  simp only [q_F_isInfinite hx, q_F_isInfinite hy, dc0, dgt_z hx ok0, dgt_z hy ok0, deq_z hx ok0, deq_z hy ok0, zv0, zeqI 0 0 (by decide) (show op < 100 by omega) (by omega), zeqI 1 1 (by decide) (show op < 100 by omega) (by omega), zeqI 2 2 (by decide) (show op < 100 by omega) (by omega), zeqI 3 3 (by decide) (show op < 100 by omega) (by omega), zeqI 4 4 (by decide) (show op < 100 by omega) (by omega), b01.1, b01.2, d01, d10, true_and, not_true_eq_false, not_false_eq_true, false_implies, true_implies, and_true]
  have hc : op = 0 ∨ op = 1 ∨ op = 2 ∨ op = 3 ∨ op = 4 ∨ op = 5 := by omega
  rcases hc with rfl | rfl | rfl | rfl | rfl | rfl <;> simp only [odd] at k1 k0 <;> generalize isInf x = A at k1 k0 ⊢ <;> generalize isInf y = B at k1 k0 ⊢ <;> generalize post 1 M = P1 at k1 k0 ⊢ <;> generalize post 0 M = P0 at k1 k0 ⊢ <;> generalize (0 < zv x) = pa at k1 k0 ⊢ <;> generalize (0 < zv y) = pb at k1 k0 ⊢ <;> generalize (zv x = 0) = za at k1 k0 ⊢ <;> generalize (zv y = 0) = zb at k1 k0 ⊢ <;> by_cases hA : A <;> by_cases hB : B <;> by_cases ha : pa <;> by_cases hb : pb <;> by_cases hc : za <;> by_cases hd : zb <;> simp_all
theorem s_M_odd84 {op : Nat} {x y : UInt64} {x5 x6 xy0 : Int32} {M : nf_M} {post : Int32 → nf_M → Prop} (hop : op < 6) (hx : okD x) (hy : okD y) (h5 : (x5 = 1 ∧ isInf x ∧ isInf y) ∨ (x5 = 0 ∧ ¬ (isInf x ∧ isInf y))) (h6 : (x6 = 1 ∧ (0 < zv x ↔ 0 < zv y)) ∨ (x6 = 0 ∧ ¬ (0 < zv x ↔ 0 < zv y))) (h0 : (xy0 = 1 ∧ ((zv x = 0 ∧ isInf y) ∨ (isInf x ∧ zv y = 0))) ∨ (xy0 = 0 ∧ ¬ ((zv x = 0 ∧ isInf y) ∨ (isInf x ∧ zv y = 0)))) (k1 : odd op x y → post 1 M) (k0 : ¬ odd op x y → post 0 M) : B_M_isOdd_84 post (zI op) x y x5 x6 xy0 M := by
  have e2 : zI (op : Int) < (2 : Int32) ↔ op < 2 := by rw [show (2 : Int32) = zI (2 : Nat) by decide, zlt (by omega) (by omega)]
  unfold B_M_isOdd_84 B_M_isOdd_181 B_M_isOdd_177 B_M_isOdd_147 B_M_isOdd_108 B_M_isOdd_115 B_M_isOdd_182
  have hc : op = 0 ∨ op = 1 ∨ op = 2 ∨ op = 3 ∨ op = 4 ∨ op = 5 := by omega
  simp only [q_M_isInfinite hx, dc0, deq_z hx ok0, deq_z hy ok0, zv0, e2, zeqI 1 1 (by decide) (show op < 100 by omega) (by omega), zeqI 2 2 (by decide) (show op < 100 by omega) (by omega), zeqI 4 4 (by decide) (show op < 100 by omega) (by omega), zeqI 5 5 (by decide) (show op < 100 by omega) (by omega)]
  rcases h5 with ⟨rfl, h5⟩ | ⟨rfl, h5⟩ <;> rcases h6 with ⟨rfl, h6⟩ | ⟨rfl, h6⟩ <;> rcases h0 with ⟨rfl, h0⟩ | ⟨rfl, h0⟩ <;> rcases hc with rfl | rfl | rfl | rfl | rfl | rfl <;> simp only [odd] at k1 k0 <;> generalize isInf x = A at h5 h0 k1 k0 ⊢ <;> generalize isInf y = B at h5 h0 k1 k0 ⊢ <;> generalize post 1 M = P1 at k1 k0 ⊢ <;> generalize post 0 M = P0 at k1 k0 ⊢ <;> generalize (0 < zv x) = pa at h6 k1 k0 ⊢ <;> generalize (0 < zv y) = pb at h6 k1 k0 ⊢ <;> generalize (zv x = 0) = za at h0 k1 k0 ⊢ <;> generalize (zv y = 0) = zb at h0 k1 k0 ⊢ <;> simp [b01.1, b01.2] <;> simp_all <;> (try grind)
theorem s_M_isOdd {op : Nat} {x y : UInt64} {M : nf_M} {post : Int32 → nf_M → Prop} (hop : op < 6) (hx : okD x) (hy : okD y) (k1 : odd op x y → post 1 M) (k0 : ¬ odd op x y → post 0 M) : P_M_isOdd (zI op) x y M post := by
  have h66 : ∀ x5 x6 : Int32, (x5 = 1 ∧ isInf x ∧ isInf y) ∨ (x5 = 0 ∧ ¬ (isInf x ∧ isInf y)) → (x6 = 1 ∧ (0 < zv x ↔ 0 < zv y)) ∨ (x6 = 0 ∧ ¬ (0 < zv x ↔ 0 < zv y)) → B_M_isOdd_51 post (zI op) x y x5 x6 M := by
    intro x5 x6 h5 h6
    unfold B_M_isOdd_51 B_M_isOdd_66 B_M_isOdd_83 B_M_isOdd_79
    simp only [q_M_isInfinite hx, q_M_isInfinite hy, dc0, deq_z hx ok0, deq_z hy ok0, zv0]
    have q1 : (zv x = 0 ∧ isInf y) ∨ (isInf x ∧ zv y = 0) → B_M_isOdd_84 post (zI op) x y x5 x6 1 M := fun h => s_M_odd84 hop hx hy h5 h6 (Or.inl ⟨rfl, h⟩) k1 k0
    have q0 : ¬ ((zv x = 0 ∧ isInf y) ∨ (isInf x ∧ zv y = 0)) → B_M_isOdd_84 post (zI op) x y x5 x6 0 M := fun h => s_M_odd84 hop hx hy h5 h6 (Or.inr ⟨rfl, h⟩) k1 k0
    generalize B_M_isOdd_84 post (zI op) x y x5 x6 1 M = R1 at *
    generalize B_M_isOdd_84 post (zI op) x y x5 x6 0 M = R0 at *
    by_cases a : isInf x <;> by_cases b : isInf y <;> by_cases c : zv x = 0 <;> by_cases d : zv y = 0 <;> simp_all
  have h19 : ∀ x5 : Int32, (x5 = 1 ∧ isInf x ∧ isInf y) ∨ (x5 = 0 ∧ ¬ (isInf x ∧ isInf y)) → B_M_isOdd_19 post (zI op) x y x5 M := by
    intro x5 h5
    unfold B_M_isOdd_19 B_M_isOdd_32 B_M_isOdd_43
    rw [dc0, dgt_z hx ok0, dgt_z hy ok0, zv0]
    exact ⟨fun z => ⟨fun z2 => ⟨fun _ => h66 x5 1 h5 (Or.inl ⟨rfl, by omega⟩), fun q => absurd rfl q⟩, fun z2 => ⟨fun q => absurd q (by decide), fun _ => h66 x5 0 h5 (Or.inr ⟨rfl, by omega⟩)⟩⟩, fun z => ⟨fun z2 => ⟨fun q => absurd q (by decide), fun _ => h66 x5 0 h5 (Or.inr ⟨rfl, by omega⟩)⟩, fun z2 => ⟨fun _ => h66 x5 1 h5 (Or.inl ⟨rfl, by omega⟩), fun q => absurd rfl q⟩⟩⟩
  unfold P_M_isOdd B_M_isOdd_18
  exact s_M_isInfinite hx (fun a => ⟨fun z => absurd z (by decide), fun _ => s_M_isInfinite hy (fun b => ⟨fun z => absurd z (by decide), fun _ => h19 1 (Or.inl ⟨rfl, a, b⟩)⟩) (fun b => ⟨fun _ => h19 0 (Or.inr ⟨rfl, fun q => b q.2⟩), fun z => absurd rfl z⟩)⟩) (fun a => ⟨fun _ => h19 0 (Or.inr ⟨rfl, fun q => a q.1⟩), fun z => absurd rfl z⟩)
