/-! read: the reference's way through the text -/
theorem s_M_gather2 {ds : Nat → Nat} {n : Nat} {M : nf_M} {post : Int64 → nf_M → Prop} (hn : n ≤ 80) (hD : isD M ds n) (h9 : mg_I M 19 9 = 0) (k1 : vd ds n < 1000000000000000 → ∀ M', kH M M' → mg_I M' 19 9 = 0 → mg_I M' 19 13 = zI n → post (zL (vd ds n)) M') (k0 : ¬ vd ds n < 1000000000000000 → ∀ M', kH M M' → mg_I M' 19 9 = 5 → mg_I M' 19 13 = zI n → post (zL (0 : Nat)) M') : P_M_gather M post := by
  have key : ∀ r i : Nat, i + r = n → ∀ (M1 : nf_M) (x : Int64), kH M M1 → isD M1 ds n → ((vd ds i < 1000000000000000 ∧ x = zL (vd ds i) ∧ mg_I M1 19 9 = 0) ∨ (¬ vd ds i < 1000000000000000 ∧ x = zL (0 : Nat) ∧ mg_I M1 19 9 = 5)) → B_M_gather_4 post (r + 1) x (zI i) M1 := by
    intro r
    induction r with
    | zero =>
      intro i hi M1 x hk hd hc
      have : i = n := by omega
      subst this
      unfold B_M_gather_4
      rw [hd.1]
      refine ⟨fun z => absurd z (by rw [zlt (by omega) (by omega)]; omega), fun _ => ?_⟩
      rcases hc with ⟨a, b, c⟩ | ⟨a, b, c⟩
      · rw [b]; exact k1 a M1 hk c hd.1
      · rw [b]; exact k0 a M1 hk c hd.1
    | succ r ih =>
      intro i hi M1 x hk hd hc
      unfold B_M_gather_4 B_M_gather_29 B_M_gather_57
      rw [hd.1, e1i, zI_add, show (i : Int) + (1 : Nat) = ((i + 1 : Nat) : Int) by omega]
      have hdi := hd.2 i (by omega)
      have hv : vd ds (i + 1) = 10 * vd ds i + ds i := rfl
      refine ⟨fun _ => ?_, fun z => absurd (show zI i < zI n by rw [zlt (by omega) (by omega)]; omega) z⟩
      have kk : ∀ v : Int32, kH M (ms_I M1 19 9 v) := fun v => hk.tr ⟨kO_19 M1 9 v (by decide) (by decide), rfl⟩
      have dd : ∀ v : Int32, isD (ms_I M1 19 9 v) ds n := fun v => hd
      rcases hc with ⟨a, b, c⟩ | ⟨a, b, c⟩
      · rw [b, e14, zLlt (by omega) (by omega), c]
        refine ⟨fun z M2 e2 => ⟨fun q => ?_, fun _ => ⟨z_in (by omega) (by omega), ?_⟩⟩, fun z M2 e2 => ⟨fun _ => ?_, fun q => ?_⟩⟩
        · rw [e2] at q
          exact absurd q (show ¬ (0 : Int32) = 5 by decide)
        · have e3 : mg_I M2 26 = mg_I M1 26 := by rw [e2]; rfl
          rw [e3, z_cl (by omega), hdi.1, zI_l (by omega) (by omega), e10, zLmul, zLadd, ← hv]
          exact ih (i + 1) (by omega) M2 _ (by rw [e2]; exact kk 0) (by rw [e2]; exact dd 0) (Or.inl ⟨by omega, rfl, by rw [e2]; rfl⟩)
        · rw [el0]
          exact ih (i + 1) (by omega) M2 _ (by rw [e2]; exact kk 5) (by rw [e2]; exact dd 5) (Or.inr ⟨by omega, rfl, by rw [e2]; rfl⟩)
        · rw [e2] at q
          exact absurd (show (5 : Int32) = 5 by rfl) q
      · rw [b, e14, zLlt (by omega) (by omega), c]
        refine ⟨fun z M2 e2 => ⟨fun _ => ?_, fun q => ?_⟩, fun z => by omega⟩
        · rw [el0]
          exact ih (i + 1) (by omega) M2 _ (by rw [e2]; exact kk 5) (by rw [e2]; exact dd 5) (Or.inr ⟨by omega, rfl, by rw [e2]; rfl⟩)
        · rw [e2] at q
          exact absurd (show (5 : Int32) = 5 by rfl) q
  exact ⟨n + 1, key n 0 (by omega) M _ ⟨kO.rf M, rfl⟩ hD (Or.inl ⟨show (0 : Nat) < 1000000000000000 by decide, el0, h9⟩)⟩
def chr (tx : Nat → Nat) (b i : Nat) : Nat := if i < b then tx i else 0
theorem s_M_here {n i b : Nat} {tx : Nat → Nat} {M : nf_M} {post : Int32 → nf_M → Prop} (hT : okT n tx) (hx : txM M n tx) (hb : b ≤ n) (hi : i ≤ b) (g0 : mg_I M 19 15 = zI i) (g1 : mg_I M 19 16 = zI b) (k : post (zI (chr tx b i)) M) : P_M_here M post := by
  have hn := hT.1
  unfold P_M_here B_M_here_24
  rw [g0, g1, zlt (by omega) (by omega), z_cl (by omega)]
  unfold chr at k
  refine ⟨fun q => ⟨z_in (by omega) (by decide), ?_⟩, fun q => ?_⟩
  · rw [hx.2 i (by omega)]
    rw [if_pos q] at k
    exact k
  · rw [if_neg q] at k
    exact k
theorem chr_lt {n b : Nat} {tx : Nat → Nat} (hT : okT n tx) (hb : b ≤ n) (i : Nat) : chr tx b i < 127 := by
  unfold chr
  split
  · have := hT.2 i (by omega)
    omega
  · omega
theorem s_M_isDigit {c : Nat} {M : nf_M} {post : Int32 → nf_M → Prop} (hc : c < 127) (k1 : dig c → post 1 M) (k0 : ¬ dig c → post 0 M) : P_M_isDigit (zI c) M post := by
  unfold dig at k1 k0
  unfold P_M_isDigit B_M_isDigit_16 B_M_isDigit_17
  rw [show (48 : Int32) = zI (48 : Nat) by decide, show (57 : Int32) = zI (57 : Nat) by decide, zlt (by omega) (by omega), zlt (by omega) (by omega)]
  exact ⟨fun z => ⟨rfl, k0 (by omega)⟩, fun z => ⟨fun z2 => ⟨rfl, k0 (by omega)⟩, fun z2 => ⟨rfl, k1 (by omega)⟩⟩⟩
theorem kH_26 (M : nf_M) (k : Nat) (v : Int32) : kH M (ms_I M 26 k v) := ⟨kO_26 M k v, rfl⟩
/-- where the reference's reading is -/
def atM (M : nf_M) (i b : Nat) : Prop := mg_I M 19 15 = zI i ∧ mg_I M 19 16 = zI b
theorem s_M_digits {n p b : Nat} {tx : Nat → Nat} {x1 : Int32} {M : nf_M} {post : Int32 → nf_M → Prop} (hT : okT n tx) (hx : txM M n tx) (hb : b ≤ n) (hp : p ≤ b) (hA : atM M p b) (k : ∀ j pt M', SE tx p b (¬ x1 = 0) j pt → kH M M' → atM M' (p + j) b → isD M' (dvv tx p pt) (dcn j pt) → mg_I M' 19 9 = mg_I M 19 9 → post (zI (if dcn j pt = 0 then -1 else if pt < 0 then 0 else (dcn j pt : Int) - pt)) M') : P_M_digits x1 M post := by
  have hn := hT.1
  have key : ∀ (r j : Nat) (pt : Int) (M1 : nf_M), r + (p + j) = b → SI tx p b (¬ x1 = 0) j pt → kH M M1 → atM M1 (p + j) b → isD M1 (dvv tx p pt) (dcn j pt) → mg_I M1 19 9 = mg_I M 19 9 → B_M_digits_7 post (r + 1) x1 (zI (if pt < 0 then -1 else (dcn j pt : Int) - pt)) M1 := by
    intro r
    have fin : ∀ (j : Nat) (pt : Int) (M1 : nf_M), SI tx p b (¬ x1 = 0) j pt → ¬ (p + j < b ∧ (dig (tx (p + j)) ∨ ((¬ x1 = 0) ∧ pt = -1 ∧ tx (p + j) = 46))) → kH M M1 → atM M1 (p + j) b → isD M1 (dvv tx p pt) (dcn j pt) → mg_I M1 19 9 = mg_I M 19 9 → B_M_digits_108 post (zI (if pt < 0 then -1 else (dcn j pt : Int) - pt)) M1 := by
      intro j pt M1 hS hE hk hA1 hD h9
      have hpj := hS.1
      have hDb : dcn j pt ≤ 40 := by unfold dcn; split <;> omega
      have hpt : -1 ≤ pt ∧ pt ≤ dcn j pt := by
        unfold dcn
        rcases hS.2 with ⟨a, b⟩ | ⟨a, b, c, d⟩ <;> split <;> omega
      have k := k j pt M1 ⟨hS, hE⟩ hk hA1 hD h9
      unfold B_M_digits_108 B_M_digits_128
      rw [hD.1, z0' (by omega), show (0 : Int32) = zI 0 by decide, zI_lt (by split <;> omega) (by split <;> omega) (by omega) (by omega)]
      refine ⟨fun q => ?_, fun q => ⟨fun q2 => ?_, fun q2 => ?_⟩⟩
      · rw [if_pos q] at k
        exact k
      · rw [if_neg q] at k
        have hp : pt < 0 := by split at q2 <;> omega
        rw [if_pos hp] at k
        exact k
      · rw [if_neg q] at k
        have hp : ¬ pt < 0 := by split at q2 <;> omega
        rw [if_neg hp] at k ⊢
        exact k
    induction r with
    | zero =>
      intro j pt M1 hr1 hS hk hA1 hD h9
      have hx1 := hk.1.1.txm hx
      have hpj := hS.1
      have hend := fin j pt M1 hS (fun q => by omega) hk hA1 hD h9
      have hc0 : chr tx b (p + j) = 0 := by unfold chr; rw [if_neg (by omega)]
      unfold B_M_digits_7
      refine s_M_here hT hx1 hb (by omega) hA1.1 hA1.2 (s_M_isDigit (chr_lt hT hb _) (fun hd => absurd hd (by rw [hc0]; unfold dig; omega)) (fun hd => ⟨fun _ => ⟨fun q => hend, fun q => ⟨fun q2 => s_M_here hT hx1 hb (by omega) hA1.1 hA1.2 ⟨fun q3 => ?_, fun q3 => hend⟩, fun q2 => hend⟩⟩, fun q => absurd rfl q⟩))
      rw [hc0] at q3
      exact absurd q3 (by decide)
    | succ r ih =>
      intro j pt M1 hr1 hS hk hA1 hD h9
      have hx1 := hk.1.1.txm hx
      have hpj : p + j < b := by omega
      have hc0 : chr tx b (p + j) = tx (p + j) := by unfold chr; rw [if_pos hpj]
      have hxx := hT.2 (p + j) (by omega)
      have hDb : dcn j pt ≤ 40 := by unfold dcn; split <;> omega
      have hpt : -1 ≤ pt ∧ pt ≤ dcn j pt := by
        unfold dcn
        rcases hS.2 with ⟨a, b⟩ | ⟨a, b, c, d⟩ <;> split <;> omega
      have hgo : dig (tx (p + j)) → B_M_digits_34 (fun x1 x2 z => B_M_digits_7 post (r + 1) x1 x2 z) post x1 (zI (if pt < 0 then -1 else (dcn j pt : Int) - pt)) M1 := by
        intro hd
        have hd' := hd
        unfold dig at hd'
        have hS' : SI tx p b (¬ x1 = 0) (j + 1) pt := by
          refine ⟨by omega, ?_⟩
          rcases hS.2 with ⟨a1, a2⟩ | ⟨a1, a2, a3, a4, a5⟩
          · refine Or.inl ⟨a1, fun k hk' => ?_⟩
            by_cases c : k = j
            · rw [c]; exact hd
            · exact a2 k (by omega)
          · refine Or.inr ⟨a1, a2, by omega, a4, fun k hk' hne => ?_⟩
            by_cases c : k = j
            · rw [c]; exact hd
            · exact a5 k (by omega) hne
        have eD : dcn (j + 1) pt = dcn j pt + 1 := by
          rcases hS.2 with ⟨a1, a2⟩ | ⟨a1, a2, a3, a4, a5⟩
          · unfold dcn; rw [if_pos (by omega), if_pos (by omega)]
          · unfold dcn; rw [if_neg (by omega), if_neg (by omega)]; omega
        have ev : dvv tx p pt (dcn j pt) = tx (p + j) - 48 := by
          rcases hS.2 with ⟨a1, a2⟩ | ⟨a1, a2, a3, a4, a5⟩
          · unfold dvv dcn
            rw [if_pos (by omega), if_pos (by omega)]
          · unfold dvv dcn
            rw [if_neg (show ¬ pt < 0 by omega), if_neg (by omega), show p + (j - 1) + 1 = p + j by omega]
        unfold B_M_digits_34 B_M_digits_70 B_M_digits_94
        refine s_M_here hT hx1 hb (by omega) hA1.1 hA1.2 (s_M_isDigit (chr_lt hT hb _) (fun _ => ⟨fun q => absurd q (by decide), fun _ => s_M_here hT hx1 hb (by omega) hA1.1 hA1.2 (fun t7 e7 => ?_)⟩) (fun hnd => absurd (by rw [hc0]; exact hd) hnd))
        rw [hc0, show (48 : Int32) = zI (48 : Nat) by decide, zI_sub, show (tx (p + j) : Int) - ((48 : Nat) : Int) = ((tx (p + j) - 48 : Nat) : Int) by omega] at e7
        rw [hD.1]
        refine ⟨z_in (by omega) (by decide), fun M9 e9 t10 e10 M11 e11 => ?_⟩
        rw [z_cl (by omega)] at e9
        have f13 : mg_I M9 19 13 = zI (dcn j pt) := by rw [e9]; exact hD.1
        rw [f13, z_s] at e10
        have k11 : kH M1 M11 := by
          rw [e11, e9]
          exact (kH_26 M1 _ t7).tr (kH_19 _ 13 t10 (by decide) (by decide) (by decide))
        have hx11 := (hk.tr k11).1.1.txm hx
        have a0 : mg_I M11 19 15 = zI (p + j : Nat) := by rw [e11, e9]; exact hA1.1
        have a1 : mg_I M11 19 16 = zI b := by rw [e11, e9]; exact hA1.2
        have hD11 : isD M11 (dvv tx p pt) (dcn (j + 1) pt) := by
          rw [eD]
          refine ⟨by rw [e11, e10]; rfl, fun i hi => ?_⟩
          have e26 : mg_I M11 26 i = if i = dcn j pt then t7 else mg_I M1 26 i := by rw [e11, e9]; rfl
          rw [e26]
          by_cases c : i = dcn j pt
          · rw [if_pos c, c, ev, e7]
            exact ⟨rfl, by omega⟩
          · rw [if_neg c]
            exact hD.2 i (by omega)
        have h9' : mg_I M11 19 9 = mg_I M 19 9 := by rw [e11, e9]; exact h9
        refine s_M_here hT hx11 hb (by omega) a0 a1 ?_
        rw [hc0, show (46 : Int32) = zI (46 : Nat) by decide, zeq (by omega) (by omega)]
        refine ⟨fun q => by omega, fun _ => ?_⟩
        have nxt : ∀ z : Int32, z = zI (if pt < 0 then -1 else (dcn (j + 1) pt : Int) - pt) → ∀ t1 : Int32, t1 = (mg_I M11 19 15) + (1 : Int32) → ∀ M2 : nf_M, M2 = ms_I M11 19 15 t1 → B_M_digits_7 post (r + 1) x1 z M2 := by
          intro z ez t1 e1 M2 e2
          rw [a0, z_s] at e1
          rw [ez]
          refine ih (j + 1) pt M2 (by omega) hS' (hk.tr (k11.tr (by rw [e2]; exact kH_19 M11 15 t1 (by decide) (by decide) (by decide)))) ⟨by rw [e2, e1]; rfl, by rw [e2]; exact a1⟩ ?_ (by rw [e2]; exact h9')
          rw [e2]
          exact hD11
        rw [show (0 : Int32) = zI 0 by decide, zI_lt (by split <;> omega) (by split <;> omega) (by omega) (by omega)]
        refine ⟨fun q => nxt _ ?_, fun q => nxt _ ?_⟩
        · have hp : pt < 0 := by split at q <;> omega
          rw [if_pos hp, if_pos hp]
        · have hp : ¬ pt < 0 := by split at q <;> omega
          rw [if_neg hp, if_neg hp, e1i, zI_add, eD]
          congr 1
          omega
      unfold B_M_digits_7
      refine s_M_here hT hx1 hb (by omega) hA1.1 hA1.2 (s_M_isDigit (chr_lt hT hb _) (fun hd => ⟨fun q => absurd q (by decide), fun _ => hgo (by rw [hc0] at hd; exact hd)⟩) (fun hd => ?_))
      rw [hc0] at hd
      have hend := fin j pt M1 hS
      refine ⟨fun _ => ⟨fun q => hend (fun h => by rcases h.2 with h | h; exact hd h; exact h.1 q) hk hA1 hD h9, fun q => ⟨fun q2 => s_M_here hT hx1 hb (by omega) hA1.1 hA1.2 ?_, fun q2 => hend (fun h => by
        rcases h.2 with h | h
        · exact hd h
        · rw [h.2.1, if_pos (by decide)] at q2
          exact absurd (show (zI (-1) : Int32) < 0 by decide) q2) hk hA1 hD h9⟩⟩, fun q => absurd rfl q⟩
      rw [hc0, show (46 : Int32) = zI (46 : Nat) by decide, zeq (by omega) (by omega)]
      refine ⟨fun q3 => ?_, fun q3 => hend (fun h => by rcases h.2 with h | h; exact hd h; exact q3 h.2.2) hk hA1 hD h9⟩
      rw [show (0 : Int32) = zI 0 by decide, zI_lt (by split <;> omega) (by split <;> omega) (by omega) (by omega)] at q2
      have ept : pt = -1 := by split at q2 <;> omega
      subst ept
      have hall : ∀ k, k < j → dig (tx (p + k)) := by
        rcases hS.2 with ⟨a1, a2⟩ | ⟨a1, a2, a3, a4, a5⟩
        · exact a2
        · omega
      have eD0 : dcn j (-1) = j := rfl
      have eD1 : dcn (j + 1) (j : Int) = j := by unfold dcn; rw [if_neg (by omega)]; omega
      have hS' : SI tx p b (¬ x1 = 0) (j + 1) (j : Int) := ⟨by omega, Or.inr ⟨q, by omega, by omega, by rw [Int.toNat_natCast]; exact q3, fun k hk' hne => hall k (by rw [Int.toNat_natCast] at hne; omega)⟩⟩
      unfold B_M_digits_34 B_M_digits_70 B_M_digits_94
      refine s_M_here hT hx1 hb (by omega) hA1.1 hA1.2 (s_M_isDigit (chr_lt hT hb _) (fun hd' => absurd (by rw [hc0] at hd'; exact hd') hd) (fun _ => ⟨fun _ => s_M_here hT hx1 hb (by omega) hA1.1 hA1.2 ?_, fun q => absurd rfl q⟩))
      rw [hc0, show (46 : Int32) = zI (46 : Nat) by decide, zeq (by omega) (by omega)]
      refine ⟨fun _ t1 e1 M2 e2 => ?_, fun q4 => absurd q3 q4⟩
      rw [hA1.1, z_s] at e1
      have h := ih (j + 1) (j : Int) M2 (by omega) hS' (hk.tr (by rw [e2]; exact kH_19 M1 15 t1 (by decide) (by decide) (by decide))) ⟨by rw [e2, e1]; rfl, by rw [e2]; exact hA1.2⟩ (by
        rw [eD1, e2]
        rw [eD0] at hD
        refine ⟨hD.1, fun i hi => ?_⟩
        have := hD.2 i hi
        unfold dvv at this ⊢
        rw [if_pos (by omega)] at this ⊢
        exact this) (by rw [e2]; exact h9)
      rw [eD1, if_neg (by omega), Int.sub_self] at h
      exact h
  unfold P_M_digits
  intro M1 e1
  have h := key (b - p) 0 (-1) M1 (by omega) ⟨by omega, Or.inl ⟨rfl, fun k hk => absurd hk (Nat.not_lt_zero _)⟩⟩ (by rw [e1]; exact kH_19 M 13 0 (by decide) (by decide) (by decide)) ⟨by rw [e1]; exact hA.1, by rw [e1]; exact hA.2⟩ ⟨by rw [e1]; rfl, fun i hi => absurd hi (Nat.not_lt_zero _)⟩ (by rw [e1]; rfl)
  exact ⟨_, h⟩
