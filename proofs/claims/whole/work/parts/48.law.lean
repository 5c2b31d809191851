/-! the law: its loop, its start (printed by wip/whole/gen/law4.py) -/
/-! THE CLAIM OUT OF ONE WALK OF THE LAW'S BODY. Your part is whole_start (and what it stands on); all else here is the same for every law, but numbers. -/
def R_law : String := "NumberForgeLaw"
def lw_P (b : Addr) (xs : List Int32) (args : Array Value) (s : State) : Prop := args = #[.ref b] ∧ s.IntsAt b xs ∧ xs.length ≤ 2560 ∧ (Jvm.Cond.and given_1 narrow_1).before args s = true
def lw_Q (_ : Array Value) (s : State) (o : Outcome) (t : State) : Prop := o = .returned (some (.int 1)) ∧ Framed s o t [] 628234 7211402
def lw_Z (below : List Frame) (a : Array Value) (s : State) : State → Prop := fun t => ∃ o, t.status = .running ∧ Ended t below o ∧ lw_Q a s o t
/-- the law's own end, with 1 on the stack, nothing written that was there before, its room as the claim has it -/
theorem lw_ret {p : Program} {l : Launch} {e : Env} {s : State} {m : MethodId} {below : List Frame} {meth : Method} {c : Code} {b : Nat} (hx : p.tables.exec = Jvm.exec) (hb : c.code = code) (hr : meth.sig.returnType = ret) (hlocks : meth.locks = false) {pc : Nat} {H : Heap} {ls : Array Slot} (hdg : decode code pc = .ok (.ireturn, 1)) : W p l e room_1 s m #[Value.ref b] below meth c H [] 628234 7211402 (lw_Z below #[Value.ref b] s) (F0 m pc ls [.int 1]) := by
  intro T hT X
  obtain ⟨fs, hret, hrun, hended, hW, hframe⟩ := X.leave (v := some (.int 1)) (hlocks := hlocks) (fun h => by rw [hr] at h; cases h)
  have hmeth' : T.vm.method? m = some meth := X.method'
  refine ⟨T.setFrames fs, ?_, .returned (some (.int 1)), hrun, hended, rfl, ⟨_, rfl⟩, hW, hframe⟩
  jvm_step X.here [X.here.top, hx, hb, hdg, hmeth', hr, ret, narrow_b1]
  (try refine ⟨rfl, ?_⟩); (try refine ⟨rfl, ?_⟩)
  first | (intro acts; rw [hret _ acts rfl rfl rfl]) | rw [hret _ _ rfl rfl rfl]
  exact Steps.refl _
/-- what holds at the law's entry: the machine, the code, the tables' words (any of lw_tbl by 'hts w (by decide +kernel)'), the script of L ints xs at the cell b, what the Statement gives of the start (any of its parts by flat_of_before) -/
def lw_At (p : Program) (s : State) (m : MethodId) (meth : Method) (c : Code) (b L : Nat) (xs : Nat → Int32) : Prop :=
  p.tables.exec = Jvm.exec ∧ c.code = code ∧ meth.sig.returnType = ret ∧ c.maxLocals = 9 ∧ s.vm.findClass R_law = some m.cls ∧ (∀ w ∈ lw_tbl, w.before #[Value.ref b] s = true) ∧ va_X b L xs s s.heap ∧ b < s.heap.size ∧ meth.locks = false ∧ (Jvm.Cond.and given_1 narrow_1).before #[Value.ref b] s = true
def nf_step (Inv : nf_M → Prop) : Prop := ∀ (x1 x2 x3 x4 : Int32) (M : nf_M), Inv M → P_arm0 x1 x2 M Inv ∧ P_arm1 M Inv ∧ P_arm2 x1 x2 M Inv ∧ P_arm3 x1 x2 x3 M Inv ∧ P_arm4 x1 x2 x3 x4 M Inv ∧ P_arm5 x1 x2 x3 M Inv ∧ P_arm6 x1 x2 x3 M Inv ∧ P_arm7 x1 x2 M Inv ∧ P_arm8 x1 M Inv ∧ P_arm9 x1 M Inv ∧ P_arm10 x1 x2 M Inv ∧ P_arm11 x1 M Inv ∧ P_arm12 x1 M Inv ∧ P_arm13 x1 x2 M Inv ∧ P_arm14 x1 M Inv
theorem nf_lsub {L : Nat} (hL : L ≤ 2560) : (Int32.ofNat L - (5 : Int32)).toInt = (L : Int) - 5 := by
  have h1 : (Int32.ofNat L).toInt = (L : Int) := nI_toInt (n := L) (by omega)
  rw [Int32.toInt_sub, h1, show (5 : Int32).toInt = 5 by decide, Int.bmod_def]
  split <;> omega
theorem nf_ik {n L : Nat} {xs : Nat → Int32} (k : Nat) {c : Int32} (hc : c = nI k) (h : n + k < L) (hL : L ≤ 2560) : vp_in (nI n + c) L ∧ xs (nI n + c).toNatClampNeg = xs (n + k) := by
  subst hc
  rw [nI_add]
  exact ⟨nI_in h (by omega), by rw [nI_clamp (by omega)]⟩
theorem d_L_law_28 : decode nb_L_law 28 = .ok (.iload 5, 2) := by decide +kernel
theorem d_L_law_30 : decode nb_L_law 30 = .ok (.aload_n 0, 1) := by decide +kernel
theorem d_L_law_31 : decode nb_L_law 31 = .ok (.arraylength, 1) := by decide +kernel
theorem d_L_law_32 : decode nb_L_law 32 = .ok (.iconst 5, 1) := by decide +kernel
theorem d_L_law_33 : decode nb_L_law 33 = .ok (.isub, 1) := by decide +kernel
theorem d_L_law_34 : decode nb_L_law 34 = .ok (.if_icmp .gt 899, 3) := by decide +kernel
theorem d_L_law_37 : decode nb_L_law 37 = .ok (.aload_n 0, 1) := by decide +kernel
theorem d_L_law_38 : decode nb_L_law 38 = .ok (.iload 5, 2) := by decide +kernel
theorem d_L_law_40 : decode nb_L_law 40 = .ok (.iaload, 1) := by decide +kernel
theorem d_L_law_41 : decode nb_L_law 41 = .ok (.bipush 15, 2) := by decide +kernel
theorem d_L_law_43 : decode nb_L_law 43 = .ok (.iand, 1) := by decide +kernel
theorem d_L_law_927 : decode nb_L_law 927 = .ok (.iinc 5 5, 3) := by decide +kernel
theorem d_L_law_930 : decode nb_L_law 930 = .ok (.goto (-902), 3) := by decide +kernel
theorem d_L_law_933 : decode nb_L_law 933 = .ok (.iconst 1, 1) := by decide +kernel
theorem d_L_law_934 : decode nb_L_law 934 = .ok (.ireturn, 1) := by decide +kernel
theorem d_L_law_0 : decode nb_L_law 0 = .ok (.new 8, 3) := by decide +kernel
theorem d_L_law_3 : decode nb_L_law 3 = .ok (.dup, 1) := by decide +kernel
theorem d_L_law_4 : decode nb_L_law 4 = .ok (.invokespecial 56, 3) := by decide +kernel
theorem d_L_law_7 : decode nb_L_law 7 = .ok (.astore_n 1, 1) := by decide +kernel
theorem d_L_law_8 : decode nb_L_law 8 = .ok (.new 57, 3) := by decide +kernel
theorem d_L_law_11 : decode nb_L_law 11 = .ok (.dup, 1) := by decide +kernel
theorem d_L_law_12 : decode nb_L_law 12 = .ok (.invokespecial 59, 3) := by decide +kernel
theorem d_L_law_15 : decode nb_L_law 15 = .ok (.astore_n 2, 1) := by decide +kernel
theorem d_L_law_16 : decode nb_L_law 16 = .ok (.iconst 1, 1) := by decide +kernel
theorem d_L_law_17 : decode nb_L_law 17 = .ok (.newarray .long, 2) := by decide +kernel
theorem d_L_law_19 : decode nb_L_law 19 = .ok (.astore_n 3, 1) := by decide +kernel
theorem d_L_law_20 : decode nb_L_law 20 = .ok (.iconst 1, 1) := by decide +kernel
theorem d_L_law_21 : decode nb_L_law 21 = .ok (.newarray .double, 2) := by decide +kernel
theorem d_L_law_23 : decode nb_L_law 23 = .ok (.astore 4, 2) := by decide +kernel
theorem d_L_law_25 : decode nb_L_law 25 = .ok (.iconst 0, 1) := by decide +kernel
theorem d_L_law_26 : decode nb_L_law 26 = .ok (.istore 5, 2) := by decide +kernel
theorem d_L_law_44 : decode nb_L_law 44 = .ok (.tableswitch 883 0 14 #[76, 133, 144, 192, 278, 350, 410, 470, 538, 563, 640, 678, 734, 790, 858], 76) := by decide +kernel
theorem nf_loop {p : Program} {l : Launch} {e : Env} {s : State} {m : MethodId} {below : List Frame} {meth : Method} {c : Code} {D : va_G} {a : Nat → Nat} {b L : Nat} {xs : Nat → Int32} {Inv : nf_M → Prop} (hstep : nf_step Inv) (hfl : l.flags = flags0) (K : nf_KW p s m #[Value.ref b] meth c nr_L nb_L_law 9 D a) (hX : va_X b L xs s s.heap) (hbl : b < s.heap.size) (hL : L ≤ 2560) (hret : meth.sig.returnType = ret) (hlk : meth.locks = false) :
    ∀ (r it : Nat) (M : nf_M) (H : Heap) (ls : Array Slot), it + r = 513 → 5 * it ≤ L → Inv M → lv_has ls 9 (nf_lawL a b (nI (5 * it))) → nf_W D a s s.heap.size H [] M → W p l e room_1 s m #[Value.ref b] below meth c H [] (30 + 40 * it) (900 + 240 * it) (lw_Z below #[Value.ref b] s) (F0 m 28 ls []) := by
  have hx := K.1
  have hb := K.2.1
  have hbA : ¬ nf_A a s.heap.size b := fun h => by
    rcases h with ⟨k, hk, e1⟩ | h
    · have := K.2.2.2.2.2.2.2.2.2.2.2.2.2 k hk
      omega
    · omega
  intro r
  induction r with
  | zero => intro it M H ls h1 h2; omega
  | succ r ih =>
    intro it M H ls h1 h2 hI hl0 hw
    have hl : lv_has ls 9 [(0, .ref b), (1, .ref (a 0)), (2, .ref (a 19)), (3, .ref (a 27)), (4, .ref (a 28)), (5, .int (nI (5 * it)))] := hl0
    refine lv_iload hx hb d_L_law_28 (lv_at hl 5 rfl) ?_
    refine lv_aload_n hx hb d_L_law_30 rfl (lv_at hl 0 rfl) ?_
    refine va_slen (A := nf_A a s.heap.size) hx hb hX hbl hbA hw.2.2 d_L_law_31 ?_
    refine lv_iconst (v := (5 : Int32)) hx hb d_L_law_32 (by decide) ?_
    refine lv_isub hx hb d_L_law_33 ?_
    refine nf_ic_gt hx hb d_L_law_34 (tgt := 933) (by decide) (fun hc => ?_) (fun hc => ?_)
    · refine lv_iconst (v := (1 : Int32)) hx hb d_L_law_933 (by decide) ?_
      exact W.widen (by omega) (by omega) (lw_ret hx hb hret hlk d_L_law_934)
    · have h5 : 5 * it + 5 ≤ L := by
        rw [Int32.lt_iff_toInt_lt, nf_lsub hL, nI_toInt (by omega)] at hc
        omega
      have hk : ∀ (M : nf_M) (H : Heap) (ls : Array Slot), Inv M → lv_has ls 9 (nf_lawL a b (nI (5 * it))) → nf_W D a s s.heap.size H [] M → W p l e room_1 s m #[Value.ref b] below meth c H [] (30 + 40 * it + 40) (900 + 240 * it + 240) (lw_Z below #[Value.ref b] s) (F0 m 927 ls []) := fun M H ls hI hl0 hw => by
        have hl : lv_has ls 9 [(0, .ref b), (1, .ref (a 0)), (2, .ref (a 19)), (3, .ref (a 27)), (4, .ref (a 28)), (5, .int (nI (5 * it)))] := hl0
        refine lv_iinc (k := 5) (v := nI (5 * (it + 1))) (lv' := [(5, .int (nI (5 * (it + 1)))), (0, .ref b), (1, .ref (a 0)), (2, .ref (a 19)), (3, .ref (a 27)), (4, .ref (a 28))]) hx hb d_L_law_927 hl rfl (nI_add (5 * it) 5) (by decide) rfl (fun ls hl => ?_)
        refine lv_goto hx hb d_L_law_930 (tgt := 28) (by decide) ?_
        have hz := ih (it + 1) M H ls (by omega) (by omega) hI (lv_sub hl [1, 2, 3, 4, 5, 0] rfl) hw
        rw [show 30 + 40 * (it + 1) = 30 + 40 * it + 40 by omega, show 900 + 240 * (it + 1) = 900 + 240 * it + 240 by omega] at hz
        exact hz
      obtain ⟨r0, r1, r2, r3, r4, r5, r6, r7, r8, r9, r10, r11, r12, r13, r14⟩ := hstep (xs (5 * it + 1)) (xs (5 * it + 2)) (xs (5 * it + 3)) (xs (5 * it + 4)) M hI
      have hkc : 30 + 40 * it + 40 ≤ room_1.cells := (by omega : 30 + 40 * it + 40 ≤ 628234)
      have hks : 900 + 240 * it + 240 ≤ room_1.slots := (by omega : 900 + 240 * it + 240 ≤ 7211402)
      have i0 := nf_ik (xs := xs) (n := 5 * it) 0 (c := (0 : Int32)) (by decide) (by omega) hL
      have i1 := nf_ik (xs := xs) (n := 5 * it) 1 (c := (1 : Int32)) (by decide) (by omega) hL
      have i2 := nf_ik (xs := xs) (n := 5 * it) 2 (c := (2 : Int32)) (by decide) (by omega) hL
      have i3 := nf_ik (xs := xs) (n := 5 * it) 3 (c := (3 : Int32)) (by decide) (by omega) hL
      have i4 := nf_ik (xs := xs) (n := 5 * it) 4 (c := (4 : Int32)) (by decide) (by omega) hL
      refine lv_aload_n hx hb d_L_law_37 rfl (lv_at hl 0 rfl) ?_
      refine lv_iload hx hb d_L_law_38 (lv_at hl 5 rfl) ?_
      refine nf_sldW K hw hX hbl (nI_in (show 5 * it < L by omega) (by omega)) rfl d_L_law_40 ?_
      refine lv_bipush (v := (15 : Int32)) hx hb d_L_law_41 (by decide) ?_
      refine lv_iand hx hb d_L_law_43 ?_
      generalize xs (nI (5 * it)).toNatClampNeg &&& (15 : Int32) = v
      by_cases hc : v = (0 : Int32)
      · refine lv_tableIn hx hb d_L_law_44 (by rw [hc]; decide) (by rw [hc]; decide) (off := 76) (by rw [hc]; rfl) (tgt := 120) (by decide) ?_
        exact w_arm0 hfl K hX hbl i1.1 i1.2 i2.1 i2.2 hkc hks hk r0 hl0 hw
      have q0 := nf_ne hc (k := 0) (by decide)
      clear hc
      by_cases hc : v = (1 : Int32)
      · refine lv_tableIn hx hb d_L_law_44 (by rw [hc]; decide) (by rw [hc]; decide) (off := 133) (by rw [hc]; rfl) (tgt := 177) (by decide) ?_
        exact w_arm1 hfl K hX hbl hkc hks hk r1 hl0 hw
      have q1 := nf_ne hc (k := 1) (by decide)
      clear hc
      by_cases hc : v = (2 : Int32)
      · refine lv_tableIn hx hb d_L_law_44 (by rw [hc]; decide) (by rw [hc]; decide) (off := 144) (by rw [hc]; rfl) (tgt := 188) (by decide) ?_
        exact w_arm2 hfl K hX hbl i1.1 i1.2 i2.1 i2.2 hkc hks hk r2 hl0 hw
      have q2 := nf_ne hc (k := 2) (by decide)
      clear hc
      by_cases hc : v = (3 : Int32)
      · refine lv_tableIn hx hb d_L_law_44 (by rw [hc]; decide) (by rw [hc]; decide) (off := 192) (by rw [hc]; rfl) (tgt := 236) (by decide) ?_
        exact w_arm3 hfl K hX hbl i1.1 i1.2 i2.1 i2.2 i3.1 i3.2 hkc hks hk r3 hl0 hw
      have q3 := nf_ne hc (k := 3) (by decide)
      clear hc
      by_cases hc : v = (4 : Int32)
      · refine lv_tableIn hx hb d_L_law_44 (by rw [hc]; decide) (by rw [hc]; decide) (off := 278) (by rw [hc]; rfl) (tgt := 322) (by decide) ?_
        exact w_arm4 hfl K hX hbl i1.1 i1.2 i2.1 i2.2 i3.1 i3.2 i4.1 i4.2 hkc hks hk r4 hl0 hw
      have q4 := nf_ne hc (k := 4) (by decide)
      clear hc
      by_cases hc : v = (5 : Int32)
      · refine lv_tableIn hx hb d_L_law_44 (by rw [hc]; decide) (by rw [hc]; decide) (off := 350) (by rw [hc]; rfl) (tgt := 394) (by decide) ?_
        exact w_arm5 hfl K hX hbl i1.1 i1.2 i2.1 i2.2 i3.1 i3.2 hkc hks hk r5 hl0 hw
      have q5 := nf_ne hc (k := 5) (by decide)
      clear hc
      by_cases hc : v = (6 : Int32)
      · refine lv_tableIn hx hb d_L_law_44 (by rw [hc]; decide) (by rw [hc]; decide) (off := 410) (by rw [hc]; rfl) (tgt := 454) (by decide) ?_
        exact w_arm6 hfl K hX hbl i1.1 i1.2 i2.1 i2.2 i3.1 i3.2 hkc hks hk r6 hl0 hw
      have q6 := nf_ne hc (k := 6) (by decide)
      clear hc
      by_cases hc : v = (7 : Int32)
      · refine lv_tableIn hx hb d_L_law_44 (by rw [hc]; decide) (by rw [hc]; decide) (off := 470) (by rw [hc]; rfl) (tgt := 514) (by decide) ?_
        exact w_arm7 hfl K hX hbl i1.1 i1.2 i2.1 i2.2 hkc hks hk r7 hl0 hw
      have q7 := nf_ne hc (k := 7) (by decide)
      clear hc
      by_cases hc : v = (8 : Int32)
      · refine lv_tableIn hx hb d_L_law_44 (by rw [hc]; decide) (by rw [hc]; decide) (off := 538) (by rw [hc]; rfl) (tgt := 582) (by decide) ?_
        exact w_arm8 hfl K hX hbl i1.1 i1.2 hkc hks hk r8 hl0 hw
      have q8 := nf_ne hc (k := 8) (by decide)
      clear hc
      by_cases hc : v = (9 : Int32)
      · refine lv_tableIn hx hb d_L_law_44 (by rw [hc]; decide) (by rw [hc]; decide) (off := 563) (by rw [hc]; rfl) (tgt := 607) (by decide) ?_
        exact w_arm9 hfl K hX hbl i1.1 i1.2 hkc hks hk r9 hl0 hw
      have q9 := nf_ne hc (k := 9) (by decide)
      clear hc
      by_cases hc : v = (10 : Int32)
      · refine lv_tableIn hx hb d_L_law_44 (by rw [hc]; decide) (by rw [hc]; decide) (off := 640) (by rw [hc]; rfl) (tgt := 684) (by decide) ?_
        exact w_arm10 hfl K hX hbl i1.1 i1.2 i2.1 i2.2 hkc hks hk r10 hl0 hw
      have q10 := nf_ne hc (k := 10) (by decide)
      clear hc
      by_cases hc : v = (11 : Int32)
      · refine lv_tableIn hx hb d_L_law_44 (by rw [hc]; decide) (by rw [hc]; decide) (off := 678) (by rw [hc]; rfl) (tgt := 722) (by decide) ?_
        exact w_arm11 hfl K hX hbl i1.1 i1.2 hkc hks hk r11 hl0 hw
      have q11 := nf_ne hc (k := 11) (by decide)
      clear hc
      by_cases hc : v = (12 : Int32)
      · refine lv_tableIn hx hb d_L_law_44 (by rw [hc]; decide) (by rw [hc]; decide) (off := 734) (by rw [hc]; rfl) (tgt := 778) (by decide) ?_
        exact w_arm12 hfl K hX hbl i1.1 i1.2 hkc hks hk r12 hl0 hw
      have q12 := nf_ne hc (k := 12) (by decide)
      clear hc
      by_cases hc : v = (13 : Int32)
      · refine lv_tableIn hx hb d_L_law_44 (by rw [hc]; decide) (by rw [hc]; decide) (off := 790) (by rw [hc]; rfl) (tgt := 834) (by decide) ?_
        exact w_arm13 hfl K hX hbl i1.1 i1.2 i2.1 i2.2 hkc hks hk r13 hl0 hw
      have q13 := nf_ne hc (k := 13) (by decide)
      clear hc
      by_cases hc : v = (14 : Int32)
      · refine lv_tableIn hx hb d_L_law_44 (by rw [hc]; decide) (by rw [hc]; decide) (off := 858) (by rw [hc]; rfl) (tgt := 902) (by decide) ?_
        exact w_arm14 hfl K hX hbl i1.1 i1.2 hkc hks hk r14 hl0 hw
      have q14 := nf_ne hc (k := 14) (by decide)
      clear hc
      refine lv_tableOut hx hb d_L_law_44 (by omega) (tgt := 927) (by decide) ?_
      exact W.widen (Nat.le_add_right _ _) (Nat.le_add_right _ _) (hk M H ls hI hl0 hw)
def nf_mkA (A0 C : List Nat) (t0 t1 t2 t3 : Nat) (aK aV : Nat → Nat) : Nat → Nat := fun k => if k < 29 then A0.getD k 0 else if k < 40 then 0 else if k < 44 then [t0, t1, t2, t3].getD (k - 40) 0 else if k < 100 then C.getD (k - 44) 0 else if k < 130 then aK (k - 100) else aV (k - 130)
def nf_m1 : Nat → Int32 := (upd (upd (upd (upd (upd (upd (upd (upd (fun _ => 0) 0 (-1)) 1 (-1)) 2 (-1)) 3 (-1)) 4 (-1)) 5 (-1)) 6 (-1)) 7 (-1))
def nf_M0 : nf_M := (fun o => if o = 22 then nf_m1 else fun _ => 0, fun _ _ => 0, fun _ _ => 0, fun _ => -1, fun _ => 0, fun _ => 0, fun _ => 0, fun _ => 0, fun _ _ => 0)
theorem nf_arr8 (cA : ClassId) (f g : Nat → Option Nat) (h : ∀ i, i < 8 → f i = g i) : vp_cell cA (8, .inr (.inr (.inr (.inr f)))) = vp_cell cA (8, .inr (.inr (.inr (.inr g)))) := by
  rw [vp_cell_q, vp_cell_q]
  have e1 : (fun j : Fin 8 => va_rf (f j.val)) = fun j => va_rf (g j.val) := funext fun j => by rw [h j.val j.isLt]
  show ({ cls := cA, slots := Array.ofFn (n := 8) fun j => va_rf (f j.val), vm := .none } : Cell) = ({ cls := cA, slots := Array.ofFn (n := 8) fun j => va_rf (g j.val), vm := .none } : Cell)
  rw [e1]
theorem nf_cw_ad {a : Nat → Nat} {M : nf_M} {k : Nat} {q : Nat × va_E} (h : (nf_cw a M)[k]? = some q) : k < 29 ∧ q.1 = a k := by
  have hk : k < 29 := (List.getElem?_eq_some_iff.mp h).1
  refine ⟨hk, ?_⟩
  rcases (show k = 0 ∨ k = 1 ∨ k = 2 ∨ k = 3 ∨ k = 4 ∨ k = 5 ∨ k = 6 ∨ k = 7 ∨ k = 8 ∨ k = 9 ∨ k = 10 ∨ k = 11 ∨ k = 12 ∨ k = 13 ∨ k = 14 ∨ k = 15 ∨ k = 16 ∨ k = 17 ∨ k = 18 ∨ k = 19 ∨ k = 20 ∨ k = 21 ∨ k = 22 ∨ k = 23 ∨ k = 24 ∨ k = 25 ∨ k = 26 ∨ k = 27 ∨ k = 28 by omega) with rfl | rfl | rfl | rfl | rfl | rfl | rfl | rfl | rfl | rfl | rfl | rfl | rfl | rfl | rfl | rfl | rfl | rfl | rfl | rfl | rfl | rfl | rfl | rfl | rfl | rfl | rfl | rfl | rfl
  all_goals cases Option.some.inj h
  all_goals rfl
def nf_G : List Nat := [0, 1, 3, 4, 5, 6, 7, 8, 9, 10, 2, 11, 12, 13, 14, 15, 16, 17, 18, 19, 20, 21, 22, 23, 24, 25, 26, 27, 28]
theorem nf_G_inj : ∀ i, i < 29 → ∀ j, j < 29 → nf_G.getD i 0 = nf_G.getD j 0 → i = j := by decide +kernel
theorem nf_world {D : va_G} {s : State} {H : Heap} {locs : List Loc} {q0 q1 q2 q3 q4 q5 q6 q7 q8 q9 q10 q11 q12 q13 q14 q15 q16 q17 q18 p0 p1 p2 p3 p4 p5 p6 p7 u1 u2 : Nat} {c1 c4 c6 e1 e2 e3 e4 e5 e6 e7 g1 g2 : ClassId} (t0 t1 t2 t3 : Nat) (aK aV : Nat → Nat) (hw : nf_WL D (fun q => s.heap.size ≤ q) s H locs [(q0, .inr (6, [.ref q1, .ref q2, .ref q3, .ref q5, .ref q7, .ref q8, .ref q9, .ref q10])), (q1, .inl (c1, 8, .inr (.inr (.inr (.inr (va_up (va_up (va_up (va_up (va_up (va_up (va_up (va_up (fun _ => none) 0 (some q11)) 1 (some q12)) 2 (some q13)) 3 (some q14)) 4 (some q15)) 5 (some q16)) 6 (some q17)) 7 (some q18))))))), (q2, .inr (4, [.int (-1), .long 0, .int 0, .double 0])), (q3, .inr (3, [.ref q4, .int 0])), (q4, .inl (c4, 40, .inl (fun _ => 0))), (q5, .inr (3, [.ref q6, .int 0])), (q6, .inl (c6, 128, .inl (fun _ => 0))), (q7, .inr (1, [.int 0, .int 0, .int 0, .int 0, .long 0, .int 0, .int 0])), (q8, .inr (2, [.int 0, .int 0, .int 0, .int 0, .int 0, .int 0, .int 0, .int 0])), (q9, .inr (0, [.long 0, .int 0])), (q10, .inr (5, [.long 0, .long 0])), (q11, .inr (4, [.int (-1), .long 0, .int 0, .double 0])), (q12, .inr (4, [.int (-1), .long 0, .int 0, .double 0])), (q13, .inr (4, [.int (-1), .long 0, .int 0, .double 0])), (q14, .inr (4, [.int (-1), .long 0, .int 0, .double 0])), (q15, .inr (4, [.int (-1), .long 0, .int 0, .double 0])), (q16, .inr (4, [.int (-1), .long 0, .int 0, .double 0])), (q17, .inr (4, [.int (-1), .long 0, .int 0, .double 0])), (q18, .inr (4, [.int (-1), .long 0, .int 0, .double 0])), (p0, .inr (7, [.int 0, .int 0, .ref p1, .int 0, .ref p2, .ref p3, .ref p4, .ref p5, .ref p6, .int 0, .long 0, .int 0, .double 0, .int 0, .ref p7, .int 0, .int 0, .int 0, .int 0])), (p1, .inl (e1, 40, .inl (fun _ => 0))), (p2, .inl (e2, 400, .inl (fun _ => 0))), (p3, .inl (e3, 8, .inl (upd (upd (upd (upd (upd (upd (upd (upd (fun _ => 0) 0 (-1)) 1 (-1)) 2 (-1)) 3 (-1)) 4 (-1)) 5 (-1)) 6 (-1)) 7 (-1)))), (p4, .inl (e4, 8, .inr (.inl (fun _ => 0)))), (p5, .inl (e5, 8, .inl (fun _ => 0))), (p6, .inl (e6, 8, .inr (.inr (.inr (.inl (fun _ => 0)))))), (p7, .inl (e7, 80, .inl (fun _ => 0))), (u1, .inl (g1, 1, .inr (.inl (fun _ => 0)))), (u2, .inl (g2, 1, .inr (.inr (.inr (.inl (fun _ => 0))))))] [(c1, .object "NumberForge$Value"), (c4, .char), (c6, .char), (e1, .int), (e2, .int), (e3, .int), (e4, .long), (e5, .int), (e6, .double), (e7, .int), (g1, .long), (g2, .double)]) :
    ∃ a : Nat → Nat, (a 40 = t0 ∧ a 41 = t1 ∧ a 42 = t2 ∧ a 43 = t3 ∧ (∀ i, i < 20 → a (100 + i) = aK i) ∧ (∀ i, i < 5 → a (130 + i) = aV i)) ∧ (a 0 = q0 ∧ a 19 = p0 ∧ a 27 = u1 ∧ a 28 = u2) ∧ nf_W D a s s.heap.size H [] nf_M0 ∧ va_K D nf_cl (nf_ty a) s ∧ ∀ k, k < 29 → s.heap.size ≤ a k := by
  obtain ⟨hP, hD, hS, hK⟩ := hw
  have key : ∀ k, k < 29 → ∃ e : va_E, ([(q0, .inr (6, [.ref q1, .ref q2, .ref q3, .ref q5, .ref q7, .ref q8, .ref q9, .ref q10])), (q1, .inl (c1, 8, .inr (.inr (.inr (.inr (va_up (va_up (va_up (va_up (va_up (va_up (va_up (va_up (fun _ => none) 0 (some q11)) 1 (some q12)) 2 (some q13)) 3 (some q14)) 4 (some q15)) 5 (some q16)) 6 (some q17)) 7 (some q18))))))), (q2, .inr (4, [.int (-1), .long 0, .int 0, .double 0])), (q3, .inr (3, [.ref q4, .int 0])), (q4, .inl (c4, 40, .inl (fun _ => 0))), (q5, .inr (3, [.ref q6, .int 0])), (q6, .inl (c6, 128, .inl (fun _ => 0))), (q7, .inr (1, [.int 0, .int 0, .int 0, .int 0, .long 0, .int 0, .int 0])), (q8, .inr (2, [.int 0, .int 0, .int 0, .int 0, .int 0, .int 0, .int 0, .int 0])), (q9, .inr (0, [.long 0, .int 0])), (q10, .inr (5, [.long 0, .long 0])), (q11, .inr (4, [.int (-1), .long 0, .int 0, .double 0])), (q12, .inr (4, [.int (-1), .long 0, .int 0, .double 0])), (q13, .inr (4, [.int (-1), .long 0, .int 0, .double 0])), (q14, .inr (4, [.int (-1), .long 0, .int 0, .double 0])), (q15, .inr (4, [.int (-1), .long 0, .int 0, .double 0])), (q16, .inr (4, [.int (-1), .long 0, .int 0, .double 0])), (q17, .inr (4, [.int (-1), .long 0, .int 0, .double 0])), (q18, .inr (4, [.int (-1), .long 0, .int 0, .double 0])), (p0, .inr (7, [.int 0, .int 0, .ref p1, .int 0, .ref p2, .ref p3, .ref p4, .ref p5, .ref p6, .int 0, .long 0, .int 0, .double 0, .int 0, .ref p7, .int 0, .int 0, .int 0, .int 0])), (p1, .inl (e1, 40, .inl (fun _ => 0))), (p2, .inl (e2, 400, .inl (fun _ => 0))), (p3, .inl (e3, 8, .inl (upd (upd (upd (upd (upd (upd (upd (upd (fun _ => 0) 0 (-1)) 1 (-1)) 2 (-1)) 3 (-1)) 4 (-1)) 5 (-1)) 6 (-1)) 7 (-1)))), (p4, .inl (e4, 8, .inr (.inl (fun _ => 0)))), (p5, .inl (e5, 8, .inl (fun _ => 0))), (p6, .inl (e6, 8, .inr (.inr (.inr (.inl (fun _ => 0)))))), (p7, .inl (e7, 80, .inl (fun _ => 0))), (u1, .inl (g1, 1, .inr (.inl (fun _ => 0)))), (u2, .inl (g2, 1, .inr (.inr (.inr (.inl (fun _ => 0))))))] : va_W)[nf_G.getD k 0]? = some ((nf_mkA [q0, q1, q3, q4, q5, q6, q7, q8, q9, q10, q2, q11, q12, q13, q14, q15, q16, q17, q18, p0, p1, p2, p3, p4, p5, p6, p7, u1, u2] [0, 0, 0, 0, 0, 0, 0, c1, 0, c4, 0, c6, 0, 0, 0, 0, 0, 0, 0, 0, 0, 0, 0, 0, 0, 0, e1, e2, e3, e4, e5, e6, e7, g1, g2] t0 t1 t2 t3 aK aV) k, e) := fun k hk => by
    rcases (show k = 0 ∨ k = 1 ∨ k = 2 ∨ k = 3 ∨ k = 4 ∨ k = 5 ∨ k = 6 ∨ k = 7 ∨ k = 8 ∨ k = 9 ∨ k = 10 ∨ k = 11 ∨ k = 12 ∨ k = 13 ∨ k = 14 ∨ k = 15 ∨ k = 16 ∨ k = 17 ∨ k = 18 ∨ k = 19 ∨ k = 20 ∨ k = 21 ∨ k = 22 ∨ k = 23 ∨ k = 24 ∨ k = 25 ∨ k = 26 ∨ k = 27 ∨ k = 28 by omega) with rfl | rfl | rfl | rfl | rfl | rfl | rfl | rfl | rfl | rfl | rfl | rfl | rfl | rfl | rfl | rfl | rfl | rfl | rfl | rfl | rfl | rfl | rfl | rfl | rfl | rfl | rfl | rfl | rfl
    all_goals exact ⟨_, rfl⟩
  refine ⟨nf_mkA [q0, q1, q3, q4, q5, q6, q7, q8, q9, q10, q2, q11, q12, q13, q14, q15, q16, q17, q18, p0, p1, p2, p3, p4, p5, p6, p7, u1, u2] [0, 0, 0, 0, 0, 0, 0, c1, 0, c4, 0, c6, 0, 0, 0, 0, 0, 0, 0, 0, 0, 0, 0, 0, 0, 0, e1, e2, e3, e4, e5, e6, e7, g1, g2] t0 t1 t2 t3 aK aV, ⟨rfl, rfl, rfl, rfl, fun i hi => ?_, fun i hi => ?_⟩, ⟨rfl, rfl, rfl, rfl⟩, ⟨fun k q hk => ?_, ⟨fun i j p q hi hj hpq => ?_, fun k q hk => nf_A_in hk⟩, hS.1, fun q hq hn => hS.2.1 q hq (fun h => hn (Or.inr h)), fun q hq => absurd hq (List.not_mem_nil)⟩, hK, fun k hk => ?_⟩
  · unfold nf_mkA
    rw [if_neg (by omega), if_neg (by omega), if_neg (by omega), if_neg (by omega), if_pos (by omega), Nat.add_sub_cancel_left]
  · unfold nf_mkA
    rw [if_neg (by omega), if_neg (by omega), if_neg (by omega), if_neg (by omega), if_neg (by omega), Nat.add_sub_cancel_left]
  · have hk29 := (nf_cw_ad hk).1
    rcases (show k = 0 ∨ k = 1 ∨ k = 2 ∨ k = 3 ∨ k = 4 ∨ k = 5 ∨ k = 6 ∨ k = 7 ∨ k = 8 ∨ k = 9 ∨ k = 10 ∨ k = 11 ∨ k = 12 ∨ k = 13 ∨ k = 14 ∨ k = 15 ∨ k = 16 ∨ k = 17 ∨ k = 18 ∨ k = 19 ∨ k = 20 ∨ k = 21 ∨ k = 22 ∨ k = 23 ∨ k = 24 ∨ k = 25 ∨ k = 26 ∨ k = 27 ∨ k = 28 by omega) with rfl | rfl | rfl | rfl | rfl | rfl | rfl | rfl | rfl | rfl | rfl | rfl | rfl | rfl | rfl | rfl | rfl | rfl | rfl | rfl | rfl | rfl | rfl | rfl | rfl | rfl | rfl | rfl | rfl
    · cases Option.some.inj hk
      exact hP 0 _ rfl
    · cases Option.some.inj hk
      have h := hP 1 _ rfl
      have h2 : H[q1]? = some (vp_cell c1 (8, .inr (.inr (.inr (.inr (va_up (va_up (va_up (va_up (va_up (va_up (va_up (va_up (fun _ => none) 0 (some q11)) 1 (some q12)) 2 (some q13)) 3 (some q14)) 4 (some q15)) 5 (some q16)) 6 (some q17)) 7 (some q18))))))) := h
      rw [nf_arr8 c1 _ (fun i => some ((nf_mkA [q0, q1, q3, q4, q5, q6, q7, q8, q9, q10, q2, q11, q12, q13, q14, q15, q16, q17, q18, p0, p1, p2, p3, p4, p5, p6, p7, u1, u2] [0, 0, 0, 0, 0, 0, 0, c1, 0, c4, 0, c6, 0, 0, 0, 0, 0, 0, 0, 0, 0, 0, 0, 0, 0, 0, e1, e2, e3, e4, e5, e6, e7, g1, g2] t0 t1 t2 t3 aK aV) (11 + i))) (fun i hi => by
        rcases (show i = 0 ∨ i = 1 ∨ i = 2 ∨ i = 3 ∨ i = 4 ∨ i = 5 ∨ i = 6 ∨ i = 7 by omega) with rfl | rfl | rfl | rfl | rfl | rfl | rfl | rfl
        all_goals rfl)] at h2
      exact h2
    · cases Option.some.inj hk
      exact hP 3 _ rfl
    · cases Option.some.inj hk
      exact hP 4 _ rfl
    · cases Option.some.inj hk
      exact hP 5 _ rfl
    · cases Option.some.inj hk
      exact hP 6 _ rfl
    · cases Option.some.inj hk
      exact hP 7 _ rfl
    · cases Option.some.inj hk
      exact hP 8 _ rfl
    · cases Option.some.inj hk
      exact hP 9 _ rfl
    · cases Option.some.inj hk
      exact hP 10 _ rfl
    · cases Option.some.inj hk
      exact hP 2 _ rfl
    · cases Option.some.inj hk
      exact hP 11 _ rfl
    · cases Option.some.inj hk
      exact hP 12 _ rfl
    · cases Option.some.inj hk
      exact hP 13 _ rfl
    · cases Option.some.inj hk
      exact hP 14 _ rfl
    · cases Option.some.inj hk
      exact hP 15 _ rfl
    · cases Option.some.inj hk
      exact hP 16 _ rfl
    · cases Option.some.inj hk
      exact hP 17 _ rfl
    · cases Option.some.inj hk
      exact hP 18 _ rfl
    · cases Option.some.inj hk
      exact hP 19 _ rfl
    · cases Option.some.inj hk
      exact hP 20 _ rfl
    · cases Option.some.inj hk
      exact hP 21 _ rfl
    · cases Option.some.inj hk
      exact hP 22 _ rfl
    · cases Option.some.inj hk
      exact hP 23 _ rfl
    · cases Option.some.inj hk
      exact hP 24 _ rfl
    · cases Option.some.inj hk
      exact hP 25 _ rfl
    · cases Option.some.inj hk
      exact hP 26 _ rfl
    · cases Option.some.inj hk
      exact hP 27 _ rfl
    · cases Option.some.inj hk
      exact hP 28 _ rfl
  · obtain ⟨i29, ei⟩ := nf_cw_ad hi
    obtain ⟨j29, ej⟩ := nf_cw_ad hj
    obtain ⟨x, hxi⟩ := key i i29
    obtain ⟨y, hyj⟩ := key j j29
    exact nf_G_inj i i29 j j29 (hD.1 _ _ _ _ hxi hyj (by show (nf_mkA [q0, q1, q3, q4, q5, q6, q7, q8, q9, q10, q2, q11, q12, q13, q14, q15, q16, q17, q18, p0, p1, p2, p3, p4, p5, p6, p7, u1, u2] [0, 0, 0, 0, 0, 0, 0, c1, 0, c4, 0, c6, 0, 0, 0, 0, 0, 0, 0, 0, 0, 0, 0, 0, 0, 0, e1, e2, e3, e4, e5, e6, e7, g1, g2] t0 t1 t2 t3 aK aV) i = (nf_mkA [q0, q1, q3, q4, q5, q6, q7, q8, q9, q10, q2, q11, q12, q13, q14, q15, q16, q17, q18, p0, p1, p2, p3, p4, p5, p6, p7, u1, u2] [0, 0, 0, 0, 0, 0, 0, c1, 0, c4, 0, c6, 0, 0, 0, 0, 0, 0, 0, 0, 0, 0, 0, 0, 0, 0, e1, e2, e3, e4, e5, e6, e7, g1, g2] t0 t1 t2 t3 aK aV) j; rw [← ei, ← ej, hpq]))
  · obtain ⟨x, hxk⟩ := key k hk
    exact hD.2 _ _ hxk
theorem nf_begin {p : Program} {e : Env} {s : State} {m : MethodId} {below : List Frame} {meth : Method} {c : Code} {l : Launch} {Inv : nf_M → Prop} (hI : Inv nf_M0) (hstep : nf_step Inv) (hfl : l.flags = flags0) {b L : Nat} {xs : Nat → Int32} {ls : Array Slot} (hL : L ≤ 2560) (C0 : lw_At p s m meth c b L xs) (hl : lv_has ls 9 (lv_args 0 [.ref b])) : W p l e room_1 s m #[Value.ref b] below meth c s.heap [] 0 0 (lw_Z below #[Value.ref b] s) (F0 m 0 ls []) := by
  obtain ⟨hx, hb, hret, hml, hown, hts, hX, hbl, hlk, h0⟩ := C0
  obtain ⟨D, hKD⟩ := nf_Kbegin hts
  have hNW := nf_NWbegin hts
  have hAO : va_AO "NumberForge$Value" s := va_AO.of (nf_tw hts nf_t3.2.2.2)
  have hg := nf_gw hts
  obtain ⟨t0, t1, t2, t3, aK, aV, hST⟩ := nf_STbegin hts h0
  have hNC := nf_NCbegin h0
  have hb : c.code = nb_L_law := hb
  have hl : lv_has ls 9 [(0, .ref b)] := hl
  have hA : ∀ q, s.heap.size ≤ q → (fun q => s.heap.size ≤ q) q := fun q h => h
  have hw : nf_WL D (fun q => s.heap.size ≤ q) s s.heap [] [] [] := ⟨fun k q h => by simp at h, ⟨fun i j p q h => by simp at h, fun k q h => by simp at h⟩, va_S.rf, hKD⟩
  refine nf_newL (own := nr_L) (T := nt_F) (N := 8) hx hb hown hg hA hw 6 rfl ni_F ny_F nq_F nw_23 nw_24 nw_1 [.null, .null, .null, .null, .null, .null, .null, .null] (fun j hj => nf_dvF j hj) (Nat.le_of_ble_eq_true rfl) (Nat.le_of_ble_eq_true rfl) d_L_law_0 (fun q0 H hw => ?_)
  refine lv_dup hx hb d_L_law_3 rfl ?_
  refine nf_callL (As := [.ref q0]) (st0 := [.ref q0, .ref q0]) (rest := [.ref q0]) hg hNW hAO hml hA hw (nf_invI hx hb hown rfl (hg _ nw_25) (hg _ nw_26) (hg _ nw_27) ⟨by decide, by decide⟩ rfl nl_F_init rfl d_L_law_4) (c_F_init l q0) nw_27 nw_1 ⟨Nat.le_of_ble_eq_true rfl, Nat.le_of_ble_eq_true rfl⟩ (Nat.le_of_ble_eq_true rfl) hl.1 ⟨Nat.le_of_ble_eq_true rfl, Nat.le_of_ble_eq_true rfl⟩ (fun ws1 tys1 H locs hp hw => ?_)
  obtain ⟨q1, q2, q3, q4, q5, q6, q7, q8, q9, q10, q11, q12, q13, q14, q15, q16, q17, q18, c1, c4, c6, rfl, rfl⟩ := hp
  refine W.eq (g2 := F0 m 7 ls [.ref q0]) rfl ?_
  refine lv_astore_n (lv' := [(1, .ref q0), (0, .ref b)]) hx hb d_L_law_7 rfl hl (by decide) rfl (fun ls hl => ?_)
  refine nf_newL (own := nr_L) (T := nt_M) (N := 19) hx hb hown hg hA hw 7 rfl ni_M ny_M nq_M nw_925 nw_926 nw_9 [.int 0, .int 0, .null, .int 0, .null, .null, .null, .null, .null, .int 0, .long 0, .int 0, .double 0, .int 0, .null, .int 0, .int 0, .int 0, .int 0] (fun j hj => nf_dvM j hj) (Nat.le_of_ble_eq_true rfl) (Nat.le_of_ble_eq_true rfl) d_L_law_8 (fun p0 H hw => ?_)
  refine lv_dup hx hb d_L_law_11 rfl ?_
  refine nf_callL (As := [.ref p0]) (st0 := [.ref p0, .ref p0]) (rest := [.ref p0]) hg hNW hAO hml hA hw (nf_invI hx hb hown rfl (hg _ nw_927) (hg _ nw_928) (hg _ nw_929) ⟨by decide, by decide⟩ rfl nl_M_init rfl d_L_law_12) (c_M_init l _ _ p0) nw_929 nw_9 ⟨Nat.le_of_ble_eq_true rfl, Nat.le_of_ble_eq_true rfl⟩ (Nat.le_of_ble_eq_true rfl) hl.1 ⟨Nat.le_of_ble_eq_true rfl, Nat.le_of_ble_eq_true rfl⟩ (fun ws1 tys1 H locs hp hw => ?_)
  obtain ⟨p1, p2, p3, p4, p5, p6, p7, e1, e2, e3, e4, e5, e6, e7, rfl, rfl⟩ := hp
  refine W.eq (g2 := F0 m 15 ls [.ref p0]) rfl ?_
  refine lv_astore_n (lv' := [(2, .ref p0), (1, .ref q0), (0, .ref b)]) hx hb d_L_law_15 rfl hl (by decide) rfl (fun ls hl => ?_)
  refine lv_iconst (v := (1 : Int32)) hx hb d_L_law_16 (by decide) ?_
  refine nf_newaL (N' := 1) (ty := .long) hx hb hg hA hw nw_990 rfl (1, .inr (.inl (fun _ => 0))) (fun _ => rfl) (by decide) rfl (by decide) (Nat.le_of_ble_eq_true rfl) (Nat.le_of_ble_eq_true rfl) d_L_law_17 (fun u1 g1 H hw => ?_)
  refine lv_astore_n (lv' := [(3, .ref u1), (2, .ref p0), (1, .ref q0), (0, .ref b)]) hx hb d_L_law_19 rfl hl (by decide) rfl (fun ls hl => ?_)
  refine lv_iconst (v := (1 : Int32)) hx hb d_L_law_20 (by decide) ?_
  refine nf_newaL (N' := 1) (ty := .double) hx hb hg hA hw nw_991 rfl (1, .inr (.inr (.inr (.inl (fun _ => 0))))) (fun _ => rfl) (by decide) rfl (by decide) (Nat.le_of_ble_eq_true rfl) (Nat.le_of_ble_eq_true rfl) d_L_law_21 (fun u2 g2 H hw => ?_)
  refine lv_astore (lv' := [(4, .ref u2), (3, .ref u1), (2, .ref p0), (1, .ref q0), (0, .ref b)]) hx hb d_L_law_23 hl (by decide) rfl (fun ls hl => ?_)
  refine lv_iconst (v := (0 : Int32)) hx hb d_L_law_25 (by decide) ?_
  refine lv_istore (lv' := [(5, .int (0 : Int32)), (4, .ref u2), (3, .ref u1), (2, .ref p0), (1, .ref q0), (0, .ref b)]) hx hb d_L_law_26 hl (by decide) rfl (fun ls hl => ?_)
  refine va_forget (fun q hq => hw.2.2.1.2.2 q hq) ?_
  obtain ⟨a, ⟨a0, a1, a2, a3, a4, a5⟩, ⟨b0, b1, b2, b3⟩, hW, hK, hsz⟩ := nf_world t0 t1 t2 t3 aK aV hw
  obtain ⟨hst, hNS⟩ := hST a a0 a1 a2 a3 a4 a5
  have K : nf_KW p s m #[Value.ref b] meth c nr_L nb_L_law 9 D a := ⟨hx, hb, hml, hown, hg, trivial, trivial, trivial, hK, nf_st_narrow hst (fun q hq => by
    rcases hq with ⟨k, hk, e1⟩ | h
    · rw [e1]; exact hsz k hk
    · exact h), hNW, hNS, hNC, hsz⟩
  subst b0 b1 b2 b3
  refine W.eq (g2 := F0 m 28 ls []) rfl ?_
  refine W.widen (k := 30 + 40 * 0) (n := 900 + 240 * 0) (Nat.le_of_ble_eq_true rfl) (Nat.le_of_ble_eq_true rfl) ?_
  exact nf_loop hstep hfl K hX hbl hL hret hlk 513 0 nf_M0 H ls rfl (Nat.zero_le _) hI (lv_sub hl [5, 4, 3, 2, 1, 0] rfl) hW
theorem whole_start {p : Program} {e : Env} {s : State} {m : MethodId} {below : List Frame} {meth : Method} {c : Code} (l : Launch) {Inv : nf_M → Prop} (hI : Inv nf_M0) (hstep : nf_step Inv) (hfl : l.flags = flags0) {b L : Nat} {xs : Nat → Int32} (hL : L ≤ 2560) (C0 : lw_At p s m meth c b L xs) : W p l e room_1 s m #[Value.ref b] below meth c s.heap [] 0 0 (lw_Z below #[Value.ref b] s) (entryFrame m ([Value.ref b] : List Value).toArray 9) := by
  rw [lg_entry_eq]
  exact nf_begin hI hstep hfl hL C0 (lv_entry [Value.ref b] (Nat.le_of_ble_eq_true rfl))
