/-! the law's start: what the Statement gives of it, as facts over addresses -/
abbrev nf_c0 : Cond := Jvm.Cond.and given_1 narrow_1
theorem nf_tw {w : Cond} {args : Array Value} {s : State} (hts : ∀ w ∈ lw_tbl, w.before args s = true) (h : w ∈ tables_1) : w.before args s = true := hts w (List.mem_append_right _ h)
theorem nf_gw {args : Array Value} {s : State} (hts : ∀ w ∈ lw_tbl, w.before args s = true) : ∀ w ∈ nf_good, w.before args s = true := fun w h => hts w (List.mem_filter.mp h).1
theorem nf_Kbegin {args : Array Value} {s : State} (hts : ∀ w ∈ lw_tbl, w.before args s = true) : ∃ D : va_G, va_K D nf_cl [] s := by
  have hg := nf_gw hts
  obtain ⟨c0, i0, k0⟩ := u_known (n := 2) hg ni_D (hg _ nw_140)
  obtain ⟨c1, i1, k1⟩ := u_known (n := 7) hg ni_N (hg _ nw_78)
  obtain ⟨c2, i2, k2⟩ := u_known (n := 8) hg ni_P (hg _ nw_106)
  obtain ⟨c3, i3, k3⟩ := u_known (n := 2) hg ni_R (hg _ nw_58)
  obtain ⟨c4, i4, k4⟩ := u_known (n := 4) hg ni_V (hg _ nw_33)
  obtain ⟨c5, i5, k5⟩ := u_known (n := 2) hg ni_W (hg _ nw_155)
  obtain ⟨c6, i6, k6⟩ := u_known (n := 8) hg ni_F (hg _ nw_24)
  obtain ⟨c7, i7, k7⟩ := u_known (n := 19) hg ni_M (hg _ nw_926)
  refine ⟨(fun k => [c0, c1, c2, c3, c4, c5, c6, c7].getD k 0, fun k => [i0, i1, i2, i3, i4, i5, i6, i7].getD k i0), fun c q hq => ?_, fun k q hq => by simp at hq⟩
  have hc : c < 8 := (List.getElem?_eq_some_iff.mp hq).1
  rcases (show c = 0 ∨ c = 1 ∨ c = 2 ∨ c = 3 ∨ c = 4 ∨ c = 5 ∨ c = 6 ∨ c = 7 by omega) with rfl | rfl | rfl | rfl | rfl | rfl | rfl | rfl
  all_goals cases Option.some.inj hq
  all_goals assumption
theorem nf_NWbegin {args : Array Value} {s : State} (hts : ∀ w ∈ lw_tbl, w.before args s = true) : nf_NW s := fun w hw => by
  have h := List.mem_filter.mp hw
  refine va_Nw.of ?_ (nf_tw hts h.1)
  have hr := h.2
  cases w <;> first | rfl | (simp [nf_restW] at hr; done)
theorem nf_LSof {args : Array Value} {s : State} {C n d : String} {A : Nat → Prop} (hl : (Cond.laysStatic C n d).before args s = true) (h : (Cond.isRef (.static C n d)).before args s = true) (hA : ∀ a : Nat, a < s.heap.size → ¬ A a) : nf_LS C n d A s s.heap := by
  obtain ⟨c, k, i, f, a, cell, hc, hi, hst, ha, hcell, hs, hcls, hlt, hty⟩ := Cond.laysStatic_spec hl
  obtain ⟨v, hv, hr⟩ := Cond.isRef_spec h
  obtain ⟨-, a', cell', ha', hcell', -, hslot⟩ := Term.static_spec hi hv
  cases ha.symm.trans ha'
  cases hcell.symm.trans hcell'
  exact ⟨c, i, a, k, f, cell, ⟨v, hr⟩, hc, hi, hst, ha, hcell, hs, hcls, hlt, hty, hslot, hA a (Array.getElem?_eq_some_iff.mp hcell).1⟩
def nf_in0 (w : Cond) : Prop := w ∈ flatC nf_c0
theorem nf_i1 : nf_in0 (.isRef (.static tN_n "UNASSIGNED_STACK" "[Ljava/lang/StackTraceElement;")) ∧ nf_in0 (.isRef (.static tN_n "SUPPRESSED_SENTINEL" "Ljava/util/List;")) ∧ nf_in0 (.eq (.static "java/lang/String" "COMPACT_STRINGS" "Z") (.int 1)) ∧ nf_in0 (.isRef (.static "jdk/internal/util/Preconditions" "SIOOBE_FORMATTER" "Ljava/util/function/BiFunction;")) := by unfold nf_in0; decide +kernel
theorem nf_i2 : nf_in0 (.arrayOf (.static "NumberForge" "POWERS" "[J") .long) ∧ nf_in0 (.eq (.length (.static "NumberForge" "POWERS" "[J")) (.int (Int32.ofNat 16))) ∧ ∀ j, j < 16 → nf_in0 (.eq (.elem (.static "NumberForge" "POWERS" "[J") (.int (Int32.ofNat j))) (.long (nf_POW.getD j 0))) := by unfold nf_in0; decide +kernel
theorem nf_i3 : nf_in0 (.arrayOf (.static "NumberForge" "LOWEST" "[J") .long) ∧ nf_in0 (.eq (.length (.static "NumberForge" "LOWEST" "[J")) (.int (Int32.ofNat 8))) ∧ ∀ j, j < 8 → nf_in0 (.eq (.elem (.static "NumberForge" "LOWEST" "[J") (.int (Int32.ofNat j))) (.long (nf_LOW.getD j 0))) := by unfold nf_in0; decide +kernel
theorem nf_i4 : nf_in0 (.arrayOf (.static "NumberForge" "HIGHEST" "[J") .long) ∧ nf_in0 (.eq (.length (.static "NumberForge" "HIGHEST" "[J")) (.int (Int32.ofNat 8))) ∧ ∀ j, j < 8 → nf_in0 (.eq (.elem (.static "NumberForge" "HIGHEST" "[J") (.int (Int32.ofNat j))) (.long (nf_HIGH.getD j 0))) := by unfold nf_in0; decide +kernel
theorem nf_i5 : nf_in0 (.arrayOf (.static "NumberForge" "ROMAN_VALUES" "[I") .int) ∧ nf_in0 (.eq (.length (.static "NumberForge" "ROMAN_VALUES" "[I")) (.int (Int32.ofNat 13))) ∧ ∀ j, j < 13 → nf_in0 (.eq (.elem (.static "NumberForge" "ROMAN_VALUES" "[I") (.int (Int32.ofNat j))) (.int (nf_ROM.getD j 0))) := by unfold nf_in0; decide +kernel
def nf_tm (i : Nat) : Term := .string (nf_strs.getD i ("", 0, "")).1 (nf_strs.getD i ("", 0, "")).2.1
/-- by its place: one comparison, where the search of the list makes hundreds -/
theorem nf_inAt {w : Cond} (k : Nat) (h : (flatC nf_c0)[k]? = some w) : nf_in0 w := List.mem_of_getElem? h
/-- where the characters of the five texts begin -/
def nf_ix : List Nat := [428, 446, 464, 486, 671]
theorem nf_i6at : ∀ i, i < 5 → (flatC nf_c0)[nf_ix.getD i 0 - 4]? = some (.exactly (nf_tm i) "java/lang/String") ∧ (flatC nf_c0)[nf_ix.getD i 0 - 3]? = some (.eq (.field (nf_tm i) "java/lang/String" "coder" "B") (.int 0)) ∧ (flatC nf_c0)[nf_ix.getD i 0 - 2]? = some (.arrayOf (.field (nf_tm i) "java/lang/String" "value" "[B") .byte) ∧ (flatC nf_c0)[nf_ix.getD i 0 - 1]? = some (.eq (.length (.field (nf_tm i) "java/lang/String" "value" "[B")) (.int (Int32.ofNat (nf_lln.getD i 0)))) := by decide +kernel
theorem nf_i6 : ∀ i, i < 5 → nf_in0 (.exactly (nf_tm i) "java/lang/String") ∧ nf_in0 (.eq (.field (nf_tm i) "java/lang/String" "coder" "B") (.int 0)) ∧ nf_in0 (.arrayOf (.field (nf_tm i) "java/lang/String" "value" "[B") .byte) ∧ nf_in0 (.eq (.length (.field (nf_tm i) "java/lang/String" "value" "[B")) (.int (Int32.ofNat (nf_lln.getD i 0)))) := fun i hi => ⟨nf_inAt _ (nf_i6at i hi).1, nf_inAt _ (nf_i6at i hi).2.1, nf_inAt _ (nf_i6at i hi).2.2.1, nf_inAt _ (nf_i6at i hi).2.2.2⟩
theorem nf_i7at : ∀ i, i < 5 → ∀ j, j < nf_lln.getD i 0 → (flatC nf_c0)[nf_ix.getD i 0 + j]? = some (.eq (.elem (.field (nf_tm i) "java/lang/String" "value" "[B") (.int (Int32.ofNat j))) (.int ((nf_ltx.getD i []).getD j 0))) := by decide +kernel
theorem nf_i7 : ∀ i, i < 5 → ∀ j, j < nf_lln.getD i 0 → nf_in0 (.eq (.elem (.field (nf_tm i) "java/lang/String" "value" "[B") (.int (Int32.ofNat j))) (.int ((nf_ltx.getD i []).getD j 0))) := fun i hi j hj => nf_inAt _ (nf_i7at i hi j hj)
/-- where the rows that part each of the five texts from those before it begin -/
def nf_ip : List Nat := [0, 459, 480, 501, 709]
theorem nf_i8at : ∀ j, j < 5 → ∀ i, i < j → (flatC nf_c0)[nf_ip.getD j 0 + i]? = some (.not (.eq (nf_tm i) (nf_tm j))) := by decide +kernel
theorem nf_i8 : ∀ i, i < 5 → ∀ j, j < 5 → i ≠ j → nf_in0 (.not (.eq (nf_tm i) (nf_tm j))) ∨ nf_in0 (.not (.eq (nf_tm j) (nf_tm i))) := fun i hi j hj h => (Nat.lt_or_gt_of_ne h).elim (fun q => .inl (nf_inAt _ (nf_i8at j hj i q))) (fun q => .inr (nf_inAt _ (nf_i8at i hi j q)))
/-- where it stands that the i-th exception is none of the j-th, at 5 * i + j -/
def nf_ic : List Nat := [0, 88, 112, 124, 100, 76, 0, 113, 125, 101, 78, 90, 0, 127, 102, 79, 91, 115, 0, 103, 77, 89, 114, 126, 0]
theorem nf_i9at : ∀ i, i < 5 → ∀ j, j < 5 → i ≠ j → (flatC nf_c0)[nf_ic.getD (5 * i + j) 0]? = some (.not (.castable (nf_exn.getD i "") (nf_exn.getD j ""))) := by decide +kernel
theorem nf_i9 : ∀ i, i < 5 → ∀ j, j < 5 → i ≠ j → nf_in0 (.not (.castable (nf_exn.getD i "") (nf_exn.getD j ""))) := fun i hi j hj h => nf_inAt _ (nf_i9at i hi j hj h)
def nf_ie : List Nat := [424, 442, 460, 482, 667, 128, 148, 185, 218, 230, 259, 289, 313, 348, 365, 382, 401, 504, 570, 613]
theorem nf_i10at : ∀ i, i < 20 → (flatC nf_c0)[nf_ie.getD i 0]? = some (.exactly (nf_tm i) "java/lang/String") := by decide +kernel
theorem nf_i10 : ∀ i, i < 20 → nf_in0 (.exactly (nf_tm i) "java/lang/String") := fun i hi => nf_inAt _ (nf_i10at i hi)
theorem nf_t1 : ∀ i, i < 20 → Cond.stringRef (nf_strs.getD i ("", 0, "")).1 (nf_strs.getD i ("", 0, "")).2.1 (nf_strs.getD i ("", 0, "")).2.2 ∈ tables_1 := by decide +kernel
theorem nf_t2 : Cond.laysStatic tN_n "UNASSIGNED_STACK" "[Ljava/lang/StackTraceElement;" ∈ tables_1 ∧ Cond.laysStatic tN_n "SUPPRESSED_SENTINEL" "Ljava/util/List;" ∈ tables_1 ∧ Cond.laysStatic "NumberForge" "POWERS" "[J" ∈ tables_1 ∧ Cond.laysStatic "NumberForge" "LOWEST" "[J" ∈ tables_1 ∧ Cond.laysStatic "NumberForge" "HIGHEST" "[J" ∈ tables_1 ∧ Cond.laysStatic "NumberForge" "ROMAN_VALUES" "[I" ∈ tables_1 ∧ Cond.laysStatic "java/lang/String" "COMPACT_STRINGS" "Z" ∈ tables_1 ∧ Cond.laysStatic "jdk/internal/util/Preconditions" "SIOOBE_FORMATTER" "Ljava/util/function/BiFunction;" ∈ tables_1 := by decide +kernel
theorem nf_t3 : Cond.initialized "NumberForge" ∈ tables_1 ∧ Cond.initialized "java/lang/String" ∈ tables_1 ∧ Cond.initialized "jdk/internal/util/Preconditions" ∈ tables_1 ∧ Cond.arrayOver (.object "NumberForge$Value") ∈ tables_1 := by decide +kernel
theorem nf_NCbegin {args : Array Value} {s : State} (h0 : nf_c0.before args s = true) : nf_NC s := by
  intro i j n n' hij hi hj
  have hi5 : i < 5 := (List.getElem?_eq_some_iff.mp hi).1
  have hj5 : j < 5 := (List.getElem?_eq_some_iff.mp hj).1
  have e1 : nf_exn.getD i "" = n := by rw [List.getD_eq_getElem?_getD, hi]; rfl
  have e2 : nf_exn.getD j "" = n' := by rw [List.getD_eq_getElem?_getD, hj]; rfl
  have h := nf_i9 i hi5 j hj5 hij
  rw [e1, e2] at h
  exact va_Nc.of (flat_of_before _ h0 _ h)
/-- the texts, the tables: from the start on -/
theorem nf_STbegin {args : Array Value} {s : State} (hts : ∀ w ∈ lw_tbl, w.before args s = true) (h0 : nf_c0.before args s = true) : ∃ (t0 t1 t2 t3 : Nat) (aK aV : Nat → Nat), ∀ a : Nat → Nat, a 40 = t0 → a 41 = t1 → a 42 = t2 → a 43 = t3 → (∀ i, i < 20 → a (100 + i) = aK i) → (∀ i, i < 5 → a (130 + i) = aV i) → nf_st a (fun q => s.heap.size ≤ q) s s.heap ∧ nf_NS a s := by
  have hf := fun w (h : nf_in0 w) => flat_of_before _ h0 w h
  have hA : ∀ a : Nat, a < s.heap.size → ¬ s.heap.size ≤ a := fun a h h' => absurd h' (by omega)
  obtain ⟨t0, e0, T0⟩ := va_Tof (N := 16) (f := fun j => .long (nf_POW.getD j 0)) (A := fun q => s.heap.size ≤ q) (by decide) (hf _ nf_i2.1) (va_eqt (hf _ nf_i2.2.1)) (fun j hj => va_eqtl (hf _ (nf_i2.2.2 j hj))) hA
  obtain ⟨t1, e1, T1⟩ := va_Tof (N := 8) (f := fun j => .long (nf_LOW.getD j 0)) (A := fun q => s.heap.size ≤ q) (by decide) (hf _ nf_i3.1) (va_eqt (hf _ nf_i3.2.1)) (fun j hj => va_eqtl (hf _ (nf_i3.2.2 j hj))) hA
  obtain ⟨t2, e2, T2⟩ := va_Tof (N := 8) (f := fun j => .long (nf_HIGH.getD j 0)) (A := fun q => s.heap.size ≤ q) (by decide) (hf _ nf_i4.1) (va_eqt (hf _ nf_i4.2.1)) (fun j hj => va_eqtl (hf _ (nf_i4.2.2 j hj))) hA
  obtain ⟨t3, e3, T3⟩ := va_Tof (N := 13) (f := fun j => .int (nf_ROM.getD j 0)) (A := fun q => s.heap.size ≤ q) (by decide) (hf _ nf_i5.1) (va_eqt (hf _ nf_i5.2.1)) (fun j hj => va_eqt (hf _ (nf_i5.2.2 j hj))) hA
  obtain ⟨bK, bV, hS, hSe⟩ := vk_Sof (N := 5) (tm := nf_tm) (len := nf_lln) (byt := nf_ltx) (A := fun q => s.heap.size ≤ q) (by decide +kernel) (fun i hi => hf _ (nf_i6 i hi).1) (fun i hi => hf _ (nf_i6 i hi).2.1) (fun i hi => hf _ (nf_i6 i hi).2.2.1) (fun i hi => hf _ (nf_i6 i hi).2.2.2) (fun i hi j hj => hf _ (nf_i7 i hi j hj)) (fun i j hi hj hij => (nf_i8 i hi j hj hij).imp (hf _) (hf _)) hA
  have hx : ∀ i : Nat, ∃ q : Nat, i < 20 → (nf_tm i).eval args s none [] s = some (.ref q) := fun i => by
    by_cases hi : i < 20
    · obtain ⟨q, c, cA, kA, q1, -⟩ := Cond.exactly_spec (args := args) (first := s) (o := none) (s := s) (idx := []) (t := nf_tm i) (cls := "java/lang/String") (hf _ (nf_i10 i hi))
      exact ⟨q, fun _ => q1⟩
    · exact ⟨0, fun h => absurd h hi⟩
  obtain ⟨aK, hK⟩ := Classical.axiomOfChoice hx
  have hKb : ∀ i, i < 5 → bK i = aK i := fun i hi => by
    have h1 := hSe i hi
    rw [hK i (by omega)] at h1
    exact (Value.ref.inj (Option.some.inj h1)).symm
  refine ⟨t0, t1, t2, t3, aK, bV, fun a a0 a1 a2 a3 aKe aVe => ?_⟩
  have hz := nf_t3
  have hl := nf_t2
  refine ⟨⟨?_, by rw [a0]; exact T0, ?_, by rw [a1]; exact T1, ?_, by rw [a2]; exact T2, ?_, by rw [a3]; exact T3, ?_, ?_, ?_, ?_, ?_⟩, fun i q hq => ?_⟩
  · rw [a0]; exact va_Zof (nf_tw hts hl.2.2.1) (nf_tw hts hz.1) e0 hA
  · rw [a1]; exact va_Zof (nf_tw hts hl.2.2.2.1) (nf_tw hts hz.1) e1 hA
  · rw [a2]; exact va_Zof (nf_tw hts hl.2.2.2.2.1) (nf_tw hts hz.1) e2 hA
  · rw [a3]; exact va_Zof (nf_tw hts hl.2.2.2.2.2.1) (nf_tw hts hz.1) e3 hA
  · exact nf_LSof (nf_tw hts hl.1) (hf _ nf_i1.1) hA
  · exact nf_LSof (nf_tw hts hl.2.1) (hf _ nf_i1.2.1) hA
  · refine ⟨fun i hi => ?_, fun i j hi hj e => ?_⟩
    · have h := hS.1 i hi
      have ek : a (100 + i) = bK i := (aKe i (by omega)).trans (hKb i hi).symm
      have ev : a (130 + i) = bV i := aVe i hi
      simp only [ek, ev]
      exact h
    · refine hS.2 i j hi hj ?_
      have e' : a (100 + i) = a (100 + j) := e
      rw [aKe i (by omega), aKe j (by omega)] at e'
      rw [hKb i hi, hKb j hj, e']
  · exact va_Zof (nf_tw hts hl.2.2.2.2.2.2.1) (nf_tw hts hz.2.1) (va_eqi (hf _ nf_i1.2.2.1)) hA
  · exact va_Zqof (nf_tw hts hl.2.2.2.2.2.2.2) (nf_tw hts hz.2.2.1) (hf _ nf_i1.2.2.2) hA
  · have hi : i < 20 := (List.getElem?_eq_some_iff.mp hq).1
    have eq : nf_strs.getD i ("", 0, "") = q := by rw [List.getD_eq_getElem?_getD, hq]; rfl
    rw [aKe i hi]
    have h1 := nf_t1 i hi
    have h2 := hK i hi
    unfold nf_tm at h2
    rw [eq] at h1 h2
    exact vk_R.of (nf_tw hts h1) h2
