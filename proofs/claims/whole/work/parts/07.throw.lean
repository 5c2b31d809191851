/-! throwing: new X(text) with the traces off -/
abbrev nf_chain : List String := ["java/lang/RuntimeException", "java/lang/Exception"]
def nf_spec : List Cond := [.laysStatic tN_n "UNASSIGNED_STACK" "[Ljava/lang/StackTraceElement;", .laysStatic tN_n "SUPPRESSED_SENTINEL" "Ljava/util/List;", .isRef (.static tN_n "UNASSIGNED_STACK" "[Ljava/lang/StackTraceElement;"), .isRef (.static tN_n "SUPPRESSED_SENTINEL" "Ljava/util/List;")]
def nf_inT (w : Cond) : Bool := (decide (w ∈ tables_1) && (goodWord w || nf_restW w)) || decide (w ∈ nf_spec)
theorem nf_LS_lays {A : Nat → Prop} {C n d : String} {s : State} {args : Array Value} (h : nf_LS C n d A s s.heap) : (Cond.laysStatic C n d).before args s = true := by
  obtain ⟨c, i, x, k, f, cell, r, h0, h1, h2, h3, h4, h5, h6, h7, h8, h9, h10⟩ := h
  exact Cond.laysStatic_of h0 h1 h2 h3 h4 h5 h6 h7 h8
theorem nf_LS_ref {A : Nat → Prop} {C n d : String} {s : State} {args : Array Value} (h : nf_LS C n d A s s.heap) : (Cond.isRef (.static C n d)).before args s = true := by
  obtain ⟨c, i, x, k, f, cell, r, h0, h1, h2, h3, h4, h5, h6, h7, h8, h9, h10⟩ := h
  have he : (Term.static C n d).eval args s none [] s = some r.v := by simp [Term.eval, State.fieldNamed?, h1, h2, h3, h4, h5, h9]
  simp only [Cond.before, Cond.holds, Cond.value]
  rw [he]
  obtain ⟨v, hv⟩ := r
  cases v <;> simp [Value.isRef] at hv <;> rfl
section NF4
variable {p : Program} {l : Launch} {e : Env} {R : Room} {s : State} {m : MethodId} {args : Array Value} {below : List Frame} {meth : Method} {c : Code} {H : Heap} {locs : List Loc} {cells slots : Nat} {Q : State → Prop}
variable {own : String} {cc : ByteArray} {nL : Nat} {ret : Option FieldType} {D : va_G} {a : Nat → Nat} {sz : Nat} {M : nf_M} {pc : Nat} {ls : Array Slot} {rest : List Value}
theorem nf_Kall (K : nf_K p s m args meth c own cc nL ret D a sz) {w : Cond} (h : nf_inT w = true) : w.before args s = true := by
  have hst := K.2.2.2.2.2.2.2.2.2.1
  simp only [nf_inT, Bool.or_eq_true, Bool.and_eq_true, decide_eq_true_eq] at h
  rcases h with ⟨h1, h2 | h2⟩ | h
  · exact nf_Kg K (nf_inG h1 h2)
  · refine (nf_Kr K (nf_inR h1 h2)).use ?_
    cases w <;> first | rfl | (simp [nf_restW] at h2; done)
  · simp only [nf_spec, List.mem_cons, List.not_mem_nil, or_false] at h
    rcases h with rfl | rfl | rfl | rfl
    · exact nf_LS_lays hst.2.2.2.2.2.2.2.2.1
    · exact nf_LS_lays hst.2.2.2.2.2.2.2.2.2.1
    · exact nf_LS_ref hst.2.2.2.2.2.2.2.2.1
    · exact nf_LS_ref hst.2.2.2.2.2.2.2.2.2.1
set_option maxHeartbeats 2000000 in
/-- the constructor of a text, then athrow: the method ends with that object; every other cell is as it was -/
theorem nf_ctorThrow {W : State} (X : Stand p l e R s m args below meth c W locs cells slots) (hexec : p.tables.exec = Jvm.exec) (htr : e.platform.stackTraces = false) {cls : String} {ic : Nat}
    (hown : s.vm.findClass own = some m.cls) (hcls : Jvm.Bundle.fit cls = true) (h : ∀ w ∈ Jvm.Bundle.ownAtoms own ic cls nf_chain, w.before args s = true)
    (hlocs : ∀ x ∈ locs, ∀ cell, s.heap[x.base]? = some cell → cell.vm.isStatics = false)
    {x : Addr} {cX : ClassId} {kX : Class} (hfoundX : s.vm.findClass cls = some cX) (hkX : s.vm.classes[cX]? = some kX) (hcell : W.heap[x]? = some (freshCell cX kX)) (hnew : s.heap.size ≤ x) {msg : Value} (hmsg : msg.isRef = true)
    {g : JFrame} (hg : g.method = m) (hsize : g.locals.size = c.maxLocals) (hlocked : g.locked = none) (hentered : g.entered = []) {rest : List Value} (hstack : g.stack = msg :: .ref x :: .ref x :: rest)
    (hd6 : decode c.code g.pc = .ok (.invokespecial ic, 3)) (hd9 : decode c.code (g.pc + 3) = .ok (.athrow, 1)) (hout : ∀ z ∈ c.exceptionTable.toList, covers z (g.pc + 3) = false)
    (hRframes : 5 < R.frames) (hRlocals : 2 * g.monitorRoom + ((Value.ref x :: rest).map fun v => v.category).sum + 81 ≤ R.locals) (hlocks : meth.locks = false) :
    ∃ U : State, Steps p.tables e below (W.setTop g) U ∧ U.status = .running ∧ Ended U below (.threw x) ∧ s.WarmedH U.vm ∧ s.sameButNew ({ U with vm := s.vm } : State) locs cells slots ∧
      U.heap.size = W.heap.size ∧ (∀ q, q ≠ x → U.heap[q]? = W.heap[q]?) ∧ ∃ ce, U.heap[x]? = some ce ∧ ce.cls = cX ∧ ce.vm = .none := by
  have hpl : e.platform.magicAccessors = ({} : Platform).magicAccessors := by rw [X.admits.platform]
  have hat : ∀ w, w ∈ Jvm.Bundle.ownAtoms own ic cls nf_chain → w.holds args s none s [] = true := fun w hw => h w hw
  have hnames : ∀ n ∈ nf_chain, Jvm.Bundle.fit n = true := by decide
  obtain ⟨T, Z0, L, -, Y⟩ := Jvm.ThrowableC.of_atoms (args := args) (by rw [X.admits.platform]) (by rw [X.admits.platform]) hpl (fun w hw => h w (by simp [Jvm.Bundle.ownAtoms, hw]))
  obtain ⟨Z, N, LZ, LN, hnZ⟩ := Jvm.Init0T.ofS_atoms (args := args) hpl L Y (fun w hw => h w (by simp [Jvm.Bundle.ownAtoms, hw]))
  obtain ⟨P1, Ps, hlen, L1, hL, hP1, hlink1, hlink⟩ := Jvm.Bundle.chainS (args := args) hpl hnZ nf_chain cls hcls hnames (fun w hw => h w (by simp [Jvm.Bundle.ownAtoms, hw]))
  have hfP : s.vm.findClass cls = some P1.m.cls := findClass_of_methodNamed hP1
  cases Option.some.inj (hfoundX.symm.trans hfP)
  obtain ⟨c1, k1, hc1, hk1, hord, -, -, -⟩ := Cond.instantiable_spec (hat (.instantiable cls 6) (by simp [Jvm.Bundle.ownAtoms]))
  cases Option.some.inj (hc1.symm.trans hfP)
  cases Option.some.inj (hkX.symm.trans hk1)
  have hsel : ∀ {y : MethodName} {q : MethodId}, Cond.selects cls y y ∈ Jvm.Bundle.ownAtoms own ic cls nf_chain → s.methodNamed? y = some q → (y.cls ≠ "java/lang/invoke/MethodHandle" ∧ y.cls ≠ "java/lang/invoke/VarHandle") → selectMethod e.platform s.vm P1.m.cls q = .method q := fun {y q} hw hq hy => by
    obtain ⟨c2, r2, m2, q1, q2, q3, q4, -⟩ := Cond.selects_spec (hat _ hw)
    cases Option.some.inj (q1.symm.trans hfP)
    cases Option.some.inj (q2.symm.trans (State.methodFound?_of_named hq hy))
    cases Option.some.inj (q3.symm.trans hq)
    rw [Launch.admits_selectMethod X.admits]; exact q4
  have hsel0 := hsel (y := Jvm.Bundle.tFill0) (by simp [Jvm.Bundle.ownAtoms]) Y.fill0 (by decide)
  have hselF := hsel (y := Jvm.Bundle.tFill) (by simp [Jvm.Bundle.ownAtoms]) Y.fill (by decide)
  obtain ⟨cS, hcS, hiss⟩ := Y.statics
  obtain ⟨u0, hu0⟩ := Cond.staticRefV Y.unassigned L.unassignedStatic L.statics hcS hiss (hat (.isRef (.static Jvm.Bundle.tN "UNASSIGNED_STACK" Jvm.Bundle.steD)) (by simp [Jvm.Bundle.ownAtoms]))
  obtain ⟨sen, hsen⟩ := Cond.staticRefV Y.sentinel L.sentinelStatic L.statics hcS hiss (hat (.isRef (.static Jvm.Bundle.tN "SUPPRESSED_SENTINEL" Jvm.Bundle.listD)) (by simp [Jvm.Bundle.ownAtoms]))
  obtain ⟨ci, i, fB, hkB, hgB, haB, hsB, -, hnB, htB, hfB⟩ := Cond.ownField (t := .object "java/lang/Object") Y.found L.cls (by decide +kernel) (hat (.fieldLink Jvm.Bundle.tN 198 Jvm.Bundle.tN "backtrace" "Ljava/lang/Object;") (by simp [Jvm.Bundle.ownAtoms])) (hat (.lays Jvm.Bundle.tN Jvm.Bundle.tN "backtrace" "Ljava/lang/Object;") (by simp [Jvm.Bundle.ownAtoms])) e.platform hpl
  obtain ⟨cS', hcS', heS, -, hkeep⟩ := X.same.2.2.2.2.2 T.aS cS hcS
  have hcSW : W.heap[T.aS]? = some cS' := hcS'
  have hfree : ∀ j, (⟨T.aS, j⟩ : Loc) ∉ locs := fun j hm => by
    have := hlocs _ hm cS hcS
    rw [hiss] at this; cases this
  have hknown : cS'.vm ≠ .unknown := by
    rw [heS]; intro hu
    rw [show cS.vm = .unknown from hu] at hiss
    cases hiss
  have hne : T.aS ≠ x := Nat.ne_of_lt (Nat.lt_of_lt_of_le (Array.getElem?_eq_some_iff.mp hcS).1 hnew)
  obtain ⟨iM, hfM⟩ := Y.msg
  obtain ⟨tyC, dC, hdC, hdnC⟩ := Cond.laysAt hfP hkX Y.cause (hat (.lays cls Jvm.Bundle.tN "cause" "Ljava/lang/Throwable;") (by simp [Jvm.Bundle.ownAtoms]))
  obtain ⟨tyS, dS, hdS, hdnS⟩ := Cond.laysAt hfP hkX Y.stack (hat (.lays cls Jvm.Bundle.tN "stackTrace" Jvm.Bundle.steD) (by simp [Jvm.Bundle.ownAtoms]))
  obtain ⟨tyP, dP, hdP, hdnP⟩ := Cond.laysAt hfP hkX Y.supp (hat (.lays cls Jvm.Bundle.tN "suppressedExceptions" Jvm.Bundle.listD) (by simp [Jvm.Bundle.ownAtoms]))
  obtain ⟨tyM, -, -, -⟩ := Cond.laysAt hfP hkX hfM (hat (.lays cls Jvm.Bundle.tN "detailMessage" "Ljava/lang/String;") (by simp [Jvm.Bundle.ownAtoms]))
  obtain ⟨tyB, dB, hdB, hdnB⟩ := Cond.laysAt hfP hkX hfB (hat (.lays cls Jvm.Bundle.tN "backtrace" "Ljava/lang/Object;") (by simp [Jvm.Bundle.ownAtoms]))
  have b1 := Cond.laysApart hdB hdC hdnB hdnC (by rw [hnB, Y.causeName]; decide)
  have b2 := Cond.laysApart hdB hdS hdnB hdnS (by rw [hnB, Y.stackName]; decide)
  have b3 := Cond.laysApart hdB hdP hdnB hdnP (by rw [hnB, Y.suppName]; decide)
  have hskip : SkipFacts T e.platform s (fun u => u) u0 ((preparedCellV T.toThrowableT (freshCell P1.m.cls kX) x u0 sen).withEntry W.cur) :=
    ⟨{ ci198 := ci, i198 := i, fBack := fB }, ⟨hkB, hgB, haB, hsB⟩, by
      have hd := fresh_default (c := P1.m.cls) tyB
      rw [htB] at hd
      simpa [preparedCellV, Cell.setSlot, Cell.withEntry, Array.getElem?_setIfInBounds, b1, b2, b3, b1.symm, b2.symm, b3.symm, defaultValue] using hd, fun _ _ => rfl⟩
  obtain ⟨tm, methC, cdC, kC, vm₁, hnC, -, -, -, -, -, -, -, hW₁, st1⟩ := Steps.initColdS (tb := p.tables) (e := e) (below := below) (s := s) (U := W) X.here hexec X.warmed hpl hown (t := Jvm.Bundle.initS cls) rfl rfl (Jvm.Bundle.fit_spec hcls).2
    (hat (.methodLink own ic (Jvm.Bundle.initS cls)) (by simp [Jvm.Bundle.ownAtoms])) (h (.instanceMethod (Jvm.Bundle.initS cls)) (by simp [Jvm.Bundle.ownAtoms, Jvm.Bundle.chainSAtoms, Jvm.Bundle.passSAtoms])) (bytes := Jvm.Bundle.six) (maxL := 2) (h (.code (Jvm.Bundle.initS cls) Jvm.Bundle.six 2 none) (by simp [Jvm.Bundle.ownAtoms, Jvm.Bundle.chainSAtoms, Jvm.Bundle.passSAtoms]))
    (f := g) hg (a := x) (msg := msg) (rest := .ref x :: rest) hstack hd6
  cases Option.some.inj (hnC.symm.trans hP1)
  have X₁ := X.noted hW₁
  obtain ⟨vm₂, X₂, st2⟩ := X₁.ctorMessageOffV hexec (g := { g with stack := .ref x :: rest }) hg hsize T L Z LZ N LN (P1 :: Ps)
    (fun P hP => by rcases List.mem_cons.mp hP with rfl | hP; exact L1; exact hL P hP) ⟨hlink1, hlink⟩ (u0 := u0) (sen := sen) (self := x) hmsg (cell := freshCell P1.m.cls kX) (cellS := cS')
    hcell (fun _ => by simp) (by simp) rfl rfl hsel0 hselF hcSW hne hknown (by rw [hkeep _ (hfree _)]; exact hu0) (by rw [hkeep _ (hfree _)]; exact hsen)
    (Takes.of_laid hkX hord tyC (by rw [Y.causeType]; rfl)) (Takes.of_laid hkX hord tyS (by rw [Y.stackType]; exact fits_refV_array _ u0)) (Takes.of_laid hkX hord tyP (by rw [Y.suppType]; exact fits_refV_object _ sen))
    (Takes.of_laid hkX hord tyM (by rw [Y.msgType]; exact fits_refV_object _ ⟨msg, hmsg⟩)) Y.objLocals hskip htr [] hd6
    (by rw [List.length_cons, hlen]; show 2 + 1 + 2 < _; omega) (by rw [List.length_cons, hlen]; show _ + _ + (13 * (2 + 1) + 42) ≤ _; exact hRlocals)
  obtain ⟨hwalk, hrun, hended, hWU, hsame⟩ := X₂.athrowLeaves hexec (g := { g with stack := .ref x :: rest, pc := g.pc + 3 }) hg hlocked hentered hout (a := x) (rest := rest) rfl hd9 hlocks
  have hlt : x < W.heap.size := (Array.getElem?_eq_some_iff.mp hcell).1
  refine ⟨_, st1 _ (fun acts => ?_), hrun, hended, hWU, hsame.weaken (fun y hy hlt' => ?_) (Nat.le_refl _) (Nat.le_refl _), ?_, ?_, ?_⟩
  · rw [doInvoke_state]
    exact st2 _ hwalk
  · rcases List.mem_append.mp hy with h1 | h1
    · exact h1
    · exfalso
      have hb : y.base = x := by
        simp only [List.mem_cons, List.not_mem_nil, or_false] at h1
        rcases h1 with rfl | rfl | rfl | rfl | rfl <;> rfl
      rw [hb] at hlt'
      exact absurd hnew (Nat.not_le.mpr hlt')
  · simp [State.setFrames, State.setCell, State.setVm]
  · intro q hq
    simp [State.setFrames, State.setCell, State.setVm, Array.getElem?_setIfInBounds, Ne.symm hq]
  · refine ⟨plainBareV T.toThrowableT (freshCell P1.m.cls kX) x u0 sen msg, ?_, ?_, ?_⟩
    · simp [State.setFrames, State.setCell, State.setVm, Array.getElem?_setIfInBounds, hlt]
    · simp [plainBareV, preparedCellV, Cell.setSlot]
    · simp [plainBareV, preparedCellV, Cell.setSlot]
/-- an object of the world is none of the tables' statics -/
theorem nf_plain {M0 : nf_M} {H0 : Heap} (hP : va_P D nf_cl (nf_cw a M0) H0) {k : Nat} (hk : k < 29) {cell : Cell} (hc : H0[a k]? = some cell) : cell.vm.isStatics = false := by
  have hlen : k < (nf_cw a M0).length := hk
  have h1 : (nf_cw a M0)[k]? = some (nf_cw a M0)[k] := List.getElem?_eq_getElem hlen
  have ha : ((nf_cw a M0)[k]).1 = a k := by
    have hin := nf_A_in (sz := 0) h1
    have h2 : ∀ j, j < 29 → ((nf_cw a M0).map (·.1))[j]? = some (a j) := fun j hj => by
      rcases (show j = 0 ∨ j = 1 ∨ j = 2 ∨ j = 3 ∨ j = 4 ∨ j = 5 ∨ j = 6 ∨ j = 7 ∨ j = 8 ∨ j = 9 ∨ j = 10 ∨ j = 11 ∨ j = 12 ∨ j = 13 ∨ j = 14 ∨ j = 15 ∨ j = 16 ∨ j = 17 ∨ j = 18 ∨ j = 19 ∨ j = 20 ∨ j = 21 ∨ j = 22 ∨ j = 23 ∨ j = 24 ∨ j = 25 ∨ j = 26 ∨ j = 27 ∨ j = 28 by omega) with rfl | rfl | rfl | rfl | rfl | rfl | rfl | rfl | rfl | rfl | rfl | rfl | rfl | rfl | rfl | rfl | rfl | rfl | rfl | rfl | rfl | rfl | rfl | rfl | rfl | rfl | rfl | rfl | rfl <;> rfl
    have h3 := h2 k hk
    rw [List.getElem?_map, h1] at h3
    exact Option.some.inj h3
  have h4 := hP k _ h1
  unfold va_at at h4
  rw [ha] at h4
  split at h4
  · rw [hc] at h4
    cases Option.some.inj h4
    rename_i x hx
    obtain ⟨cA, n, f⟩ := x
    rcases f with f | f | f | f | f <;> rfl
  · obtain ⟨r, -, cell', q1, q2, q3, -⟩ := h4
    rw [hc] at q1
    cases Option.some.inj q1
    rw [q3]; rfl
theorem nf_throw {β : Type} {injm : (Nat → Nat) → β → Option Value} {postm : β → nf_M → Prop} {exm : Nat → nf_M → Prop} {cls tx : String} {icl ic is i : Nat} (k : Nat) (hfl : l.flags = flags0) (K : nf_K p s m args meth c own cc nL ret D a sz) (hw : nf_W D a s sz H locs M)
    (hexn : nf_exn[k]? = some cls) (hfit : Jvm.Bundle.fit cls = true) (hat : ∀ w ∈ Jvm.Bundle.ownAtoms own ic cls nf_chain, nf_inT w = true) (hcl : Cond.classLink own icl cls ∈ nf_good) (hins : Cond.instantiable cls 6 ∈ nf_good) (hini : Cond.initialized cls ∈ nf_good) (hstr : nf_strs[i]? = some (own, is, tx))
    (d0 : decode cc pc = .ok (.new icl, 3)) (d3 : decode cc (pc + 3) = .ok (.dup, 1)) (d4 : decode cc (pc + 4) = .ok (.ldc is, 2)) (d6 : decode cc (pc + 6) = .ok (.invokespecial ic, 3)) (d9 : decode cc (pc + 9) = .ok (.athrow, 1))
    (hls : ls.size = nL) (hR : 5 < R.frames ∧ 100 ≤ R.locals) (hf : cells + 1 ≤ R.cells ∧ slots + 6 ≤ R.slots) (h : exm k M) :
    W p l e R s m args below meth c H locs cells slots (nf_MQ below (nf_Q injm D a postm exm (nf_A a sz)) args s R.cells R.slots (nf_A a sz)) (F0 m pc ls []) := by
  refine W.newc (g := F0 m pc ls []) K.1 K.2.1 K.2.2.2.1 (nf_Kg K hcl) (nf_Kg K hins) (nf_Kg K hini) rfl d0 hf.1 hf.2 (fun cX kX hfX hkX hord hn6 => ?_)
  refine W.eq (g2 := F0 m (pc + 3) ls [.ref H.size]) rfl ?_
  refine lv_dup K.1 K.2.1 d3 rfl ?_
  refine va_ldcS K.1 K.2.1 K.2.2.2.1 (K.2.2.2.2.2.2.2.2.2.2.2.1 i _ hstr) d4 ?_
  intro T hT X
  have hsz : s.heap.size ≤ H.size := hw.2.2.1
  have hHT : T.heap = H.push { cls := cX, slots := kX.instanceTypes.map defaultValue, vm := .none } := hT
  have hTsz : T.heap.size = H.size + 1 := by rw [hHT]; simp
  have hold : ∀ q, q < H.size → T.heap[q]? = H[q]? := fun q hq => by rw [hHT]; simp [Array.getElem?_push, Nat.ne_of_lt hq]
  have hcell : T.heap[H.size]? = some (freshCell cX kX) := by rw [hHT]; simp [freshCell]
  have hout : ∀ z ∈ c.exceptionTable.toList, covers z (pc + 6 + 3) = false := fun z hz => by
    have he : c.exceptionTable = #[] := by simpa [Array.isEmpty] using K.2.2.2.2.2.2.2.1
    rw [he] at hz; simp at hz
  obtain ⟨M0, hP0⟩ := K.2.2.2.2.2.2.2.2.2.2.2.2.1
  have hlocs : ∀ x ∈ locs, ∀ cell, s.heap[x.base]? = some cell → cell.vm.isStatics = false := fun x hx cell hc => by
    rcases hw.2.2.2.2 x hx with ⟨j, hj, ej⟩ | h2
    · rw [ej] at hc
      exact nf_plain hP0 hj hc
    · have := (Array.getElem?_eq_some_iff.mp hc).1
      have h3 : s.heap.size = sz := K.2.2.2.2.2.2.2.2.2.2.2.2.2
      exact absurd this (by rw [h3]; exact Nat.not_lt.mpr h2)
  obtain ⟨U, u1, u2, u3, u4, u5, u6, u7, ce, u8, u9, u10⟩ := nf_ctorThrow (g := F0 m (pc + 4 + 2) ls [.ref (a (100 + i)), .ref H.size, .ref H.size]) (rest := []) (stand_widen X hf.1 hf.2) K.1 (Launch.traces_off (by rw [hfl]; rfl) X.admits) K.2.2.2.1 hfit (fun w hw' => nf_Kall K (hat w hw')) hlocs hfX hkX hcell hsz (msg := .ref (a (100 + i))) rfl rfl (by rw [K.2.2.1]; exact hls) rfl rfl rfl (by rw [K.2.1]; exact d6) (by rw [K.2.1]; exact d9) hout hR.1
    (by show 2 * 0 + (1 + 0) + 81 ≤ R.locals; omega) K.2.2.2.2.2.2.1
  have hU : ∀ q, q < H.size → U.heap[q]? = H[q]? := fun q hq => by rw [u7 q (Nat.ne_of_lt hq)]; exact hold q hq
  refine ⟨U, u1, _, u2, u3, ⟨Or.inr ⟨k, H.size, M, rfl, h, ⟨cls, ce, hexn, u8, by rw [u4.alike.findClass, u9]; exact hfX, u10⟩, hw.1.kept (fun j q hj => ?_)⟩, ?_, fun q hq hn => ?_⟩, locs, ⟨u4, u5⟩, hw.2.2.2.2⟩
  · refine hU _ ?_
    have := hw.1 j q hj
    unfold va_at at this
    split at this
    · exact (Array.getElem?_eq_some_iff.mp this).1
    · obtain ⟨r, -, cell', q1, -⟩ := this
      exact (Array.getElem?_eq_some_iff.mp q1).1
  · omega
  · rw [hU q (by omega)]; exact hw.2.2.2.1 q hq hn
end NF4
