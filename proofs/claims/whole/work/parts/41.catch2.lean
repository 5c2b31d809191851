/-! catching within a walk; contracts of methods with handlers (printed by wip/whole/gen/law1.py) -/
def nf_KH (p : Program) (s : State) (m : MethodId) (args : Array Value) (meth : Method) (c : Code) (own : String) (cc : ByteArray) (nL : Nat) (ret : Option FieldType) (D : va_G) (a : Nat → Nat) (sz : Nat) : Prop :=
  p.tables.exec = Jvm.exec ∧ c.code = cc ∧ c.maxLocals = nL ∧ s.vm.findClass own = some m.cls ∧ (∀ w ∈ nf_good, w.before args s = true) ∧ meth.sig.returnType = ret ∧ meth.locks = false ∧ True ∧
  va_K D nf_cl (nf_ty a) s ∧ nf_st a (nf_A a sz) s s.heap ∧ nf_NW s ∧ nf_NS a s ∧ (∃ M0 : nf_M, va_P D nf_cl (nf_cw a M0) s.heap) ∧ s.heap.size = sz
abbrev nf_hmap (c : Code) : List (Nat × Nat × Nat × Nat) := c.exceptionTable.toList.map (fun h => (h.startPc, h.endPc, h.handlerPc, h.catchType))
abbrev nf_wsH (y : MethodName) (b : ByteArray) (n : Nat) (ret : Option FieldType) (hs : List (Nat × Nat × Nat × Nat)) : List Cond := Cond.codeWith y b n ret hs :: nf_good
def nf_BH (D : va_G) (a : Nat → Nat) (sz : Nat) (M : nf_M) (U : State) : Prop := nf_B D a sz M U ∧ nf_NC U
def nf_CH {α : Type} (inj : (Nat → Nat) → α → Option Value) (l : Launch) (y : MethodName) (b : ByteArray) (n : Nat) (ret : Option FieldType) (hs : List (Nat × Nat × Nat × Nat)) (rm : Room) (args : (Nat → Nat) → List Value) (P : nf_M → (α → nf_M → Prop) → (Nat → nf_M → Prop) → Prop) : Prop :=
  ∀ (D : va_G) (a : Nat → Nat) (sz : Nat) (M : nf_M) (post : α → nf_M → Prop) (ex : Nat → nf_M → Prop), P M post ex → nf_Met l y (nf_wsH y b n ret hs) rm (va_Pc (args a) (nf_BH D a sz M)) (nf_Q inj D a post ex (nf_A a sz)) rm.cells rm.slots (nf_A a sz)
def nf_cat {α : Type} (f : Nat → α) (ks : List Nat) (post : α → nf_M → Prop) (k : Nat) (M : nf_M) : Prop := ∃ j, ks[j]? = some k ∧ post (f j) M
theorem nf_startH {α : Type} {inj : (Nat → Nat) → α → Option Value} {l : Launch} {y : MethodName} {b : ByteArray} {n : Nat} {ret : Option FieldType} {hs : List (Nat × Nat × Nat × Nat)} {rm : Room} {args : (Nat → Nat) → List Value} {P : nf_M → (α → nf_M → Prop) → (Nat → nf_M → Prop) → Prop}
    (hy : plainFor y = true) (hn : ∀ a, (lg_sl (args a)).length ≤ n)
    (body : ∀ (D : va_G) (a : Nat → Nat) (sz : Nat) (M : nf_M) (post : α → nf_M → Prop) (ex : Nat → nf_M → Prop) (p : Program) (e : Env) (s : State) (m : MethodId) (below : List Frame) (meth : Method) (c : Code) (ls : Array Slot),
      P M post ex → nf_KH p s m (args a).toArray meth c y.cls b n ret D a sz → nf_hmap c = hs → nf_NC s → lv_has ls n (lv_args 0 (args a)) → nf_W D a s sz s.heap [] M →
      W p l e rm s m (args a).toArray below meth c s.heap [] 0 0 (nf_MQ below (nf_Q inj D a post ex (nf_A a sz)) (args a).toArray s rm.cells rm.slots (nf_A a sz)) (F0 m 0 ls [])) : nf_CH inj l y b n ret hs rm args P := by
  intro D a sz M post ex hP
  refine Jvm.Free.MetFree.of_bodySF (code := b) (maxLocals := n) (ret := ret) hy ?_ ?_
  · intro args s m h hn
    obtain ⟨m', meth, c, h0, h1, h2, h3, h4, -, h5, h6, -⟩ := Cond.codeWith_spec (atoms_spec (ws := nf_wsH y b n ret hs) h _ List.mem_cons_self)
    cases Option.some.inj (hn.symm.trans h0)
    exact ⟨meth, c, h1, h2, h3, h4, h5, h6⟩
  · intro p e s m args' below meth c s₁ B hml hv _
    have hh0 : s₁.heap = s.heap := by rw [B.state]; rfl
    have hts := atoms_spec (ws := nf_wsH y b n ret hs) B.pre
    obtain ⟨m', meth', c', g0, g1, g2, -, -, g3, -⟩ := Cond.codeWith_spec (hts _ List.mem_cons_self)
    cases Option.some.inj (B.named.symm.trans g0)
    cases Option.some.inj (B.method.symm.trans g1)
    cases Option.some.inj ((Stand.of_body B).code.symm.trans g2)
    have hW : W p l e rm s m args' below meth c s.heap [] 0 0 (nf_MQ below (nf_Q inj D a post ex (nf_A a sz)) args' s rm.cells rm.slots (nf_A a sz)) (entryFrame m args' n) := by
      obtain ⟨rfl, ⟨hsz, hPw, hKw, hD0, hst, hNW, hNS⟩, hNC⟩ := hv
      have hown : s.vm.findClass y.cls = some m.cls := findClass_of_methodNamed B.named
      rw [lg_entry_eq]
      refine body D a sz M post ex p e s m below meth c _ hP ⟨B.exec, B.bytes, hml, hown, fun w hw => hts w (List.mem_cons_of_mem _ hw), B.returns, B.notSynchronized, trivial, hKw, hst, hNW, hNS, ⟨M, hPw⟩, hsz⟩ g3 hNC (lv_entry (args a) (hn a)) ⟨hPw, hD0.weaken (fun k q hk _ => nf_A_in hk), va_S.rf⟩
    obtain ⟨t, a1, o, b1, b2, b3⟩ := hW s₁ hh0 (Stand.of_body B)
    exact ⟨t, o, a1, b1, b2, ⟨b3.1, b3.2⟩⟩
theorem nf_stepCatch {e : Env} {s : State} {x : Addr} {f : JFrame} {r : List Frame} {pc : Nat} {vm' : Vm} (hfind : ∀ (P : Handler → Jvm.Pre) (E : Jvm.CtlPost) (d : Bool) (acts : List Action), wp (findHandler f x) P E e d acts s ↔ P (.found pc) d acts (s.setVm vm')) :
    (stepThrowing e s x (.java f :: r)).Is ((s.setVm vm').setFrames (.java { f with pc := pc, stack := [.ref x] } :: r)) [] := by
  simp only [stepThrowing, searchFrame, vmDo]
  generalize hr : Sem.go _ e false [] s = res
  obtain ⟨as, rfl, ha⟩ := Sem.eq_ok_of hr (a := Handler.found pc) (s' := s.setVm vm') (acts' := []) (by simp [hfind _ _ _ _])
  exact ⟨rfl, ha⟩
section NF7
variable {p : Program} {l : Launch} {e : Env} {R : Room} {s : State} {m : MethodId} {args : Array Value} {below : List Frame} {meth : Method} {c : Code} {H : Heap} {locs : List Loc} {cells slots : Nat} {Q : State → Prop}
variable {own : String} {cc : ByteArray} {nL : Nat} {ret : Option FieldType} {D : va_G} {a : Nat → Nat} {sz : Nat} {M : nf_M} {pc : Nat} {ls : Array Slot} {rest : List Value}
theorem nf_catchW {hs : List (Nat × Nat × Nat × Nat)} {x : Addr} {hpc st0 en ct : Nat} (ns : List String) (k j : Nat) (hown : s.vm.findClass own = some m.cls) (hts : ∀ w ∈ nf_good, w.before args s = true) (hes : nf_hmap c = hs) (hNC : nf_NC s) (hNW : nf_NW s) (hlen : hs.length = ns.length)
    (hcov : ∀ q ∈ hs, (decide (q.1 ≤ pc) && decide (pc < q.2.1)) = true ∧ q.2.2.2 ≠ 0) (hlink : ∀ q ∈ hs.zip ns, Cond.classLink own q.1.2.2.2 q.2 ∈ nf_good) (hj : hs[j]? = some (st0, en, hpc, ct)) (hnj : ns[j]? = nf_exn[k]?) (hns : ∀ i, i < j → ∃ k', k' ≠ k ∧ nf_exn[k']? = ns[i]?)
    (hself : ∀ n ∈ nf_exn, Cond.castable n n ∈ nf_rest) (hX : ∃ (nx : String) (cell : Cell), nf_exn[k]? = some nx ∧ H[x]? = some cell ∧ s.vm.findClass nx = some cell.cls ∧ cell.vm = .none)
    (kk : W p l e R s m args below meth c H locs cells slots Q (F0 m hpc ls [.ref x])) : nf_WT p l e R s m args below meth c H locs cells slots Q (F0 m pc ls rest) x := by
  intro T hT X
  obtain ⟨nx, cell, x1, x2, x3, x4⟩ := hX
  have hpl : e.platform.magicAccessors = ({} : Platform).magicAccessors := by rw [X.admits.platform]
  obtain ⟨y, hy, ey⟩ : ∃ y, c.exceptionTable.toList[j]? = some y ∧ (y.startPc, y.endPc, y.handlerPc, y.catchType) = (st0, en, hpc, ct) := by
    have h1 := hj
    rw [← hes] at h1
    simp only [nf_hmap, List.getElem?_map, Option.map_eq_some_iff] at h1
    exact h1
  have hyp : y.handlerPc = hpc := by cases ey; rfl
  have hslf : ∀ vm', s.WarmedH vm' → vm'.assignable cell.cls cell.cls = true := fun vm' hv => by
    obtain ⟨c3, c4, h3, h4, h5⟩ := Cond.castable_spec (args := #[]) (s := s) ((hNW _ (hself nx (List.mem_of_getElem? x1))) : (Cond.castable nx nx).before #[] s = true)
    cases Option.some.inj (h3.symm.trans x3)
    cases Option.some.inj (h4.symm.trans x3)
    rw [hv.alike.assignable]; exact h5
  have hTh : ((T.setTop (F0 m pc ls rest)).pushFrame (.throwing x)).heap = T.heap := Stand.throwing_heap T _ x
  have hTv : ((T.setTop (F0 m pc ls rest)).pushFrame (.throwing x)).vm = T.vm := Stand.throwing_vm T _ x
  obtain ⟨vm', hV, hgo⟩ := nf_go (e := e) (f := F0 m pc ls rest) (x := x) (own := own) (cell := cell) (s0 := s) (a0 := args) (nx := nx) hpl hown x3 (by rw [x4]; rfl) hslf c.exceptionTable.toList ns j y ((T.setTop (F0 m pc ls rest)).pushFrame (.throwing x)) (by rw [hTv]; exact X.warmed) (by rw [hTh, hT]; exact x2)
    (by have := congrArg List.length hes; simp [nf_hmap] at this; simpa using this.trans hlen) hy (by rw [hnj]; exact x1)
    (fun z hz => by
      have hm : (z.startPc, z.endPc, z.handlerPc, z.catchType) ∈ hs := by rw [← hes]; exact List.mem_map.mpr ⟨z, hz, rfl⟩
      exact hcov _ hm)
    (fun i z n hz hn => by
      have hzi : hs[i]? = some (z.startPc, z.endPc, z.handlerPc, z.catchType) := by rw [← hes]; simp [nf_hmap, List.getElem?_map, hz]
      have hm : ((z.startPc, z.endPc, z.handlerPc, z.catchType), n) ∈ hs.zip ns := List.mem_of_getElem? (i := i) (by rw [List.getElem?_zip_eq_some]; exact ⟨hzi, hn⟩)
      exact hts _ (hlink _ hm))
    (fun i n hi hn => by
      obtain ⟨k', hk', e'⟩ := hns i hi
      exact hNC k k' nx n (Ne.symm hk') x1 (by rw [e', hn]))
  have hmeth := X.method'
  obtain ⟨t, a1, b1⟩ := kk (T.setVm vm') (by rw [← hT]; rfl) (X.noted hV)
  refine ⟨t, ?_, b1⟩
  have h : At T (F0 m pc ls rest).method c below := X.here
  obtain ⟨hgoes, hw⟩ := h.throwing x
  refine Steps.head hgoes hw ?_
  rw [stepThread_throwing (frames_entered h.top _), (nf_stepCatch (s := (T.setTop (F0 m pc ls rest)).pushFrame (.throwing x)) (vm' := vm') (pc := hpc) (fun P E d acts => by
    rw [W.findHandler_eq (meth := meth) (code := c) (by rw [hTv]; exact hmeth) X.code, hgo P E d acts, hyp])).1]
  obtain ⟨g₀, hg⟩ := Option.isSome_iff_exists.mp h.top
  obtain ⟨r, hr⟩ := State.topJava?_eq_some.mp hg
  have e1 : ((((T.setTop (F0 m pc ls rest)).pushFrame (.throwing x)).setVm vm').setFrames (.java { F0 m pc ls rest with pc := hpc, stack := [.ref x] } :: T.frames.tail)) = (T.setVm vm').setTop (F0 m hpc ls [.ref x]) := by
    have hr2 : (T.setVm vm').frames = .java g₀ :: r := hr
    have e0 : ∀ (u : State) (A B : List Frame), ((u.setFrames A).setVm vm').setFrames B = (u.setVm vm').setFrames B := fun u A B => State.setFrames_setFrames (u.setVm vm') A B
    rw [State.setTop_of_frames _ hr2, State.pushFrame, State.setTop_of_frames _ hr, State.setFrames_setFrames, e0, hr]
    rfl
  rw [e1]
  exact a1
theorem nf_KgH (K : nf_KH p s m args meth c own cc nL ret D a sz) {w : Cond} (h : w ∈ nf_good) : w.before args s = true := K.2.2.2.2.1 w h
theorem nf_iretH {α : Type} {inj : (Nat → Nat) → α → Option Value} {post : α → nf_M → Prop} {ex : Nat → nf_M → Prop} {rt : FieldType} {v : Int32} (K : nf_KH p s m args meth c own cc nL (some rt) D a sz) (hw : nf_W D a s sz H locs M) (hdg : decode cc pc = .ok (.ireturn, 1)) (hn : narrow rt (.int v) = .int v)
    (hc : cells ≤ R.cells) (hs : slots ≤ R.slots) {r : α} (hv : some (.int v) = inj a r) (h : post r M) :
    W p l e R s m args below meth c H locs cells slots (nf_MQ below (nf_Q inj D a post ex (nf_A a sz)) args s R.cells R.slots (nf_A a sz)) (F0 m pc ls [.int v]) :=
  W.widen hc hs (nf_mono (fun _ => nf_ofMQ) (W.zret (v := v) K.1 K.2.1 K.2.2.2.2.2.1 hn (nf_end hv h hw K.2.2.2.2.2.2.2.2.2.2.2.2.2) hw.2.2.2.2 hdg K.2.2.2.2.2.2.1))
theorem nf_lastH (K : nf_KH p s m args meth c own cc nL ret D a sz) (hw : nf_W D a s sz H locs M) (q0 t0 : Nat) {b cA n : Nat} {f : Nat → Int64} {M' : nf_M} (he : (nf_cw a M)[q0]? = some (b, .inl (cA, n, .inr (.inl f)))) (ht : (nf_ty a)[t0]? = some (cA, .long)) {i : Int32} {x : Int64} (hin : vp_in i n) (hset : (nf_cw a M).set q0 (b, .inl (cA, n, .inr (.inl (vp_updL f i.toNatClampNeg x)))) = nf_cw a M') (hdg : decode cc pc = .ok (.lastore, 1))
    (kk : ∀ (H' : Heap) (locs' : List Loc), nf_W D a s sz H' locs' M' → W p l e R s m args below meth c H' locs' cells slots Q (F0 m (pc + 1) ls rest)) : W p l e R s m args below meth c H locs cells slots Q (F0 m pc ls (.long x :: .int i :: .ref b :: rest)) :=
  va_last (D := D) (cl := nf_cl) (tys := nf_ty a) (ws := nf_cw a M) K.1 K.2.1 K.2.2.2.2.2.2.2.2.1 hw.1 hw.2.1 hw.2.2 q0 t0 he ht hin hdg (fun H1 locs1 hP hD hS => kk H1 locs1 ⟨hset ▸ hP, nf_Dm hw.2.1, hS⟩)
theorem nf_dastH (K : nf_KH p s m args meth c own cc nL ret D a sz) (hw : nf_W D a s sz H locs M) (q0 t0 : Nat) {b cA n : Nat} {f : Nat → UInt64} {M' : nf_M} (he : (nf_cw a M)[q0]? = some (b, .inl (cA, n, .inr (.inr (.inr (.inl f)))))) (ht : (nf_ty a)[t0]? = some (cA, .double)) {i : Int32} {x : UInt64} (hin : vp_in i n) (hset : (nf_cw a M).set q0 (b, .inl (cA, n, .inr (.inr (.inr (.inl (vf_upd f i.toNatClampNeg x)))))) = nf_cw a M') (hdg : decode cc pc = .ok (.dastore, 1))
    (kk : ∀ (H' : Heap) (locs' : List Loc), nf_W D a s sz H' locs' M' → W p l e R s m args below meth c H' locs' cells slots Q (F0 m (pc + 1) ls rest)) : W p l e R s m args below meth c H locs cells slots Q (F0 m pc ls (.double x :: .int i :: .ref b :: rest)) :=
  va_dast (D := D) (cl := nf_cl) (tys := nf_ty a) (ws := nf_cw a M) K.1 K.2.1 K.2.2.2.2.2.2.2.2.1 hw.1 hw.2.1 hw.2.2 q0 t0 he ht hin hdg (fun H1 locs1 hP hD hS => kk H1 locs1 ⟨hset ▸ hP, nf_Dm hw.2.1, hS⟩)
theorem nf_rcvH (K : nf_KH p s m args meth c own cc nL ret D a sz) (hw : nf_W D a s sz H locs M) (q0 ci : Nat) {q : vw_C} {b : Nat} {fs : List Value} (he : (nf_cw a M)[q0]? = some (b, .inr (ci, fs))) (hc : nf_cl[ci]? = some q) : ∃ cell : Cell, H[b]? = some cell ∧ cell.vm.isStatics = false ∧ s.vm.findClass q.1 = some cell.cls := va_recv (tys := nf_ty a) K.2.2.2.2.2.2.2.2.1 hw.1 hc he
theorem nf_callWH {α β : Type} {inj : (Nat → Nat) → α → Option Value} {injm : (Nat → Nat) → β → Option Value} {post : α → nf_M → Prop} {ex : Nat → nf_M → Prop} {postm : β → nf_M → Prop} {exm : Nat → nf_M → Prop} {y : MethodName} {bytes : ByteArray} {maxL : Nat} {rety : Option FieldType} {rm : Room} {cargs : (Nat → Nat) → List Value}
    {P : nf_M → (α → nf_M → Prop) → (Nat → nf_M → Prop) → Prop} {As st0 : List Value} (K : nf_KH p s m args meth c own cc nL ret D a sz) (hw : nf_W D a s sz H locs M)
    (hI : nf_Inv p l e R s m args below meth c H locs cells slots y As (F0 m pc ls st0) rest) (hC : nf_C inj l y bytes maxL rety rm cargs P) (hcode : Cond.code y bytes maxL rety ∈ nf_good) (hinit : Cond.initialized y.cls ∈ nf_good) (hargs : cargs a = As)
    (hR : rm.frames + 1 ≤ R.frames ∧ 8 + (maxL + 11) + rm.locals ≤ R.locals) (hW : (rest.map fun v => v.category).sum ≤ 8) (hls : ls.size = nL) (hf : cells + rm.cells ≤ R.cells ∧ slots + rm.slots ≤ R.slots) (h : P M post ex)
    (kx : ∀ (k : Nat) (x : Addr) (M' : nf_M) (H' : Heap) (locs' : List Loc), ex k M' → nf_W D a s sz H' locs' M' → (∃ (nx : String) (cell : Cell), nf_exn[k]? = some nx ∧ H'[x]? = some cell ∧ s.vm.findClass nx = some cell.cls ∧ cell.vm = .none) → nf_WT p l e R s m args below meth c H' locs' (cells + rm.cells) (slots + rm.slots) (nf_MQ below (nf_Q injm D a postm exm (nf_A a sz)) args s R.cells R.slots (nf_A a sz)) (F0 m pc ls rest) x)
    (kk : ∀ (r : α) (M' : nf_M) (H' : Heap) (locs' : List Loc), post r M' → nf_W D a s sz H' locs' M' → W p l e R s m args below meth c H' locs' (cells + rm.cells) (slots + rm.slots) (nf_MQ below (nf_Q injm D a postm exm (nf_A a sz)) args s R.cells R.slots (nf_A a sz)) (F0 m (pc + 3) ls ((inj a r).toList ++ rest))) :
    W p l e R s m args below meth c H locs cells slots (nf_MQ below (nf_Q injm D a postm exm (nf_A a sz)) args s R.cells R.slots (nf_A a sz)) (F0 m pc ls st0) := by
  have hsz : s.heap.size ≤ H.size := hw.2.2.1
  have hs0 : s.heap.size = sz := K.2.2.2.2.2.2.2.2.2.2.2.2.2
  have hA : ∀ q, nf_A a H.size q → nf_A a sz q := fun q hq => by
    rcases hq with h1 | h1
    · exact Or.inl h1
    · exact Or.inr (by omega)
  have hM := hC D a H.size M post ex h
  have hjoin : ∀ (st t : State) (L : List Loc), st.heap = H → (∀ q ∈ L, nf_A a H.size q.base) → va_F (nf_A a H.size) st t → va_S (nf_A a sz) s.heap t.heap (locs ++ L) := fun st t L hst hL hF => by
    obtain ⟨f1, f2⟩ := hF
    rw [hst] at f1 f2
    refine ⟨by omega, fun q hq hn => ?_, fun q hq => ?_⟩
    · rw [f2 q (by omega) (fun z => hn (hA q z))]; exact hw.2.2.2.1 q hq hn
    · rcases List.mem_append.mp hq with hq | hq
      · exact hw.2.2.2.2 q hq
      · exact hA _ (hL q hq)
  refine nf_callG (maxL := maxL) (bytes := bytes) (ret := rety) (free := nf_A a H.size) hI hM rfl rfl hR (fun w hw' a' U hWU => ?_) List.mem_cons_self (nf_KgH K hinit) rfl (by rw [K.2.2.1]; exact hls) (lv_room hW) (nf_B_blind D a H.size M _) (fun U hU hWU => ⟨by rw [hargs], by rw [hU], by rw [hU]; exact hw.1, va_K.moved hWU.alike K.2.2.2.2.2.2.2.2.1, hw.2.1.weaken (fun _ _ _ _ => trivial), ?_, nf_NW_warm hWU K.2.2.2.2.2.2.2.2.2.2.1, fun i q hq => (K.2.2.2.2.2.2.2.2.2.2.2.1 i q hq).warm hWU⟩) hf ?_ ?_
  · have hw2 : w ∈ nf_good := by
      rcases List.mem_cons.mp hw' with rfl | h2
      · exact hcode
      · exact h2
    exact word_at hWU (nf_good_in hw2) (nf_KgH K hw2)
  · rw [hU]
    exact nf_st_moved hWU.alike (nf_st_narrow (nf_st_kept K.2.2.2.2.2.2.2.2.2.1 (fun b hb hn => hw.2.2.2.1 b hb hn)) hA)
  · intro v st t L hst hvm hL hq
    obtain ⟨hq | hq, hF⟩ := hq
    · obtain ⟨r, M', e1, hp, hP'⟩ := hq
      cases e1
      exact kk r M' t.heap (locs ++ L) hp ⟨hP', nf_Dm hw.2.1, hjoin st t L hst hL hF⟩
    · obtain ⟨k, q, M', e1, -⟩ := hq
      cases e1
  · intro x st t L hst hvm hL hq
    obtain ⟨hq | hq, hF⟩ := hq
    · obtain ⟨r, M', e1, -⟩ := hq
      cases e1
    · obtain ⟨k, q, M', e1, hex, hX, hP'⟩ := hq
      cases e1
      have hS' := hjoin st t L hst hL hF
      obtain ⟨n, cell, x1, x2, x3, x4⟩ := hX
      exact kx k x M' t.heap (locs ++ L) hex ⟨hP', nf_Dm hw.2.1, hS'⟩ ⟨n, cell, x1, x2, by rw [← hvm.findClass]; exact x3, x4⟩
end NF7
theorem nf_self : ∀ n ∈ nf_exn, Cond.castable n n ∈ nf_rest := by decide +kernel
