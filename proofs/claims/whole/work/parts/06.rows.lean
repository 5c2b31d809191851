/-! the methods' contracts over the world; what holds along a walk; rows -/
def nf_strs : List (String × Nat × String) := [("NumberForge", 439, "-0"), ("NumberForge", 441, "0"), ("NumberForge", 443, "-INF"), ("NumberForge", 445, "INF"), ("NumberForge", 486, "m cmd cdc xcl xlx ixv ivi "),
  ("NumberForge", 241, "no such register"), ("NumberForge", 244, "no such type, operation or style"), ("NumberForge", 85, "not written as this type is"), ("NumberForge$Numeral", 76, "LIMIT"), ("NumberForge", 255, "does not fit the type"),
  ("NumberForge", 246, "the register is empty"), ("NumberForge", 307, "no such number"), ("NumberForge", 330, "the quotient is infinite"), ("NumberForge", 340, "LIMIT"), ("NumberForge", 343, "by 0"), ("NumberForge$Wide", 66, "LIMIT"),
  ("NumberForge", 414, "infinite"), ("NumberForge$Digits", 15, "too near to 0 or too far from it to be written"), ("NumberForge", 187, "the text is no picture"), ("NumberForge", 223, "letters are for the types 1 to 7")]
def nf_NS (a : Nat → Nat) (U : State) : Prop := ∀ (i : Nat) (q : String × Nat × String), nf_strs[i]? = some q → vk_R q.1 q.2.1 q.2.2 (a (100 + i)) U
def nf_B (D : va_G) (a : Nat → Nat) (sz : Nat) (M : nf_M) (U : State) : Prop :=
  U.heap.size = sz ∧ va_P D nf_cl (nf_cw a M) U.heap ∧ va_K D nf_cl (nf_ty a) U ∧ va_D (fun _ => True) (nf_cw a M) ∧ nf_st a (nf_A a sz) U U.heap ∧ nf_NW U ∧ nf_NS a U
theorem nf_B_blind (D : va_G) (a : Nat → Nat) (sz : Nat) (M : nf_M) (av : List Value) : FrameBlind (va_Pc av (nf_B D a sz M)) := by
  intro v U g mk h
  obtain ⟨h0, h1, h2, h3, h4, h5, h6, h7⟩ := h
  exact ⟨h0, h1, h2, va_K.moved (Vm.Alike.refl U.vm) h3, h4, nf_st_moved (Vm.Alike.refl U.vm) h5, nf_NW_same (u := U) (U := U.calling g mk v) rfl h6, fun i q hq => (h7 i q hq).same rfl⟩
def nf_exn : List String := ["java/lang/IndexOutOfBoundsException", "java/lang/IllegalArgumentException", "java/lang/IllegalStateException", "java/lang/ArithmeticException", "java/lang/UnsupportedOperationException"]
/-- the thrown object is one of the k-th kind -/
def nf_X (k : Nat) (q : Addr) (U : State) (H : Heap) : Prop := ∃ (n : String) (cell : Cell), nf_exn[k]? = some n ∧ H[q]? = some cell ∧ U.vm.findClass n = some cell.cls ∧ cell.vm = .none
def nf_Q {α : Type} (inj : (Nat → Nat) → α → Option Value) (D : va_G) (a : Nat → Nat) (post : α → nf_M → Prop) (ex : Nat → nf_M → Prop) (A : Nat → Prop) : Array Value → State → Outcome → State → Prop := fun _ st oc t =>
  ((∃ (r : α) (M : nf_M), oc = .returned (inj a r) ∧ post r M ∧ va_P D nf_cl (nf_cw a M) t.heap) ∨ (∃ (k : Nat) (q : Addr) (M : nf_M), oc = .threw q ∧ ex k M ∧ nf_X k q t t.heap ∧ va_P D nf_cl (nf_cw a M) t.heap)) ∧ va_F A st t
/-- a method's contract: from every world at which P holds it returns what post says, or throws what ex says -/
def nf_C {α : Type} (inj : (Nat → Nat) → α → Option Value) (l : Launch) (y : MethodName) (b : ByteArray) (n : Nat) (ret : Option FieldType) (rm : Room) (args : (Nat → Nat) → List Value) (P : nf_M → (α → nf_M → Prop) → (Nat → nf_M → Prop) → Prop) : Prop :=
  ∀ (D : va_G) (a : Nat → Nat) (sz : Nat) (M : nf_M) (post : α → nf_M → Prop) (ex : Nat → nf_M → Prop), P M post ex → nf_Met l y (nf_ws y b n ret) rm (va_Pc (args a) (nf_B D a sz M)) (nf_Q inj D a post ex (nf_A a sz)) rm.cells rm.slots (nf_A a sz)
/-- what holds all along a walk -/
def nf_K (p : Program) (s : State) (m : MethodId) (args : Array Value) (meth : Method) (c : Code) (own : String) (cc : ByteArray) (nL : Nat) (ret : Option FieldType) (D : va_G) (a : Nat → Nat) (sz : Nat) : Prop :=
  p.tables.exec = Jvm.exec ∧ c.code = cc ∧ c.maxLocals = nL ∧ s.vm.findClass own = some m.cls ∧ (∀ w ∈ nf_good, w.before args s = true) ∧ meth.sig.returnType = ret ∧ meth.locks = false ∧ c.exceptionTable.isEmpty = true ∧
  va_K D nf_cl (nf_ty a) s ∧ nf_st a (nf_A a sz) s s.heap ∧ nf_NW s ∧ nf_NS a s ∧ (∃ M0 : nf_M, va_P D nf_cl (nf_cw a M0) s.heap) ∧ s.heap.size = sz
/-- the world now -/
def nf_W (D : va_G) (a : Nat → Nat) (s : State) (sz : Nat) (H : Heap) (locs : List Loc) (M : nf_M) : Prop := va_P D nf_cl (nf_cw a M) H ∧ va_D (nf_A a sz) (nf_cw a M) ∧ va_S (nf_A a sz) s.heap H locs
theorem nf_start {α : Type} {inj : (Nat → Nat) → α → Option Value} {l : Launch} {y : MethodName} {b : ByteArray} {n : Nat} {ret : Option FieldType} {rm : Room} {args : (Nat → Nat) → List Value} {P : nf_M → (α → nf_M → Prop) → (Nat → nf_M → Prop) → Prop}
    (hy : plainFor y = true) (hn : ∀ a, (lg_sl (args a)).length ≤ n)
    (body : ∀ (D : va_G) (a : Nat → Nat) (sz : Nat) (M : nf_M) (post : α → nf_M → Prop) (ex : Nat → nf_M → Prop) (p : Program) (e : Env) (s : State) (m : MethodId) (below : List Frame) (meth : Method) (c : Code) (ls : Array Slot),
      P M post ex → nf_K p s m (args a).toArray meth c y.cls b n ret D a sz → lv_has ls n (lv_args 0 (args a)) → nf_W D a s sz s.heap [] M →
      W p l e rm s m (args a).toArray below meth c s.heap [] 0 0 (nf_MQ below (nf_Q inj D a post ex (nf_A a sz)) (args a).toArray s rm.cells rm.slots (nf_A a sz)) (F0 m 0 ls [])) : nf_C inj l y b n ret rm args P := by
  intro D a sz M post ex hP
  refine nf_ofW (cc := b) (maxL := n) (ret := ret) hy rfl ?_
  intro p e s m args' below meth c s₁ B hml hv
  obtain ⟨rfl, hsz, hPw, hKw, hD0, hst, hNW, hNS⟩ := hv
  have hts := atoms_spec (ws := nf_ws y b n ret) B.pre
  have hown : s.vm.findClass y.cls = some m.cls := findClass_of_methodNamed B.named
  have hex : c.exceptionTable.isEmpty = true := B.noHandlers (hts _ List.mem_cons_self)
  rw [lg_entry_eq]
  refine body D a sz M post ex p e s m below meth c _ hP ⟨B.exec, B.bytes, hml, hown, fun w hw => hts w (List.mem_cons_of_mem _ hw), B.returns, B.notSynchronized, hex, hKw, hst, hNW, hNS, ⟨M, hPw⟩, hsz⟩ (lv_entry (args a) (hn a)) ⟨hPw, hD0.weaken (fun k q hk _ => nf_A_in hk), va_S.rf⟩
section NF3
variable {p : Program} {l : Launch} {e : Env} {R : Room} {s : State} {m : MethodId} {args : Array Value} {below : List Frame} {meth : Method} {c : Code} {H : Heap} {locs : List Loc} {cells slots : Nat} {Q : State → Prop}
variable {own : String} {cc : ByteArray} {nL : Nat} {ret : Option FieldType} {D : va_G} {a : Nat → Nat} {sz : Nat} {M : nf_M} {pc : Nat} {ls : Array Slot} {rest : List Value}
theorem nf_Kx (K : nf_K p s m args meth c own cc nL ret D a sz) : p.tables.exec = Jvm.exec := K.1
theorem nf_Kb (K : nf_K p s m args meth c own cc nL ret D a sz) : c.code = cc := K.2.1
theorem nf_Kg (K : nf_K p s m args meth c own cc nL ret D a sz) {w : Cond} (h : w ∈ nf_good) : w.before args s = true := K.2.2.2.2.1 w h
theorem nf_Kr (K : nf_K p s m args meth c own cc nL ret D a sz) {w : Cond} (h : w ∈ nf_rest) : va_Nw w s := K.2.2.2.2.2.2.2.2.2.2.1 w h
/-- the end of a walk: the value, the world behind it -/
theorem nf_end {α : Type} {inj : (Nat → Nat) → α → Option Value} {post : α → nf_M → Prop} {ex : Nat → nf_M → Prop} {r : α} {v : Option Value} (hv : v = inj a r) (h : post r M) (hw : nf_W D a s sz H locs M) (hsz : s.heap.size = sz) :
    ∀ t : State, t.heap = H → s.WarmedH t.vm → nf_Q inj D a post ex (nf_A a sz) args s (.returned v) t := fun t ht _ => by
  subst ht
  exact ⟨Or.inl ⟨r, M, by rw [hv], h, hw.1⟩, hw.2.2.F rfl⟩
theorem nf_iret {α : Type} {inj : (Nat → Nat) → α → Option Value} {post : α → nf_M → Prop} {ex : Nat → nf_M → Prop} {rt : FieldType} {v : Int32} (K : nf_K p s m args meth c own cc nL (some rt) D a sz) (hw : nf_W D a s sz H locs M) (hdg : decode cc pc = .ok (.ireturn, 1)) (hn : narrow rt (.int v) = .int v)
    (hc : cells ≤ R.cells) (hs : slots ≤ R.slots) {r : α} (hv : some (.int v) = inj a r) (h : post r M) :
    W p l e R s m args below meth c H locs cells slots (nf_MQ below (nf_Q inj D a post ex (nf_A a sz)) args s R.cells R.slots (nf_A a sz)) (F0 m pc ls [.int v]) :=
  W.widen hc hs (nf_mono (fun _ => nf_ofMQ) (W.zret (v := v) K.1 K.2.1 K.2.2.2.2.2.1 hn (nf_end hv h hw K.2.2.2.2.2.2.2.2.2.2.2.2.2) hw.2.2.2.2 hdg K.2.2.2.2.2.2.1))
theorem nf_lret {α : Type} {inj : (Nat → Nat) → α → Option Value} {post : α → nf_M → Prop} {ex : Nat → nf_M → Prop} {v : Int64} (K : nf_K p s m args meth c own cc nL (some .long) D a sz) (hw : nf_W D a s sz H locs M) (hdg : decode cc pc = .ok (.lreturn, 1))
    (hc : cells ≤ R.cells) (hs : slots ≤ R.slots) {r : α} (hv : some (.long v) = inj a r) (h : post r M) :
    W p l e R s m args below meth c H locs cells slots (nf_MQ below (nf_Q inj D a post ex (nf_A a sz)) args s R.cells R.slots (nf_A a sz)) (F0 m pc ls [.long v]) :=
  W.widen hc hs (nf_mono (fun _ => nf_ofMQ) (W.lret (v := v) K.1 K.2.1 K.2.2.2.2.2.1 (nf_end hv h hw K.2.2.2.2.2.2.2.2.2.2.2.2.2) hw.2.2.2.2 hdg K.2.2.2.2.2.2.1))
theorem nf_dret {α : Type} {inj : (Nat → Nat) → α → Option Value} {post : α → nf_M → Prop} {ex : Nat → nf_M → Prop} {v : UInt64} (K : nf_K p s m args meth c own cc nL (some .double) D a sz) (hw : nf_W D a s sz H locs M) (hdg : decode cc pc = .ok (.dreturn, 1))
    (hc : cells ≤ R.cells) (hs : slots ≤ R.slots) {r : α} (hv : some (.double v) = inj a r) (h : post r M) :
    W p l e R s m args below meth c H locs cells slots (nf_MQ below (nf_Q inj D a post ex (nf_A a sz)) args s R.cells R.slots (nf_A a sz)) (F0 m pc ls [.double v]) :=
  W.widen hc hs (nf_mono (fun _ => nf_ofMQ) (W.dret (v := v) K.1 K.2.1 K.2.2.2.2.2.1 (nf_end hv h hw K.2.2.2.2.2.2.2.2.2.2.2.2.2) hw.2.2.2.2 hdg K.2.2.2.2.2.2.1))
theorem nf_fret {α : Type} {inj : (Nat → Nat) → α → Option Value} {post : α → nf_M → Prop} {ex : Nat → nf_M → Prop} {v : UInt32} (K : nf_K p s m args meth c own cc nL (some .float) D a sz) (hw : nf_W D a s sz H locs M) (hdg : decode cc pc = .ok (.freturn, 1))
    (hc : cells ≤ R.cells) (hs : slots ≤ R.slots) {r : α} (hv : some (.float v) = inj a r) (h : post r M) :
    W p l e R s m args below meth c H locs cells slots (nf_MQ below (nf_Q inj D a post ex (nf_A a sz)) args s R.cells R.slots (nf_A a sz)) (F0 m pc ls [.float v]) :=
  W.widen hc hs (nf_mono (fun _ => nf_ofMQ) (W.fret (v := v) K.1 K.2.1 K.2.2.2.2.2.1 (nf_end hv h hw K.2.2.2.2.2.2.2.2.2.2.2.2.2) hw.2.2.2.2 hdg K.2.2.2.2.2.2.1))
theorem nf_vret {α : Type} {inj : (Nat → Nat) → α → Option Value} {post : α → nf_M → Prop} {ex : Nat → nf_M → Prop} (K : nf_K p s m args meth c own cc nL none D a sz) (hw : nf_W D a s sz H locs M) (hdg : decode cc pc = .ok (.return_, 1))
    (hc : cells ≤ R.cells) (hs : slots ≤ R.slots) {r : α} (hv : none = inj a r) (h : post r M) :
    W p l e R s m args below meth c H locs cells slots (nf_MQ below (nf_Q inj D a post ex (nf_A a sz)) args s R.cells R.slots (nf_A a sz)) (F0 m pc ls []) :=
  W.widen hc hs (nf_mono (fun _ => nf_ofMQ) (W.vret K.1 K.2.1 K.2.2.2.2.2.1 (nf_end hv h hw K.2.2.2.2.2.2.2.2.2.2.2.2.2) hw.2.2.2.2 hdg K.2.2.2.2.2.2.1))
theorem nf_aret {α : Type} {inj : (Nat → Nat) → α → Option Value} {post : α → nf_M → Prop} {ex : Nat → nf_M → Prop} {x : Nat} {o : String} (K : nf_K p s m args meth c own cc nL (some (.object o)) D a sz) (hw : nf_W D a s sz H locs M) (hdg : decode cc pc = .ok (.areturn, 1))
    (hc : cells ≤ R.cells) (hs : slots ≤ R.slots) {r : α} (hv : some (.ref x) = inj a r) (h : post r M) :
    W p l e R s m args below meth c H locs cells slots (nf_MQ below (nf_Q inj D a post ex (nf_A a sz)) args s R.cells R.slots (nf_A a sz)) (F0 m pc ls [.ref x]) :=
  W.widen hc hs (nf_mono (fun _ => nf_ofMQ) (W.aret (v := .ref x) K.1 K.2.1 K.2.2.2.2.2.1 (Or.inl ⟨_, rfl⟩) (Or.inr ⟨_, rfl⟩) (nf_end hv h hw K.2.2.2.2.2.2.2.2.2.2.2.2.2) hw.2.2.2.2 hdg K.2.2.2.2.2.2.1))
/-- getfield -/
theorem nf_get {ref C : String} {T : u_T} {N index : Nat} {b : Nat} {fs : List Value} (K : nf_K p s m args meth c own cc nL ret D a sz) (hw : nf_W D a s sz H locs M) (q0 ci k : Nat) (hl : Cond.fieldLink own index ref (T k).2.1 (T k).2.2.1 ∈ nf_good)
    (he : (nf_cw a M)[q0]? = some (b, .inr (ci, fs))) (hc : nf_cl[ci]? = some (C, T, N)) (hin : ∀ w ∈ u_ws C T N, w ∈ nf_good) (hk : k < N) (href : (T k).1 = ref) {v : Value} (hv : fs[k]? = some v) (hdg : decode cc pc = .ok (.getfield index, 3))
    (kk : W p l e R s m args below meth c H locs cells slots Q (F0 m (pc + 3) ls (v :: rest))) : W p l e R s m args below meth c H locs cells slots Q (F0 m pc ls (.ref b :: rest)) :=
  va_get (D := D) (cl := nf_cl) (tys := nf_ty a) (ws := nf_cw a M) (Ts := nf_good) K.1 K.2.1 (fun w hw => K.2.2.2.2.1 w hw) hin K.2.2.2.1 K.2.2.2.2.2.2.2.2.1 hw.1 q0 he hc k hk (nf_Kg K hl) (fun _ h => by rw [← href]; exact h) hv hdg kk
theorem nf_getN {ref C host : String} {T : u_T} {N index : Nat} {b : Nat} {fs : List Value} (K : nf_K p s m args meth c own cc nL ret D a sz) (hw : nf_W D a s sz H locs M) (q0 ci k : Nat) (hl : Cond.fieldLinkNest own index ref (T k).2.1 (T k).2.2.1 host ∈ nf_rest)
    (he : (nf_cw a M)[q0]? = some (b, .inr (ci, fs))) (hc : nf_cl[ci]? = some (C, T, N)) (hin : ∀ w ∈ u_ws C T N, w ∈ nf_good) (hk : k < N) (href : (T k).1 = ref) {v : Value} (hv : fs[k]? = some v) (hdg : decode cc pc = .ok (.getfield index, 3))
    (kk : W p l e R s m args below meth c H locs cells slots Q (F0 m (pc + 3) ls (v :: rest))) : W p l e R s m args below meth c H locs cells slots Q (F0 m pc ls (.ref b :: rest)) :=
  va_getN (D := D) (cl := nf_cl) (tys := nf_ty a) (ws := nf_cw a M) (Ts := nf_good) K.1 K.2.1 (fun w hw => K.2.2.2.2.1 w hw) hin K.2.2.2.1 K.2.2.2.2.2.2.2.2.1 hw.1 q0 he hc k hk ((nf_Kr K hl).use rfl) (fun _ h => by rw [← href]; exact h) hv hdg kk
theorem nf_put {ref C : String} {T : u_T} {N index : Nat} {b : Nat} {fs : List Value} {M' : nf_M} {v : Value} (K : nf_K p s m args meth c own cc nL ret D a sz) (hw : nf_W D a s sz H locs M) (q0 ci k : Nat) (hl : Cond.fieldLink own index ref (T k).2.1 (T k).2.2.1 ∈ nf_good)
    (he : (nf_cw a M)[q0]? = some (b, .inr (ci, fs))) (hset : (nf_cw a M).set q0 (b, .inr (ci, fs.set k v)) = nf_cw a M') (hc : nf_cl[ci]? = some (C, T, N)) (hin : ∀ w ∈ u_ws C T N, w ∈ nf_good) (ty0 : Nat → FieldType) (hty : ∀ k, k < N → parseFieldDescriptor (T k).2.2.1 = some (ty0 k)) (hnm : ∀ a, a < N → ∀ b, b < N → a ≠ b → (T a).2.1 ≠ (T b).2.1)
    (hk : k < N) (href : (T k).1 = ref) (hfin : (T k).2.2.2 = false) (hn : narrow (ty0 k) v = v) (hfit : fits (ty0 k) v = true) (hlen : k < fs.length) (hdg : decode cc pc = .ok (.putfield index, 3))
    (kk : ∀ (H' : Heap) (locs' : List Loc), nf_W D a s sz H' locs' M' → W p l e R s m args below meth c H' locs' cells slots Q (F0 m (pc + 3) ls rest)) : W p l e R s m args below meth c H locs cells slots Q (F0 m pc ls (v :: .ref b :: rest)) :=
  va_put (D := D) (cl := nf_cl) (tys := nf_ty a) (ws := nf_cw a M) (Ts := nf_good) (ty := ty0 k) K.1 K.2.1 (fun w hw => K.2.2.2.2.1 w hw) hin ty0 hty hnm K.2.2.2.1 K.2.2.2.2.2.2.2.2.1 hw.1 hw.2.1 hw.2.2 q0 he hc k hk (nf_Kg K hl) (fun _ h => by rw [← href]; exact h) hfin (hty k hk) hn hfit hlen hdg
    (fun H1 locs1 hP hD hS => kk H1 locs1 ⟨hset ▸ hP, nf_Dm hw.2.1, hS⟩)
/-- a call within the world -/
theorem nf_callW {α β : Type} {inj : (Nat → Nat) → α → Option Value} {injm : (Nat → Nat) → β → Option Value} {post : α → nf_M → Prop} {ex : Nat → nf_M → Prop} {postm : β → nf_M → Prop} {exm : Nat → nf_M → Prop} {y : MethodName} {bytes : ByteArray} {maxL : Nat} {rety : Option FieldType} {rm : Room} {cargs : (Nat → Nat) → List Value}
    {P : nf_M → (α → nf_M → Prop) → (Nat → nf_M → Prop) → Prop} {As st0 : List Value} (K : nf_K p s m args meth c own cc nL ret D a sz) (hw : nf_W D a s sz H locs M)
    (hI : nf_Inv p l e R s m args below meth c H locs cells slots y As (F0 m pc ls st0) rest) (hC : nf_C inj l y bytes maxL rety rm cargs P) (hcode : Cond.code y bytes maxL rety ∈ nf_good) (hinit : Cond.initialized y.cls ∈ nf_good) (hargs : cargs a = As)
    (hR : rm.frames + 1 ≤ R.frames ∧ 8 + (maxL + 11) + rm.locals ≤ R.locals) (hW : (rest.map fun v => v.category).sum ≤ 8) (hls : ls.size = nL) (hf : cells + rm.cells ≤ R.cells ∧ slots + rm.slots ≤ R.slots) (h : P M post ex)
    (kx : ∀ (k : Nat) (M' : nf_M), ex k M' → exm k M')
    (kk : ∀ (r : α) (M' : nf_M) (H' : Heap) (locs' : List Loc), post r M' → nf_W D a s sz H' locs' M' → W p l e R s m args below meth c H' locs' (cells + rm.cells) (slots + rm.slots) (nf_MQ below (nf_Q injm D a postm exm (nf_A a sz)) args s R.cells R.slots (nf_A a sz)) (F0 m (pc + 3) ls ((inj a r).toList ++ rest))) :
    W p l e R s m args below meth c H locs cells slots (nf_MQ below (nf_Q injm D a postm exm (nf_A a sz)) args s R.cells R.slots (nf_A a sz)) (F0 m pc ls st0) := by
  have hsz : s.heap.size ≤ H.size := hw.2.2.1
  have hs0 : s.heap.size = sz := K.2.2.2.2.2.2.2.2.2.2.2.2.2
  have hA : ∀ q, nf_A a H.size q → nf_A a sz q := fun q hq => by
    rcases hq with h1 | h1
    · exact Or.inl h1
    · exact Or.inr (by omega)
  have hM := hC D a H.size M post ex h
  have hjoin : ∀ (st t : State) (L : List Loc), st.heap = H → (∀ q ∈ L, nf_A a H.size q.base) → va_F (nf_A a H.size) st t → va_S (nf_A a sz) s.heap t.heap (locs ++ L) := fun st t L hst hL hF => by
    obtain ⟨f1, f2⟩ := hF
    rw [hst] at f1 f2
    refine ⟨by omega, fun q hq hn => ?_, fun q hq => ?_⟩
    · rw [f2 q (by omega) (fun z => hn (hA q z))]; exact hw.2.2.2.1 q hq hn
    · rcases List.mem_append.mp hq with hq | hq
      · exact hw.2.2.2.2 q hq
      · exact hA _ (hL q hq)
  refine nf_callG (maxL := maxL) (bytes := bytes) (ret := rety) (free := nf_A a H.size) hI hM rfl rfl hR (fun w hw' a' U hWU => ?_) List.mem_cons_self (nf_Kg K hinit) rfl (by rw [K.2.2.1]; exact hls) (lv_room hW) (nf_B_blind D a H.size M _) (fun U hU hWU => ⟨by rw [hargs], by rw [hU], by rw [hU]; exact hw.1, va_K.moved hWU.alike K.2.2.2.2.2.2.2.2.1, hw.2.1.weaken (fun _ _ _ _ => trivial), ?_, nf_NW_warm hWU K.2.2.2.2.2.2.2.2.2.2.1, fun i q hq => (K.2.2.2.2.2.2.2.2.2.2.2.1 i q hq).warm hWU⟩) hf ?_ ?_
  · have hw2 : w ∈ nf_good := by
      rcases List.mem_cons.mp hw' with rfl | h2
      · exact hcode
      · exact h2
    exact word_at hWU (nf_good_in hw2) (nf_Kg K hw2)
  · rw [hU]
    exact nf_st_moved hWU.alike (nf_st_narrow (nf_st_kept K.2.2.2.2.2.2.2.2.2.1 (fun b hb hn => hw.2.2.2.1 b hb hn)) hA)
  · intro v st t L hst hvm hL hq
    obtain ⟨hq | hq, hF⟩ := hq
    · obtain ⟨r, M', e1, hp, hP'⟩ := hq
      cases e1
      exact kk r M' t.heap (locs ++ L) hp ⟨hP', nf_Dm hw.2.1, hjoin st t L hst hL hF⟩
    · obtain ⟨k, q, M', e1, -⟩ := hq
      cases e1
  · intro x st t L hst hvm hL hq
    obtain ⟨hq | hq, hF⟩ := hq
    · obtain ⟨r, M', e1, -⟩ := hq
      cases e1
    · obtain ⟨k, q, M', e1, hex, hX, hP'⟩ := hq
      cases e1
      have hS' := hjoin st t L hst hL hF
      intro T hT X
      refine nf_up (cells := R.cells) (slots := R.slots) rfl rfl rfl K.2.2.2.2.2.2.2.1 K.2.2.2.2.2.2.1 (fun t' ht' hWt => ⟨Or.inr ⟨k, x, M', rfl, kx k M' hex, ?_, by rw [ht']; exact hP'⟩, hS'.F ht'⟩) hS'.2.2 T hT (stand_widen X hf.1 hf.2)
      obtain ⟨n, cell, x1, x2, x3, x4⟩ := hX
      exact ⟨n, cell, x1, by rw [ht']; exact x2, by rw [hWt.alike.findClass, ← hvm.findClass]; exact x3, x4⟩
end NF3
