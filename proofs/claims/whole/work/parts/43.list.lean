/-! constructors: worlds as plain lists of cells that grow -/
def nf_BL (D : va_G) (ws : va_W) (tys : List (ClassId × FieldType)) (sz : Nat) (U : State) : Prop := U.heap.size = sz ∧ va_P D nf_cl ws U.heap ∧ va_K D nf_cl tys U ∧ va_D (fun _ => True) ws ∧ nf_NW U ∧ va_AO "NumberForge$Value" U
def nf_CL (l : Launch) (y : MethodName) (b : ByteArray) (n : Nat) (rm : Room) (args : List Value) (D : va_G) (ws : va_W) (tys : List (ClassId × FieldType)) (post : va_W → List (ClassId × FieldType) → Prop) : Prop :=
  ∀ sz, nf_Met l y (nf_ws y b n none) rm (va_Pc args (nf_BL D ws tys sz)) (fun _ st oc t => (oc = .returned none ∧ ∃ ws' tys', post ws' tys' ∧ va_P D nf_cl ws' t.heap ∧ va_K D nf_cl tys' t ∧ va_D (va_A ws sz) ws') ∧ va_F (va_A ws sz) st t) rm.cells rm.slots (va_A ws sz)
def nf_KL (p : Program) (s : State) (m : MethodId) (args : Array Value) (meth : Method) (c : Code) (y : MethodName) (cc : ByteArray) (nL : Nat) : Prop :=
  p.tables.exec = Jvm.exec ∧ c.code = cc ∧ c.maxLocals = nL ∧ s.vm.findClass y.cls = some m.cls ∧ (∀ w ∈ nf_good, w.before args s = true) ∧ meth.sig.returnType = none ∧ meth.locks = false ∧ meth.name = y.name ∧ nf_NW s ∧ va_AO "NumberForge$Value" s
def nf_WL (D : va_G) (A : Nat → Prop) (s : State) (H : Heap) (locs : List Loc) (ws : va_W) (tys : List (ClassId × FieldType)) : Prop := va_P D nf_cl ws H ∧ va_D A ws ∧ va_S A s.heap H locs ∧ va_K D nf_cl tys s
theorem nf_startL {l : Launch} {y : MethodName} {b : ByteArray} {n : Nat} {rm : Room} {args : List Value} {D : va_G} {ws : va_W} {tys : List (ClassId × FieldType)} {post : va_W → List (ClassId × FieldType) → Prop} (hy : plainFor y = true) (hn : (lg_sl args).length ≤ n)
    (body : ∀ (A : Nat → Prop) (p : Program) (e : Env) (s : State) (m : MethodId) (below : List Frame) (meth : Method) (c : Code) (ls : Array Slot), nf_KL p s m args.toArray meth c y b n → (∀ q, s.heap.size ≤ q → A q) → lv_has ls n (lv_args 0 args) → nf_WL D A s s.heap [] ws tys →
      W p l e rm s m args.toArray below meth c s.heap [] 0 0 (nf_MQ below (fun _ st oc t => (oc = .returned none ∧ ∃ ws' tys', post ws' tys' ∧ va_P D nf_cl ws' t.heap ∧ va_K D nf_cl tys' t ∧ va_D A ws') ∧ va_F A st t) args.toArray s rm.cells rm.slots A) (F0 m 0 ls [])) : nf_CL l y b n rm args D ws tys post := by
  intro sz
  refine nf_ofW (cc := b) (maxL := n) (ret := none) hy rfl ?_
  intro p e s m args' below meth c s₁ B hml hv
  obtain ⟨rfl, hsz, hPw, hKw, hD0, hNW, hAO⟩ := hv
  have hts := atoms_spec (ws := nf_ws y b n none) B.pre
  have hown : s.vm.findClass y.cls = some m.cls := findClass_of_methodNamed B.named
  subst hsz
  rw [lg_entry_eq]
  exact body (va_A ws s.heap.size) p e s m below meth c _ ⟨B.exec, B.bytes, hml, hown, fun w hw => hts w (List.mem_cons_of_mem _ hw), B.returns, B.notSynchronized, (name_of_methodNamed B.named B.method).1, hNW, hAO⟩ (fun q h => Or.inr h) (lv_entry args hn) ⟨hPw, hD0.self, va_S.rf, hKw⟩
section NFL
variable {p : Program} {l : Launch} {e : Env} {R : Room} {s : State} {m : MethodId} {args : Array Value} {below : List Frame} {meth : Method} {c : Code} {H : Heap} {locs : List Loc} {cells slots : Nat} {Q : State → Prop}
variable {y : MethodName} {cc : ByteArray} {nL : Nat} {D : va_G} {A : Nat → Prop} {pc : Nat} {ls : Array Slot} {rest : List Value} {ws : va_W} {tys : List (ClassId × FieldType)}
theorem nf_callL {y2 : MethodName} {bytes : ByteArray} {maxL : Nat} {rm : Room} {post : va_W → List (ClassId × FieldType) → Prop} {As st0 : List Value} (hts : ∀ w ∈ nf_good, w.before args s = true) (hNW : nf_NW s) (hAO : va_AO "NumberForge$Value" s) (hml : c.maxLocals = nL) (hA : ∀ q, s.heap.size ≤ q → A q) (hw : nf_WL D A s H locs ws tys)
    (hI : nf_Inv p l e R s m args below meth c H locs cells slots y2 As (F0 m pc ls st0) rest) (hC : nf_CL l y2 bytes maxL rm As D ws tys post) (hcode : Cond.code y2 bytes maxL none ∈ nf_good) (hinit : Cond.initialized y2.cls ∈ nf_good)
    (hR : rm.frames + 1 ≤ R.frames ∧ 8 + (maxL + 11) + rm.locals ≤ R.locals) (hW : (rest.map fun v => v.category).sum ≤ 8) (hls : ls.size = nL) (hf : cells + rm.cells ≤ R.cells ∧ slots + rm.slots ≤ R.slots)
    (kk : ∀ (ws' : va_W) (tys' : List (ClassId × FieldType)) (H' : Heap) (locs' : List Loc), post ws' tys' → nf_WL D A s H' locs' ws' tys' → W p l e R s m args below meth c H' locs' (cells + rm.cells) (slots + rm.slots) Q (F0 m (pc + 3) ls rest)) :
    W p l e R s m args below meth c H locs cells slots Q (F0 m pc ls st0) := by
  obtain ⟨hP, hD, hS, hK⟩ := hw
  have hsub : ∀ q, va_A ws H.size q → A q := fun q hq => by
    rcases hq with ⟨k, e', hk⟩ | h1
    · exact hD.2 k _ hk
    · exact hA q (Nat.le_trans hS.1 h1)
  refine nf_callG (maxL := maxL) (bytes := bytes) (ret := none) (free := va_A ws H.size) hI (hC H.size) rfl rfl hR (fun w hw' a' U hWU => ?_) List.mem_cons_self (hts _ hinit) rfl (by rw [hml]; exact hls) (lv_room hW) (fun v U g mk h => ?_) (fun U hU hWU => ⟨rfl, by rw [hU], by rw [hU]; exact hP, va_K.moved hWU.alike hK, hD.weaken (fun _ _ _ _ => trivial), nf_NW_warm hWU hNW, hAO.moved hWU.alike⟩) hf ?_ ?_
  · have hw2 : w ∈ nf_good := by
      rcases List.mem_cons.mp hw' with rfl | h2
      · exact hcode
      · exact h2
    exact word_at hWU (nf_good_in hw2) (hts _ hw2)
  · obtain ⟨h0, h1, h2, h3, h4, h5, h6⟩ := h
    exact ⟨h0, h1, h2, va_K.moved (Vm.Alike.refl U.vm) h3, h4, nf_NW_same (u := U) (U := U.calling g mk v) rfl h5, h6.moved (Vm.Alike.refl U.vm)⟩
  · intro v st t L hst hvm hL hq
    obtain ⟨⟨e1, ws', tys', hp, hP', hK', hD'⟩, f1, f2⟩ := hq
    cases e1
    rw [hst] at f1 f2
    refine kk ws' tys' t.heap (locs ++ L) hp ⟨hP', hD'.weaken (fun _ q _ h => hsub _ h), ⟨Nat.le_trans hS.1 f1, fun q hq hn => ?_, fun q hq => ?_⟩, va_K.moved hvm.symm hK'⟩
    · rw [f2 q (Nat.lt_of_lt_of_le hq hS.1) (fun z => hn (hsub q z))]; exact hS.2.1 q hq hn
    · rcases List.mem_append.mp hq with hq | hq
      · exact hS.2.2 q hq
      · exact hsub _ (hL q hq)
  · intro x st t L hst hvm hL hq
    obtain ⟨⟨e1, -⟩, -⟩ := hq
    cases e1
theorem nf_vretL {post : va_W → List (ClassId × FieldType) → Prop} (K : nf_KL p s m args meth c y cc nL) (hw : nf_WL D A s H locs ws tys) (hdg : decode cc pc = .ok (.return_, 1)) (hc : cells ≤ R.cells) (hs : slots ≤ R.slots) (h : post ws tys) :
    W p l e R s m args below meth c H locs cells slots (nf_MQ below (fun _ st oc t => (oc = .returned none ∧ ∃ ws' tys', post ws' tys' ∧ va_P D nf_cl ws' t.heap ∧ va_K D nf_cl tys' t ∧ va_D A ws') ∧ va_F A st t) args s R.cells R.slots A) (F0 m pc ls []) :=
  W.widen hc hs (nf_mono (fun _ => nf_ofMQ) (W.vret K.1 K.2.1 K.2.2.2.2.2.1 (fun t ht hWt => ⟨⟨rfl, ws, tys, h, by rw [ht]; exact hw.1, va_K.moved hWt.alike hw.2.2.2, hw.2.1⟩, hw.2.2.1.F ht⟩) hw.2.2.1.2.2 hdg K.2.2.2.2.2.2.1))
theorem nf_oinitL {idx x : Nat} (K : nf_KL p s m args meth c y cc nL) (hl : Cond.methodLink y.cls idx Lib.objectInit ∈ nf_good) (hi : Cond.instanceMethod Lib.objectInit ∈ nf_good) (hcd : Cond.code Lib.objectInit ⟨#[0xb1]⟩ 1 none ∈ nf_good) (hls : ls.size = nL) (hd : decode cc pc = .ok (.invokespecial idx, 3)) (hf : 1 ≤ R.frames) (hlo : 20 ≤ R.locals)
    (kk : W p l e R s m args below meth c H locs cells slots Q (F0 m (pc + 3) ls [])) : W p l e R s m args below meth c H locs cells slots Q (F0 m pc ls [.ref x]) :=
  W.objInit (g := F0 m pc ls [.ref x]) (rest := []) K.1 K.2.1 K.2.2.2.1 (K.2.2.2.2.1 _ hl) (K.2.2.2.2.1 _ hi) (K.2.2.2.2.1 _ hcd) rfl (by rw [K.2.2.1]; exact hls) rfl hd hf (by show 2 * 0 + 0 + 12 ≤ R.locals; omega) kk
theorem nf_newL {own C : String} {T : u_T} {N index : Nat} (hx : p.tables.exec = Jvm.exec) (hb : c.code = cc) (hown : s.vm.findClass own = some m.cls) (hts : ∀ w ∈ nf_good, w.before args s = true) (hA : ∀ q, s.heap.size ≤ q → A q) (hw : nf_WL D A s H locs ws tys) (ci : Nat) (hc : nf_cl[ci]? = some (C, T, N)) (hin : ∀ w ∈ u_ws C T N, w ∈ nf_good) (ty : Nat → FieldType) (hty : ∀ k, k < N → parseFieldDescriptor (T k).2.2.1 = some (ty k))
    (hcl : Cond.classLink own index C ∈ nf_good) (hinst : Cond.instantiable C N ∈ nf_good) (hini : Cond.initialized C ∈ nf_good) (fs : List Value) (hfs : ∀ j, j < N → defaultValue (ty j) = vp_V fs j) (hcells : cells + 1 ≤ R.cells) (hslots : slots + N ≤ R.slots) (hdg : decode cc pc = .ok (.new index, 3))
    (kk : ∀ (q : Nat) (H1 : Heap), nf_WL D A s H1 locs (ws ++ [(q, .inr (ci, fs))]) tys → W p l e R s m args below meth c H1 locs (cells + 1) (slots + N) Q (F0 m (pc + 3) ls (.ref q :: rest))) : W p l e R s m args below meth c H locs cells slots Q (F0 m pc ls rest) :=
  va_new (ci := ci) (fs := fs) hx hb hts hin ty hty hown (hts _ hcl) (hts _ hinst) (hts _ hini) hw.2.2.2 hw.1 hw.2.1 hw.2.2.1 hA hc hfs hcells hslots hdg (fun q H1 hP hD hS => kk q H1 ⟨hP, hD, hS, hw.2.2.2⟩)
theorem nf_newaL (hx : p.tables.exec = Jvm.exec) (hb : c.code = cc) (hts : ∀ w ∈ nf_good, w.before args s = true) (hA : ∀ q, s.heap.size ≤ q → A q) (hw : nf_WL D A s H locs ws tys) {atype : ArrayType} {ty : FieldType} (harr : Cond.arrayClass ty ∈ nf_good) (hty : newarray.typeOf atype = ty) {n : Int32} {N' : Nat} (a0 : vp_A) (ha : ∀ cA : ClassId, vp_cell cA a0 = arrV cA N' (fun _ => defaultValue ty))
    (hn : ¬ n < 0) (hN : n.toNatClampNeg = N') (hbytes : N' * componentBytes ty ≤ 536870912) (hcells : cells + 1 ≤ R.cells) (hslots : slots + N' ≤ R.slots) (hdg : decode cc pc = .ok (.newarray atype, 2))
    (kk : ∀ (q : Nat) (cA : ClassId) (H1 : Heap), nf_WL D A s H1 locs (ws ++ [(q, .inl (cA, a0))]) (tys ++ [(cA, ty)]) → W p l e R s m args below meth c H1 locs (cells + 1) (slots + N') Q (F0 m (pc + 2) ls (.ref q :: rest))) : W p l e R s m args below meth c H locs cells slots Q (F0 m pc ls (.int n :: rest)) :=
  va_newa hx hb (by rw [hty]; exact hts _ harr) hty hw.2.2.2 hw.1 hw.2.1 hw.2.2.1 hA ha hn hN hbytes hcells hslots hdg (fun q cA H1 hK hP hD hS => kk q cA H1 ⟨hP, hD, hS, hK⟩)
theorem nf_putL {ref C : String} {T : u_T} {N index : Nat} {b : Nat} {fs : List Value} {ws' : va_W} {v : Value} (K : nf_KL p s m args meth c y cc nL) (hw : nf_WL D A s H locs ws tys) (q0 ci k : Nat) (hl : Cond.fieldLink y.cls index ref (T k).2.1 (T k).2.2.1 ∈ nf_good)
    (he : ws[q0]? = some (b, .inr (ci, fs))) (hset : ws.set q0 (b, .inr (ci, fs.set k v)) = ws') (hc : nf_cl[ci]? = some (C, T, N)) (hin : ∀ w ∈ u_ws C T N, w ∈ nf_good) (ty0 : Nat → FieldType) (hty : ∀ k, k < N → parseFieldDescriptor (T k).2.2.1 = some (ty0 k)) (hnm : ∀ a, a < N → ∀ b, b < N → a ≠ b → (T a).2.1 ≠ (T b).2.1)
    (hk : k < N) (href : (T k).1 = ref) (hfin : (T k).2.2.2 = false ∨ ((T k).2.2.2 = true ∧ y.name = "<init>" ∧ (T k).1 = y.cls)) (hn : narrow (ty0 k) v = v) (hfit : fits (ty0 k) v = true) (hlen : k < fs.length) (hdg : decode cc pc = .ok (.putfield index, 3))
    (kk : ∀ (H' : Heap) (locs' : List Loc), nf_WL D A s H' locs' ws' tys → W p l e R s m args below meth c H' locs' cells slots Q (F0 m (pc + 3) ls rest)) : W p l e R s m args below meth c H locs cells slots Q (F0 m pc ls (v :: .ref b :: rest)) := by
  subst hset
  rcases hfin with hfin | ⟨hfin, hin2, hdecl⟩
  · exact va_put (D := D) (cl := nf_cl) (tys := tys) (ws := ws) (Ts := nf_good) (ty := ty0 k) K.1 K.2.1 K.2.2.2.2.1 hin ty0 hty hnm K.2.2.2.1 hw.2.2.2 hw.1 hw.2.1 hw.2.2.1 q0 he hc k hk (K.2.2.2.2.1 _ hl) (fun _ h => by rw [← href]; exact h) hfin (hty k hk) hn hfit hlen hdg (fun H1 locs1 hP hD hS => kk H1 locs1 ⟨hP, hD, hS, hw.2.2.2⟩)
  · exact va_putF (D := D) (cl := nf_cl) (tys := tys) (ws := ws) (Ts := nf_good) (ty := ty0 k) K.1 K.2.1 K.2.2.2.2.1 hin ty0 hty hnm K.2.2.2.1 hw.2.2.2 hw.1 hw.2.1 hw.2.2.1 q0 he hc k hk (K.2.2.2.2.1 _ hl) (fun _ h => by rw [← href]; exact h) hfin (by rw [K.2.2.2.2.2.2.2.1, hin2]) hdecl (hty k hk) hn hfit hlen hdg (fun H1 locs1 hP hD hS => kk H1 locs1 ⟨hP, hD, hS, hw.2.2.2⟩)
theorem nf_getL {ref C : String} {T : u_T} {N index : Nat} {b : Nat} {fs : List Value} (K : nf_KL p s m args meth c y cc nL) (hw : nf_WL D A s H locs ws tys) (q0 ci k : Nat) (hl : Cond.fieldLink y.cls index ref (T k).2.1 (T k).2.2.1 ∈ nf_good)
    (he : ws[q0]? = some (b, .inr (ci, fs))) (hc : nf_cl[ci]? = some (C, T, N)) (hin : ∀ w ∈ u_ws C T N, w ∈ nf_good) (hk : k < N) (href : (T k).1 = ref) {v : Value} (hv : fs[k]? = some v) (hdg : decode cc pc = .ok (.getfield index, 3))
    (kk : W p l e R s m args below meth c H locs cells slots Q (F0 m (pc + 3) ls (v :: rest))) : W p l e R s m args below meth c H locs cells slots Q (F0 m pc ls (.ref b :: rest)) :=
  va_get (D := D) (cl := nf_cl) (tys := tys) (ws := ws) (Ts := nf_good) K.1 K.2.1 K.2.2.2.2.1 hin K.2.2.2.1 hw.2.2.2 hw.1 q0 he hc k hk (K.2.2.2.2.1 _ hl) (fun _ h => by rw [← href]; exact h) hv hdg kk
end NFL
theorem nf_lset {α : Type} (X : List α) (a b : α) : (X ++ [a]).set X.length b = X ++ [b] := by simp
theorem nf_lget {α : Type} (X : List α) (a : α) : (X ++ [a])[X.length]? = some a := by simp
