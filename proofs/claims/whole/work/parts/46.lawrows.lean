/-! rows of the law's own walk (printed by wip/whole/gen/law3a.py) -/
def nf_KW (p : Program) (s : State) (m : MethodId) (args : Array Value) (meth : Method) (c : Code) (own : String) (cc : ByteArray) (nL : Nat) (D : va_G) (a : Nat → Nat) : Prop :=
  p.tables.exec = Jvm.exec ∧ c.code = cc ∧ c.maxLocals = nL ∧ s.vm.findClass own = some m.cls ∧ (∀ w ∈ nf_good, w.before args s = true) ∧ True ∧ True ∧ True ∧
  va_K D nf_cl (nf_ty a) s ∧ nf_st a (nf_A a s.heap.size) s s.heap ∧ nf_NW s ∧ nf_NS a s ∧ nf_NC s ∧ (∀ k, k < 29 → s.heap.size ≤ a k)
theorem nf_NC_moved {u U : State} (hvm : u.vm.Alike U.vm) (h : nf_NC u) : nf_NC U := fun i j n n' hij hi hj => va_Nc.moved hvm (h i j n n' hij hi hj)
theorem nf_BH_blind (D : va_G) (a : Nat → Nat) (sz : Nat) (M : nf_M) (av : List Value) : FrameBlind (va_Pc av (nf_BH D a sz M)) := fun v U g mk h =>
  ⟨(nf_B_blind D a sz M av v U g mk ⟨h.1, h.2.1⟩).1, (nf_B_blind D a sz M av v U g mk ⟨h.1, h.2.1⟩).2, nf_NC_moved (Vm.Alike.refl U.vm) h.2.2⟩
section NF8
variable {p : Program} {l : Launch} {e : Env} {R : Room} {s : State} {m : MethodId} {args : Array Value} {below : List Frame} {meth : Method} {c : Code} {H : Heap} {locs : List Loc} {cells slots : Nat} {Q Q' : State → Prop}
variable {y : MethodName} {bytes cc : ByteArray} {maxL nL : Nat} {ret : Option FieldType} {own C host : String} {index : Nat} {b : Addr} {As rest : List Value} {g : JFrame}
theorem nf_intoH {hs : List (Nat × Nat × Nat × Nat)} {y : MethodName} {ws : List Cond} {rm : Room} {Pc : Array Value → State → Prop} {Qc : Array Value → State → Outcome → State → Prop} {mc ms : Nat} {free : Addr → Prop} {bytes : ByteArray} {maxL : Nat} {ret : Option FieldType} {T : State}
    (hM : nf_Met l y ws rm Pc Qc mc ms free) (hrc : rm.cells = mc) (hrs : rm.slots = ms) (hframes : rm.frames + 1 ≤ R.frames) (hlocals : 8 + (maxL + 11) + rm.locals ≤ R.locals)
    (hws : ∀ w ∈ ws, ∀ a' U, s.WarmedH U.vm → w.before a' U = true) (hcode : Cond.codeWith y bytes maxL ret hs ∈ ws) (hinit : (Cond.initialized y.cls).before args s = true)
    (X : Stand p l e R s m args below meth c T locs cells slots) {g : JFrame} (hg : g.method = m) (hsize : g.locals.size = c.maxLocals) {ig : Instr} (hdg : decode c.code g.pc = .ok (ig, 3))
    (hW : 2 * g.monitorRoom + (g.stack.map fun v => v.category).sum ≤ 8) {mk : MethodId} (hn : T.methodNamed? y = some mk) {a : Array Value} (hP : Pc a (T.calling g mk a)) (hf : cells + mc ≤ R.cells ∧ slots + ms ≤ R.slots) :
    (∃ (v : Option Value) (t T' : State) (L : List Loc), Stand p l e R s m args below meth c T' (locs ++ L) (cells + mc) (slots + ms) ∧ (∀ q ∈ L, free q.base) ∧ T'.heap = t.heap ∧ T'.vm = t.vm ∧ Qc a (T.calling g mk a) (.returned v) t ∧
      Steps p.tables e below (doInvoke e (T.setTop g) [] mk a).1 (T'.setTop { g with pc := g.pc + 3, stack := v.toList ++ g.stack })) ∨
    (∃ (x : Addr) (t T' : State) (L : List Loc), Stand p l e R s m args below meth c T' (locs ++ L) (cells + mc) (slots + ms) ∧ (∀ q ∈ L, free q.base) ∧ T'.heap = t.heap ∧ T'.vm = t.vm ∧ Qc a (T.calling g mk a) (.threw x) t ∧
      Steps p.tables e below (doInvoke e (T.setTop g) [] mk a).1 ((T'.setTop g).pushFrame (.throwing x))) := by
  have hwarm : s.WarmedH T.vm := X.warmed
  have h2 : (Cond.codeWith y bytes maxL ret hs).before a T = true := hws _ hcode _ _ hwarm
  have h3 : (Cond.initialized y.cls).before a T = true := word_at hwarm (Or.inl (by first | rfl | simp [Cond.onTables, Cond.keeps, Cond.steady])) hinit
  obtain ⟨mk0, methY, cY, hn0, hmY, hcY, -, hlY, -, -, -, -⟩ := Cond.codeWith_spec h2
  cases Option.some.inj (hn.symm.trans hn0)
  obtain ⟨kY, hkY, -⟩ := className_of_methodNamed hn
  have hinitY : kY.init = .initialized := Cond.initialized_spec (findClass_of_methodNamed hn) hkY h3
  have h : At T g.method c below := by rw [hg]; exact X.here
  have happ : (headSpec ws rm).appliesLoose y e.platform (T.calling g mk a) = true :=
    Spec.appliesLoose_calling (g := g) h hdg hn hkY hinitY
      (X.room_calling (g := g) (R' := (headSpec ws rm).room) hsize hmY hcY hframes (by rw [hlY]; show _ + _ + (maxL + 11) + rm.locals ≤ _; omega) (by show cells + rm.cells ≤ _; omega) (by show slots + rm.slots ≤ _; omega)) (atoms_intro fun w hw => hws w hw _ _ hwarm)
  obtain ⟨mid, hmid⟩ := h.above
  have hfr : (T.setTop g).frames = (.java g :: mid) ++ below := by rw [State.frames_setTop' g h.top, hmid]; rfl
  obtain ⟨o, t, hsteps, -, hend, hq, L, hfe, hL⟩ := Jvm.Free.Steps.callFree hM p X.admits X.cas X.clock (acts := []) hfr happ hP trivial
  rw [State.frames_setTop' g h.top] at hend
  have hfr2 : T.frames.tail = below := X.tail
  cases o with
  | returned v =>
    left
    obtain ⟨T', X', -, -, e1⟩ := X.outOf (mk := mk) (a := a) hg hdg (by rw [hfr2] at hend; exact hend) hfe.1 hfe.2
    refine ⟨v, t, T', L, X', hL, ?_, ?_, hq, ?_⟩
    · rw [e1]; simp [State.setTop, State.modifyTopJava, State.setFrames]
    · rw [e1]; simp [State.setTop, State.modifyTopJava, State.setFrames]
    · rw [← e1]; exact hsteps
  | threw x =>
    right
    obtain ⟨T', X', -, -, e1⟩ := X.outOfThrown (mk := mk) (a := a) hg (by rw [hfr2] at hend; exact hend) hfe.1 hfe.2
    refine ⟨x, t, T', L, X', hL, ?_, ?_, hq, ?_⟩
    · rw [e1]; simp [State.setTop, State.modifyTopJava, State.setFrames, State.pushFrame]
    · rw [e1]; simp [State.setTop, State.modifyTopJava, State.setFrames, State.pushFrame]
    · rw [← e1]; exact hsteps
theorem nf_invSH {hs : List (Nat × Nat × Nat × Nat)} (hexec : p.tables.exec = Jvm.exec) (hb : c.code = cc) (hown : s.vm.findClass own = some m.cls) (hlink : (Cond.methodLink own index y).before args s = true) (hstat : (Cond.static y).before args s = true) (hinit : (Cond.initialized y.cls).before args s = true)
    (hcode : (Cond.codeWith y bytes maxL ret hs).before args s = true) (hy : y.cls ≠ "java/lang/invoke/MethodHandle" ∧ y.cls ≠ "java/lang/invoke/VarHandle")
    (hg : g.method = m) (hlen : (parseMethodDescriptor y.desc).map (fun d => d.parameters.length) = some As.length)
    (hstack : g.stack = As.reverse ++ rest) (hdg : decode cc g.pc = .ok (.invokestatic index, 3)) :
    nf_Inv p l e R s m args below meth c H locs cells slots y As g rest := by
  intro T hT X
  subst hb
  obtain ⟨mk, methM, cM, hnamed, hmethM, -, -, -, -, -, -, hsigM⟩ := Cond.codeWith_spec hcode
  have hstatic : methM.isStatic = true := Cond.static_spec hnamed hmethM hstat
  obtain ⟨kP, hkP, -⟩ := className_of_methodNamed hnamed
  have hinitP : kP.init = .initialized := Cond.initialized_spec (findClass_of_methodNamed hnamed) hkP hinit
  rw [hsigM] at hlen
  obtain ⟨vm₁, X₁, hstep₁⟩ := X.invokestatic hexec hown hlink hnamed hmethM hstatic hkP hinitP hy (g := g) hg (argsL := As) (rest := rest) (Option.some.inj hlen).symm hstack hdg
  exact ⟨mk, vm₁, X₁.warmed, X₁, X₁.named hnamed, ⟨_, hdg⟩, hstep₁⟩
theorem nf_callGH {hs : List (Nat × Nat × Nat × Nat)} {ws : List Cond} {rm : Room} {Pc : Array Value → State → Prop} {Qc : Array Value → State → Outcome → State → Prop} {mc ms : Nat} {free : Addr → Prop}
    (hI : nf_Inv p l e R s m args below meth c H locs cells slots y As g rest) (hM : nf_Met l y ws rm Pc Qc mc ms free) (hrc : rm.cells = mc) (hrs : rm.slots = ms)
    (hR : rm.frames + 1 ≤ R.frames ∧ 8 + (maxL + 11) + rm.locals ≤ R.locals) (hws : ∀ w ∈ ws, ∀ a' U, s.WarmedH U.vm → w.before a' U = true) (hcode : Cond.codeWith y bytes maxL ret hs ∈ ws) (hinit : (Cond.initialized y.cls).before args s = true)
    (hg : g.method = m) (hsize : g.locals.size = c.maxLocals) (hW : 2 * g.monitorRoom + (rest.map fun v => v.category).sum ≤ 8) (hblind : FrameBlind Pc) (hP : ∀ U : State, U.heap = H → s.WarmedH U.vm → Pc As.toArray U) (hf : cells + mc ≤ R.cells ∧ slots + ms ≤ R.slots)
    (kk : ∀ (v : Option Value) (st t : State) (L : List Loc), st.heap = H → s.vm.Alike t.vm → (∀ q ∈ L, free q.base) → Qc As.toArray st (.returned v) t → W p l e R s m args below meth c t.heap (locs ++ L) (cells + mc) (slots + ms) Q { g with pc := g.pc + 3, stack := v.toList ++ rest })
    (kx : ∀ (x : Addr) (st t : State) (L : List Loc), st.heap = H → s.vm.Alike t.vm → (∀ q ∈ L, free q.base) → Qc As.toArray st (.threw x) t → nf_WT p l e R s m args below meth c t.heap (locs ++ L) (cells + mc) (slots + ms) Q { g with stack := rest } x) :
    W p l e R s m args below meth c H locs cells slots Q g := by
  intro T hT X
  obtain ⟨mk, vm₁, hW₁, X₁, hn, ⟨ig, hdg⟩, st⟩ := hI T hT X
  have hT1 : (T.setVm vm₁).heap = H := hT
  rcases nf_intoH (g := { g with stack := rest }) hM hrc hrs hR.1 hR.2 hws hcode hinit X₁ hg hsize hdg hW hn (hblind _ _ _ _ (hP _ hT1 X₁.warmed)) hf with ⟨v, t, T', L, X', hL, e1, e2, hq, hst⟩ | ⟨x, t, T', L, X', hL, e1, e2, hq, hst⟩
  · obtain ⟨tt, a1, b1⟩ := kk v ((T.setVm vm₁).calling { g with stack := rest } mk As.toArray) t L hT1 (by rw [← e2]; exact X'.warmed.alike) hL hq T' e1 X'
    exact ⟨tt, st _ fun acts => by rw [doInvoke_state]; exact hst.trans a1, b1⟩
  · obtain ⟨tt, a1, b1⟩ := kx x ((T.setVm vm₁).calling { g with stack := rest } mk As.toArray) t L hT1 (by rw [← e2]; exact X'.warmed.alike) hL hq T' e1 X'
    exact ⟨tt, st _ fun acts => by rw [doInvoke_state]; exact hst.trans a1, b1⟩
end NF8
section NF9
variable {p : Program} {l : Launch} {e : Env} {R : Room} {s : State} {m : MethodId} {args : Array Value} {below : List Frame} {meth : Method} {c : Code} {H : Heap} {locs : List Loc} {cells slots : Nat} {Q : State → Prop}
variable {own : String} {cc : ByteArray} {nL : Nat} {D : va_G} {a : Nat → Nat} {M : nf_M} {pc : Nat} {ls : Array Slot} {rest : List Value}
theorem nf_KgW (K : nf_KW p s m args meth c own cc nL D a) {w : Cond} (h : w ∈ nf_good) : w.before args s = true := K.2.2.2.2.1 w h
theorem nf_rcvW (K : nf_KW p s m args meth c own cc nL D a) (hw : nf_W D a s s.heap.size H locs M) (q0 ci : Nat) {q : vw_C} {b : Nat} {fs : List Value} (he : (nf_cw a M)[q0]? = some (b, .inr (ci, fs))) (hc : nf_cl[ci]? = some q) : ∃ cell : Cell, H[b]? = some cell ∧ cell.vm.isStatics = false ∧ s.vm.findClass q.1 = some cell.cls := va_recv (tys := nf_ty a) K.2.2.2.2.2.2.2.2.1 hw.1 hc he
theorem nf_laldW (K : nf_KW p s m args meth c own cc nL D a) (hw : nf_W D a s s.heap.size H locs M) (q0 t0 : Nat) {b cA n : Nat} {f : Nat → Int64} (he : (nf_cw a M)[q0]? = some (b, .inl (cA, n, .inr (.inl f)))) (ht : (nf_ty a)[t0]? = some (cA, .long)) {i : Int32} (hin : vp_in i n) (hdg : decode cc pc = .ok (.laload, 1))
    (kk : W p l e R s m args below meth c H locs cells slots Q (F0 m (pc + 1) ls (.long (f i.toNatClampNeg) :: rest))) : W p l e R s m args below meth c H locs cells slots Q (F0 m pc ls (.int i :: .ref b :: rest)) :=
  va_lald (D := D) (cl := nf_cl) (tys := nf_ty a) (ws := nf_cw a M) K.1 K.2.1 K.2.2.2.2.2.2.2.2.1 hw.1 q0 t0 he ht hin hdg kk
theorem nf_daldW (K : nf_KW p s m args meth c own cc nL D a) (hw : nf_W D a s s.heap.size H locs M) (q0 t0 : Nat) {b cA n : Nat} {f : Nat → UInt64} (he : (nf_cw a M)[q0]? = some (b, .inl (cA, n, .inr (.inr (.inr (.inl f)))))) (ht : (nf_ty a)[t0]? = some (cA, .double)) {i : Int32} (hin : vp_in i n) (hdg : decode cc pc = .ok (.daload, 1))
    (kk : W p l e R s m args below meth c H locs cells slots Q (F0 m (pc + 1) ls (.double (f i.toNatClampNeg) :: rest))) : W p l e R s m args below meth c H locs cells slots Q (F0 m pc ls (.int i :: .ref b :: rest)) :=
  va_dald (D := D) (cl := nf_cl) (tys := nf_ty a) (ws := nf_cw a M) K.1 K.2.1 K.2.2.2.2.2.2.2.2.1 hw.1 q0 t0 he ht hin hdg kk
/-- an int of the script -/
theorem nf_sldW (K : nf_KW p s m args meth c own cc nL D a) (hw : nf_W D a s s.heap.size H locs M) {b L : Nat} {xs : Nat → Int32} (hX : va_X b L xs s s.heap) (hbl : b < s.heap.size) {i v : Int32} (hin : vp_in i L) (hv : xs i.toNatClampNeg = v) (hdg : decode cc pc = .ok (.iaload, 1))
    (kk : W p l e R s m args below meth c H locs cells slots Q (F0 m (pc + 1) ls (.int v :: rest))) : W p l e R s m args below meth c H locs cells slots Q (F0 m pc ls (.int i :: .ref b :: rest)) := by
  refine va_sld (A := nf_A a s.heap.size) K.1 K.2.1 hX hbl (fun h => ?_) hw.2.2 hin hdg (by rw [hv]; exact kk)
  rcases h with ⟨k, hk, e1⟩ | h
  · have := K.2.2.2.2.2.2.2.2.2.2.2.2.2 k hk
    omega
  · omega
theorem nf_callLW {α : Type} {inj : (Nat → Nat) → α → Option Value} {post : α → nf_M → Prop} {y : MethodName} {bytes : ByteArray} {maxL : Nat} {rety : Option FieldType} {rm : Room} {cargs : (Nat → Nat) → List Value}
    {P : nf_M → (α → nf_M → Prop) → (Nat → nf_M → Prop) → Prop} {As st0 : List Value} (K : nf_KW p s m args meth c own cc nL D a) (hw : nf_W D a s s.heap.size H [] M)
    (hI : nf_Inv p l e R s m args below meth c H [] cells slots y As (F0 m pc ls st0) rest) (hC : nf_C inj l y bytes maxL rety rm cargs P) (hcode : Cond.code y bytes maxL rety ∈ nf_good) (hinit : Cond.initialized y.cls ∈ nf_good) (hargs : cargs a = As)
    (hR : rm.frames + 1 ≤ R.frames ∧ 8 + (maxL + 11) + rm.locals ≤ R.locals) (hW : (rest.map fun v => v.category).sum ≤ 8) (hls : ls.size = nL) (hf : cells + rm.cells ≤ R.cells ∧ slots + rm.slots ≤ R.slots) (h : P M post (fun _ _ => False))
    (kk : ∀ (r : α) (M' : nf_M) (H' : Heap), post r M' → nf_W D a s s.heap.size H' [] M' → W p l e R s m args below meth c H' [] (cells + rm.cells) (slots + rm.slots) Q (F0 m (pc + 3) ls ((inj a r).toList ++ rest))) :
    W p l e R s m args below meth c H [] cells slots Q (F0 m pc ls st0) := by
  have hsz : s.heap.size ≤ H.size := hw.2.2.1
  have hA : ∀ q, nf_A a H.size q → nf_A a s.heap.size q := fun q hq => by
    rcases hq with h1 | h1
    · exact Or.inl h1
    · exact Or.inr (by omega)
  have hM := hC D a H.size M post (fun _ _ => False) h
  have hjoin : ∀ (st t : State) (L : List Loc), st.heap = H → (∀ q ∈ L, nf_A a H.size q.base) → va_F (nf_A a H.size) st t → va_S (nf_A a s.heap.size) s.heap t.heap ([] ++ L) := fun st t L hst hL hF => by
    obtain ⟨f1, f2⟩ := hF
    rw [hst] at f1 f2
    refine ⟨by omega, fun q hq hn => ?_, fun q hq => ?_⟩
    · rw [f2 q (by omega) (fun z => hn (hA q z))]; exact hw.2.2.2.1 q hq hn
    · exact hA _ (hL q hq)
  have hback : ∀ (L : List Loc), (∀ q ∈ L, nf_A a H.size q.base) → ∀ q ∈ ([] ++ L : List Loc), s.heap.size ≤ q.base := fun L hL q hq => by
    rcases hA _ (hL q hq) with ⟨k, hk, e1⟩ | h1
    · rw [e1]; exact K.2.2.2.2.2.2.2.2.2.2.2.2.2 k hk
    · exact h1
  refine nf_callG (maxL := maxL) (bytes := bytes) (ret := rety) (free := nf_A a H.size) hI hM rfl rfl hR (fun w hw' a' U hWU => ?_) List.mem_cons_self (nf_KgW K hinit) rfl (by rw [K.2.2.1]; exact hls) (lv_room hW) (nf_B_blind D a H.size M _) (fun U hU hWU => ⟨by rw [hargs], by rw [hU], by rw [hU]; exact hw.1, va_K.moved hWU.alike K.2.2.2.2.2.2.2.2.1, hw.2.1.weaken (fun _ _ _ _ => trivial), ?_, nf_NW_warm hWU K.2.2.2.2.2.2.2.2.2.2.1, fun i q hq => (K.2.2.2.2.2.2.2.2.2.2.2.1 i q hq).warm hWU⟩) hf ?_ ?_
  · have hw2 : w ∈ nf_good := by
      rcases List.mem_cons.mp hw' with rfl | h2
      · exact hcode
      · exact h2
    exact word_at hWU (nf_good_in hw2) (nf_KgW K hw2)
  · rw [hU]
    exact nf_st_moved hWU.alike (nf_st_narrow (nf_st_kept K.2.2.2.2.2.2.2.2.2.1 (fun b hb hn => hw.2.2.2.1 b hb hn)) hA)
  · intro v st t L hst hvm hL hq
    obtain ⟨hq | hq, hF⟩ := hq
    · obtain ⟨r, M', e1, hp, hP'⟩ := hq
      cases e1
      have hS' := hjoin st t L hst hL hF
      exact va_forget (hback L hL) (kk r M' t.heap hp ⟨hP', nf_Dm hw.2.1, hS'.1, hS'.2.1, fun q hq => absurd hq (List.not_mem_nil)⟩)
    · obtain ⟨k, q, M', e1, -⟩ := hq
      cases e1
  · intro x st t L hst hvm hL hq
    obtain ⟨hq | hq, hF⟩ := hq
    · obtain ⟨r, M', e1, -⟩ := hq
      cases e1
    · obtain ⟨k, q, M', e1, hex, -⟩ := hq
      exact hex.elim
theorem nf_callLWH {α : Type} {inj : (Nat → Nat) → α → Option Value} {post : α → nf_M → Prop} {y : MethodName} {bytes : ByteArray} {maxL : Nat} {rety : Option FieldType} {hs : List (Nat × Nat × Nat × Nat)} {rm : Room} {cargs : (Nat → Nat) → List Value}
    {P : nf_M → (α → nf_M → Prop) → (Nat → nf_M → Prop) → Prop} {As st0 : List Value} (K : nf_KW p s m args meth c own cc nL D a) (hw : nf_W D a s s.heap.size H [] M)
    (hI : nf_Inv p l e R s m args below meth c H [] cells slots y As (F0 m pc ls st0) rest) (hC : nf_CH inj l y bytes maxL rety hs rm cargs P) (hcode : Cond.codeWith y bytes maxL rety hs ∈ nf_good) (hinit : Cond.initialized y.cls ∈ nf_good) (hargs : cargs a = As)
    (hR : rm.frames + 1 ≤ R.frames ∧ 8 + (maxL + 11) + rm.locals ≤ R.locals) (hW : (rest.map fun v => v.category).sum ≤ 8) (hls : ls.size = nL) (hf : cells + rm.cells ≤ R.cells ∧ slots + rm.slots ≤ R.slots) (h : P M post (fun _ _ => False))
    (kk : ∀ (r : α) (M' : nf_M) (H' : Heap), post r M' → nf_W D a s s.heap.size H' [] M' → W p l e R s m args below meth c H' [] (cells + rm.cells) (slots + rm.slots) Q (F0 m (pc + 3) ls ((inj a r).toList ++ rest))) :
    W p l e R s m args below meth c H [] cells slots Q (F0 m pc ls st0) := by
  have hsz : s.heap.size ≤ H.size := hw.2.2.1
  have hA : ∀ q, nf_A a H.size q → nf_A a s.heap.size q := fun q hq => by
    rcases hq with h1 | h1
    · exact Or.inl h1
    · exact Or.inr (by omega)
  have hM := hC D a H.size M post (fun _ _ => False) h
  have hjoin : ∀ (st t : State) (L : List Loc), st.heap = H → (∀ q ∈ L, nf_A a H.size q.base) → va_F (nf_A a H.size) st t → va_S (nf_A a s.heap.size) s.heap t.heap ([] ++ L) := fun st t L hst hL hF => by
    obtain ⟨f1, f2⟩ := hF
    rw [hst] at f1 f2
    refine ⟨by omega, fun q hq hn => ?_, fun q hq => ?_⟩
    · rw [f2 q (by omega) (fun z => hn (hA q z))]; exact hw.2.2.2.1 q hq hn
    · exact hA _ (hL q hq)
  have hback : ∀ (L : List Loc), (∀ q ∈ L, nf_A a H.size q.base) → ∀ q ∈ ([] ++ L : List Loc), s.heap.size ≤ q.base := fun L hL q hq => by
    rcases hA _ (hL q hq) with ⟨k, hk, e1⟩ | h1
    · rw [e1]; exact K.2.2.2.2.2.2.2.2.2.2.2.2.2 k hk
    · exact h1
  refine nf_callGH (maxL := maxL) (bytes := bytes) (ret := rety) (free := nf_A a H.size) hI hM rfl rfl hR (fun w hw' a' U hWU => ?_) List.mem_cons_self (nf_KgW K hinit) rfl (by rw [K.2.2.1]; exact hls) (lv_room hW) (nf_BH_blind D a H.size M _) (fun U hU hWU => ⟨by rw [hargs], ⟨by rw [hU], by rw [hU]; exact hw.1, va_K.moved hWU.alike K.2.2.2.2.2.2.2.2.1, hw.2.1.weaken (fun _ _ _ _ => trivial), ?_, nf_NW_warm hWU K.2.2.2.2.2.2.2.2.2.2.1, fun i q hq => (K.2.2.2.2.2.2.2.2.2.2.2.1 i q hq).warm hWU⟩, nf_NC_moved hWU.alike K.2.2.2.2.2.2.2.2.2.2.2.2.1⟩) hf ?_ ?_
  · have hw2 : w ∈ nf_good := by
      rcases List.mem_cons.mp hw' with rfl | h2
      · exact hcode
      · exact h2
    exact word_at hWU (nf_good_in hw2) (nf_KgW K hw2)
  · rw [hU]
    exact nf_st_moved hWU.alike (nf_st_narrow (nf_st_kept K.2.2.2.2.2.2.2.2.2.1 (fun b hb hn => hw.2.2.2.1 b hb hn)) hA)
  · intro v st t L hst hvm hL hq
    obtain ⟨hq | hq, hF⟩ := hq
    · obtain ⟨r, M', e1, hp, hP'⟩ := hq
      cases e1
      have hS' := hjoin st t L hst hL hF
      exact va_forget (hback L hL) (kk r M' t.heap hp ⟨hP', nf_Dm hw.2.1, hS'.1, hS'.2.1, fun q hq => absurd hq (List.not_mem_nil)⟩)
    · obtain ⟨k, q, M', e1, -⟩ := hq
      cases e1
  · intro x st t L hst hvm hL hq
    obtain ⟨hq | hq, hF⟩ := hq
    · obtain ⟨r, M', e1, -⟩ := hq
      cases e1
    · obtain ⟨k, q, M', e1, hex, -⟩ := hq
      exact hex.elim
end NF9
