/-! catching: the search through a method's handlers, its entries linked or not yet; contracts of methods with handlers -/
def nf_NC (U : State) : Prop := ∀ (i j : Nat) (n n' : String), i ≠ j → nf_exn[i]? = some n → nf_exn[j]? = some n' → va_Nc n n' U
section NF6
variable {p : Program} {l : Launch} {e : Env} {R : Room} {s : State} {m : MethodId} {args : Array Value} {below : List Frame} {meth : Method} {c : Code} {H : Heap} {locs : List Loc} {cells slots : Nat} {Q : State → Prop}
theorem nf_go_cold {f : JFrame} {x : Addr} {y : ExceptionTableEntry} {t : List ExceptionTableEntry} {cT : ClassId} {vm' : Vm} {u : State} {cell : Cell} {P : Handler → Jvm.Pre} {E : Jvm.CtlPost} {d : Bool} {acts : List Action} (hx : covers y f.pc = true) (h0 : y.catchType ≠ 0)
    (hg : (Jvm.resolveClass f.method.cls y.catchType).Gives e.toSetting u.vm (.ok cT) vm') (hr : vm'.classReady f.method.cls y.catchType cT) (hsz : vm'.classes.size ≤ u.vm.classes.size)
    (hcell : u.heap[x]? = some cell) (hobj : ∀ k, cell.vm ≠ .statics k) (hk : ∃ k, vm'.classes[cell.cls]? = some k) (hc : ∃ k, vm'.classes[cT]? = some k) :
    wp (findHandler.go f x (y :: t)) P E e d acts u ↔ if vm'.assignable cell.cls cT = true then P (.found y.handlerPc) d acts (u.setVm vm') else wp (findHandler.go f x t) P E e d acts (u.setVm vm') := by
  obtain ⟨ha, ht⟩ := hg.op (op := VmOp.resolveClass f.method.cls y.catchType) rfl
  simp only [covers] at hx
  cases hfit : vm'.assignable cell.cls cT <;>
    simp [findHandler.go, hx, h0, ha, ht, hsz, hcell, hobj, hk, hc, hfit, VmOp.dirties, VmOp.acts]
/-- the entries before the one of the object's own kind are passed; there it is caught -/
theorem nf_go {f : JFrame} {x : Addr} {own : String} {cell : Cell} {s0 : State} {a0 : Array Value} {nx : String} (hpl : e.platform.magicAccessors = ({} : Platform).magicAccessors) (hown : s0.vm.findClass own = some f.method.cls) (hcl : s0.vm.findClass nx = some cell.cls) (hobj : cell.vm.isStatics = false) (hself : ∀ vm', s0.WarmedH vm' → vm'.assignable cell.cls cell.cls = true) :
    ∀ (es : List ExceptionTableEntry) (ns : List String) (j : Nat) (y : ExceptionTableEntry) (u : State), s0.WarmedH u.vm → u.heap[x]? = some cell → es.length = ns.length → es[j]? = some y → ns[j]? = some nx → (∀ z ∈ es, covers z f.pc = true ∧ z.catchType ≠ 0) →
      (∀ (i : Nat) (z : ExceptionTableEntry) (n : String), es[i]? = some z → ns[i]? = some n → (Cond.classLink own z.catchType n).before a0 s0 = true) → (∀ (i : Nat) (n : String), i < j → ns[i]? = some n → va_Nc nx n s0) →
      ∃ vm', s0.WarmedH vm' ∧ ∀ (P : Handler → Jvm.Pre) (E : Jvm.CtlPost) (d : Bool) (acts : List Action), wp (findHandler.go f x es) P E e d acts u ↔ P (.found y.handlerPc) d acts (u.setVm vm') := by
  intro es
  induction es with
  | nil => intro ns j y u hW hx hlen hy; simp at hy
  | cons z t ih =>
    intro ns j y u hW hx hlen hy hn hcov hlink hnot
    cases ns with
    | nil => simp at hlen
    | cons n ns =>
      obtain ⟨hz, hz0⟩ := hcov z List.mem_cons_self
      obtain ⟨cT, hcT, hlk⟩ := Cond.classLink_spec hown (hlink 0 z n rfl rfl) e.platform hpl
      obtain ⟨dk, _, _, kt, hd, _, _, _, _, hkt, _, hopen⟩ := hlk.here
      have hlk₀ := hW.classLinks hlk
      have hW' : s0.WarmedH (u.vm.noted f.method.cls z.catchType (.cls cT)) := hW.noted hd hopen (State.rightAt_cls hlk)
      obtain ⟨kt', hkt', -⟩ := hW'.alike.2.2 _ _ hkt
      obtain ⟨kc, hkc⟩ := Vm.classAt_of_findClass hcl
      obtain ⟨kc', hkc', -⟩ := hW'.alike.2.2 _ _ hkc
      have hstep : ∀ (P : Handler → Jvm.Pre) (E : Jvm.CtlPost) (d : Bool) (acts : List Action), _ := fun P E d acts => nf_go_cold (e := e) (t := t) (P := P) (E := E) (d := d) (acts := acts) hz hz0 (resolveClass_links e.toSetting hlk₀) hlk₀.ready (by no_record) hx (VmData.noStatics_of hobj) ⟨kc', hkc'⟩ ⟨kt', hkt'⟩
      cases j with
      | zero =>
        simp only [List.getElem?_cons_zero, Option.some.injEq] at hy hn
        subst hy; subst hn
        cases Option.some.inj (hcT.symm.trans hcl)
        refine ⟨_, hW', fun P E d acts => ?_⟩
        rw [hstep P E d acts, if_pos (hself _ hW')]
      | succ j =>
        simp only [List.getElem?_cons_succ] at hy hn
        obtain ⟨c1, c2, q1, q2, q3⟩ := hnot 0 n (Nat.succ_pos _) rfl
        cases Option.some.inj (q1.symm.trans hcl)
        cases Option.some.inj (q2.symm.trans hcT)
        have hno : (u.vm.noted f.method.cls z.catchType (.cls cT)).assignable cell.cls cT = false := by rw [hW'.alike.assignable]; exact q3
        obtain ⟨vm', hV, hgo⟩ := ih ns j y (u.setVm (u.vm.noted f.method.cls z.catchType (.cls cT))) hW' hx (by simpa using hlen) hy hn (fun w hw => hcov w (List.mem_cons_of_mem _ hw)) (fun i w n' hi hn' => hlink (i + 1) w n' (by simpa using hi) (by simpa using hn')) (fun i n' hi hn' => hnot (i + 1) n' (by omega) (by simpa using hn'))
        refine ⟨vm', hV, fun P E d acts => ?_⟩
        rw [hstep P E d acts, if_neg (by rw [hno]; decide), hgo P E d acts]
        rfl
end NF6
