/-! rows for compares and switches, with the positive side first; arrays; tables (printed by wip/whole/gen/rows2.py) -/
def nf_dlt (x y : UInt64) : Prop := FP.dcmp x y = some .lt
def nf_dgt (x y : UInt64) : Prop := FP.dcmp x y = some .gt
def nf_deq (x y : UInt64) : Prop := FP.dcmp x y = some .eq
def nf_dle (x y : UInt64) : Prop := FP.dcmp x y = some .lt ∨ FP.dcmp x y = some .eq
def nf_dge (x y : UInt64) : Prop := FP.dcmp x y = some .gt ∨ FP.dcmp x y = some .eq
theorem nf_ne {x c : Int32} {k : Int} (h : ¬ x = c) (hk : c.toInt = k) : x.toInt ≠ k := fun e => h (Int32.toInt_inj.mp (e.trans hk.symm))
def nf_rg (i : Int32) : Fin 9 := ⟨1 + i.toNatClampNeg % 8, by omega⟩
theorem nf_rg_val {i : Int32} (h : vp_in i 8) : 10 + (nf_rg i).val = 11 + i.toNatClampNeg := by
  have h1 : i.toNatClampNeg < 8 := Nat.not_le.mp fun q => h (Or.inr q)
  show 10 + (1 + i.toNatClampNeg % 8) = _
  omega
section NF5
variable {p : Program} {l : Launch} {e : Env} {R : Room} {s : State} {m : MethodId} {args : Array Value} {below : List Frame} {meth : Method} {c : Code} {H : Heap} {locs : List Loc} {cells slots : Nat} {Q : State → Prop}
variable {own : String} {cc : ByteArray} {nL : Nat} {ret : Option FieldType} {D : va_G} {a : Nat → Nat} {sz : Nat} {M : nf_M} {pc : Nat} {ls : Array Slot} {rest : List Value}
theorem nf_if_lt (hexec : p.tables.exec = Jvm.exec) (hb : c.code = cc) {x : Int32} {off : Int} {tgt : Nat} (hdg : decode cc pc = .ok (.ifCond .lt off, 3)) (ht : (pc : Int) + off = (tgt : Int)) (kp : x < 0 → W p l e R s m args below meth c H locs cells slots Q (F0 m tgt ls rest)) (kn : ¬ x < 0 → W p l e R s m args below meth c H locs cells slots Q (F0 m (pc + 3) ls rest)) : W p l e R s m args below meth c H locs cells slots Q (F0 m pc ls (.int x :: rest)) := lv_if_lt hexec hb hdg ht kp kn
theorem nf_if_ge (hexec : p.tables.exec = Jvm.exec) (hb : c.code = cc) {x : Int32} {off : Int} {tgt : Nat} (hdg : decode cc pc = .ok (.ifCond .ge off, 3)) (ht : (pc : Int) + off = (tgt : Int)) (kp : x < 0 → W p l e R s m args below meth c H locs cells slots Q (F0 m (pc + 3) ls rest)) (kn : ¬ x < 0 → W p l e R s m args below meth c H locs cells slots Q (F0 m tgt ls rest)) : W p l e R s m args below meth c H locs cells slots Q (F0 m pc ls (.int x :: rest)) := lv_if_ge hexec hb hdg ht (fun h => kn (Int32.not_lt.mpr h)) (fun h => kp (Int32.not_le.mp h))
theorem nf_if_gt (hexec : p.tables.exec = Jvm.exec) (hb : c.code = cc) {x : Int32} {off : Int} {tgt : Nat} (hdg : decode cc pc = .ok (.ifCond .gt off, 3)) (ht : (pc : Int) + off = (tgt : Int)) (kp : 0 < x → W p l e R s m args below meth c H locs cells slots Q (F0 m tgt ls rest)) (kn : ¬ 0 < x → W p l e R s m args below meth c H locs cells slots Q (F0 m (pc + 3) ls rest)) : W p l e R s m args below meth c H locs cells slots Q (F0 m pc ls (.int x :: rest)) := lv_if_gt hexec hb hdg ht kp kn
theorem nf_if_le (hexec : p.tables.exec = Jvm.exec) (hb : c.code = cc) {x : Int32} {off : Int} {tgt : Nat} (hdg : decode cc pc = .ok (.ifCond .le off, 3)) (ht : (pc : Int) + off = (tgt : Int)) (kp : 0 < x → W p l e R s m args below meth c H locs cells slots Q (F0 m (pc + 3) ls rest)) (kn : ¬ 0 < x → W p l e R s m args below meth c H locs cells slots Q (F0 m tgt ls rest)) : W p l e R s m args below meth c H locs cells slots Q (F0 m pc ls (.int x :: rest)) := lv_if_le hexec hb hdg ht (fun h => kn (Int32.not_lt.mpr h)) (fun h => kp (Int32.not_le.mp h))
theorem nf_if_eq (hexec : p.tables.exec = Jvm.exec) (hb : c.code = cc) {x : Int32} {off : Int} {tgt : Nat} (hdg : decode cc pc = .ok (.ifCond .eq off, 3)) (ht : (pc : Int) + off = (tgt : Int)) (kp : x = 0 → W p l e R s m args below meth c H locs cells slots Q (F0 m tgt ls rest)) (kn : ¬ x = 0 → W p l e R s m args below meth c H locs cells slots Q (F0 m (pc + 3) ls rest)) : W p l e R s m args below meth c H locs cells slots Q (F0 m pc ls (.int x :: rest)) := lv_if_eq hexec hb hdg ht kp kn
theorem nf_if_ne (hexec : p.tables.exec = Jvm.exec) (hb : c.code = cc) {x : Int32} {off : Int} {tgt : Nat} (hdg : decode cc pc = .ok (.ifCond .ne off, 3)) (ht : (pc : Int) + off = (tgt : Int)) (kp : x = 0 → W p l e R s m args below meth c H locs cells slots Q (F0 m (pc + 3) ls rest)) (kn : ¬ x = 0 → W p l e R s m args below meth c H locs cells slots Q (F0 m tgt ls rest)) : W p l e R s m args below meth c H locs cells slots Q (F0 m pc ls (.int x :: rest)) := lv_if_ne hexec hb hdg ht kn kp
theorem nf_ic_lt (hexec : p.tables.exec = Jvm.exec) (hb : c.code = cc) {x y : Int32} {off : Int} {tgt : Nat} (hdg : decode cc pc = .ok (.if_icmp .lt off, 3)) (ht : (pc : Int) + off = (tgt : Int)) (kp : x < y → W p l e R s m args below meth c H locs cells slots Q (F0 m tgt ls rest)) (kn : ¬ x < y → W p l e R s m args below meth c H locs cells slots Q (F0 m (pc + 3) ls rest)) : W p l e R s m args below meth c H locs cells slots Q (F0 m pc ls (.int y :: .int x :: rest)) := lv_icmp_lt hexec hb hdg ht kp kn
theorem nf_ic_ge (hexec : p.tables.exec = Jvm.exec) (hb : c.code = cc) {x y : Int32} {off : Int} {tgt : Nat} (hdg : decode cc pc = .ok (.if_icmp .ge off, 3)) (ht : (pc : Int) + off = (tgt : Int)) (kp : x < y → W p l e R s m args below meth c H locs cells slots Q (F0 m (pc + 3) ls rest)) (kn : ¬ x < y → W p l e R s m args below meth c H locs cells slots Q (F0 m tgt ls rest)) : W p l e R s m args below meth c H locs cells slots Q (F0 m pc ls (.int y :: .int x :: rest)) := lv_icmp_ge hexec hb hdg ht (fun h => kn (Int32.not_lt.mpr h)) (fun h => kp (Int32.not_le.mp h))
theorem nf_ic_gt (hexec : p.tables.exec = Jvm.exec) (hb : c.code = cc) {x y : Int32} {off : Int} {tgt : Nat} (hdg : decode cc pc = .ok (.if_icmp .gt off, 3)) (ht : (pc : Int) + off = (tgt : Int)) (kp : y < x → W p l e R s m args below meth c H locs cells slots Q (F0 m tgt ls rest)) (kn : ¬ y < x → W p l e R s m args below meth c H locs cells slots Q (F0 m (pc + 3) ls rest)) : W p l e R s m args below meth c H locs cells slots Q (F0 m pc ls (.int y :: .int x :: rest)) := lv_icmp_gt hexec hb hdg ht kp kn
theorem nf_ic_le (hexec : p.tables.exec = Jvm.exec) (hb : c.code = cc) {x y : Int32} {off : Int} {tgt : Nat} (hdg : decode cc pc = .ok (.if_icmp .le off, 3)) (ht : (pc : Int) + off = (tgt : Int)) (kp : y < x → W p l e R s m args below meth c H locs cells slots Q (F0 m (pc + 3) ls rest)) (kn : ¬ y < x → W p l e R s m args below meth c H locs cells slots Q (F0 m tgt ls rest)) : W p l e R s m args below meth c H locs cells slots Q (F0 m pc ls (.int y :: .int x :: rest)) := lv_icmp_le hexec hb hdg ht (fun h => kn (Int32.not_lt.mpr h)) (fun h => kp (Int32.not_le.mp h))
theorem nf_ic_eq (hexec : p.tables.exec = Jvm.exec) (hb : c.code = cc) {x y : Int32} {off : Int} {tgt : Nat} (hdg : decode cc pc = .ok (.if_icmp .eq off, 3)) (ht : (pc : Int) + off = (tgt : Int)) (kp : x = y → W p l e R s m args below meth c H locs cells slots Q (F0 m tgt ls rest)) (kn : ¬ x = y → W p l e R s m args below meth c H locs cells slots Q (F0 m (pc + 3) ls rest)) : W p l e R s m args below meth c H locs cells slots Q (F0 m pc ls (.int y :: .int x :: rest)) := lv_icmp_eq hexec hb hdg ht kp kn
theorem nf_ic_ne (hexec : p.tables.exec = Jvm.exec) (hb : c.code = cc) {x y : Int32} {off : Int} {tgt : Nat} (hdg : decode cc pc = .ok (.if_icmp .ne off, 3)) (ht : (pc : Int) + off = (tgt : Int)) (kp : x = y → W p l e R s m args below meth c H locs cells slots Q (F0 m (pc + 3) ls rest)) (kn : ¬ x = y → W p l e R s m args below meth c H locs cells slots Q (F0 m tgt ls rest)) : W p l e R s m args below meth c H locs cells slots Q (F0 m pc ls (.int y :: .int x :: rest)) := lv_icmp_ne hexec hb hdg ht kn kp
theorem nf_lc_lt (hexec : p.tables.exec = Jvm.exec) (hb : c.code = cc) {x y : Int64} {off : Int} {tgt : Nat} (hd0 : decode cc pc = .ok (.lcmp, 1)) (hdg : decode cc (pc + 1) = .ok (.ifCond .lt off, 3)) (ht : ((pc + 1 : Nat) : Int) + off = (tgt : Int)) (kp : x < y → W p l e R s m args below meth c H locs cells slots Q (F0 m tgt ls rest)) (kn : ¬ x < y → W p l e R s m args below meth c H locs cells slots Q (F0 m (pc + 1 + 3) ls rest)) : W p l e R s m args below meth c H locs cells slots Q (F0 m pc ls (.long y :: .long x :: rest)) := by
  refine W.lcmp hexec hb hd0 (nf_if_lt hexec hb hdg ht (fun h => ?_) (fun h => ?_))
  all_goals
    unfold lg_cmp at h
    by_cases h1 : x > y
    · have h2 : ¬ x < y := fun z => Int64.lt_irrefl (Int64.lt_trans z h1)
      have h3 : ¬ x = y := fun z => by rw [z] at h1; exact Int64.lt_irrefl h1
      first | (rw [if_pos h1] at h; exact absurd h (by decide)) | exact kp h1 | exact kn h2 | exact kn h3
    · by_cases h2 : x = y
      · have h3 : ¬ x < y := fun z => by rw [h2] at z; exact Int64.lt_irrefl z
        first | (rw [if_neg h1, if_pos h2] at h; exact absurd h (by decide)) | exact kp h2 | exact kn h1 | exact kn h3
      · have h3 : x < y := by
          have q1 : ¬ y.toInt < x.toInt := fun z => h1 (Int64.lt_iff_toInt_lt.mpr z)
          have q2 : ¬ x.toInt = y.toInt := fun z => h2 (Int64.toInt_inj.mp z)
          exact Int64.lt_iff_toInt_lt.mpr (by omega)
        first | (rw [if_neg h1, if_neg h2] at h; exact absurd h (by decide)) | exact kp h3 | exact kn h1 | exact kn h2
theorem nf_lc_ge (hexec : p.tables.exec = Jvm.exec) (hb : c.code = cc) {x y : Int64} {off : Int} {tgt : Nat} (hd0 : decode cc pc = .ok (.lcmp, 1)) (hdg : decode cc (pc + 1) = .ok (.ifCond .ge off, 3)) (ht : ((pc + 1 : Nat) : Int) + off = (tgt : Int)) (kp : x < y → W p l e R s m args below meth c H locs cells slots Q (F0 m (pc + 1 + 3) ls rest)) (kn : ¬ x < y → W p l e R s m args below meth c H locs cells slots Q (F0 m tgt ls rest)) : W p l e R s m args below meth c H locs cells slots Q (F0 m pc ls (.long y :: .long x :: rest)) := by
  refine W.lcmp hexec hb hd0 (nf_if_ge hexec hb hdg ht (fun h => ?_) (fun h => ?_))
  all_goals
    unfold lg_cmp at h
    by_cases h1 : x > y
    · have h2 : ¬ x < y := fun z => Int64.lt_irrefl (Int64.lt_trans z h1)
      have h3 : ¬ x = y := fun z => by rw [z] at h1; exact Int64.lt_irrefl h1
      first | (rw [if_pos h1] at h; exact absurd h (by decide)) | exact kp h1 | exact kn h2 | exact kn h3
    · by_cases h2 : x = y
      · have h3 : ¬ x < y := fun z => by rw [h2] at z; exact Int64.lt_irrefl z
        first | (rw [if_neg h1, if_pos h2] at h; exact absurd h (by decide)) | exact kp h2 | exact kn h1 | exact kn h3
      · have h3 : x < y := by
          have q1 : ¬ y.toInt < x.toInt := fun z => h1 (Int64.lt_iff_toInt_lt.mpr z)
          have q2 : ¬ x.toInt = y.toInt := fun z => h2 (Int64.toInt_inj.mp z)
          exact Int64.lt_iff_toInt_lt.mpr (by omega)
        first | (rw [if_neg h1, if_neg h2] at h; exact absurd h (by decide)) | exact kp h3 | exact kn h1 | exact kn h2
theorem nf_lc_gt (hexec : p.tables.exec = Jvm.exec) (hb : c.code = cc) {x y : Int64} {off : Int} {tgt : Nat} (hd0 : decode cc pc = .ok (.lcmp, 1)) (hdg : decode cc (pc + 1) = .ok (.ifCond .gt off, 3)) (ht : ((pc + 1 : Nat) : Int) + off = (tgt : Int)) (kp : y < x → W p l e R s m args below meth c H locs cells slots Q (F0 m tgt ls rest)) (kn : ¬ y < x → W p l e R s m args below meth c H locs cells slots Q (F0 m (pc + 1 + 3) ls rest)) : W p l e R s m args below meth c H locs cells slots Q (F0 m pc ls (.long y :: .long x :: rest)) := by
  refine W.lcmp hexec hb hd0 (nf_if_gt hexec hb hdg ht (fun h => ?_) (fun h => ?_))
  all_goals
    unfold lg_cmp at h
    by_cases h1 : x > y
    · have h2 : ¬ x < y := fun z => Int64.lt_irrefl (Int64.lt_trans z h1)
      have h3 : ¬ x = y := fun z => by rw [z] at h1; exact Int64.lt_irrefl h1
      first | (rw [if_pos h1] at h; exact absurd h (by decide)) | exact kp h1 | exact kn h2 | exact kn h3
    · by_cases h2 : x = y
      · have h3 : ¬ x < y := fun z => by rw [h2] at z; exact Int64.lt_irrefl z
        first | (rw [if_neg h1, if_pos h2] at h; exact absurd h (by decide)) | exact kp h2 | exact kn h1 | exact kn h3
      · have h3 : x < y := by
          have q1 : ¬ y.toInt < x.toInt := fun z => h1 (Int64.lt_iff_toInt_lt.mpr z)
          have q2 : ¬ x.toInt = y.toInt := fun z => h2 (Int64.toInt_inj.mp z)
          exact Int64.lt_iff_toInt_lt.mpr (by omega)
        first | (rw [if_neg h1, if_neg h2] at h; exact absurd h (by decide)) | exact kp h3 | exact kn h1 | exact kn h2
theorem nf_lc_le (hexec : p.tables.exec = Jvm.exec) (hb : c.code = cc) {x y : Int64} {off : Int} {tgt : Nat} (hd0 : decode cc pc = .ok (.lcmp, 1)) (hdg : decode cc (pc + 1) = .ok (.ifCond .le off, 3)) (ht : ((pc + 1 : Nat) : Int) + off = (tgt : Int)) (kp : y < x → W p l e R s m args below meth c H locs cells slots Q (F0 m (pc + 1 + 3) ls rest)) (kn : ¬ y < x → W p l e R s m args below meth c H locs cells slots Q (F0 m tgt ls rest)) : W p l e R s m args below meth c H locs cells slots Q (F0 m pc ls (.long y :: .long x :: rest)) := by
  refine W.lcmp hexec hb hd0 (nf_if_le hexec hb hdg ht (fun h => ?_) (fun h => ?_))
  all_goals
    unfold lg_cmp at h
    by_cases h1 : x > y
    · have h2 : ¬ x < y := fun z => Int64.lt_irrefl (Int64.lt_trans z h1)
      have h3 : ¬ x = y := fun z => by rw [z] at h1; exact Int64.lt_irrefl h1
      first | (rw [if_pos h1] at h; exact absurd h (by decide)) | exact kp h1 | exact kn h2 | exact kn h3
    · by_cases h2 : x = y
      · have h3 : ¬ x < y := fun z => by rw [h2] at z; exact Int64.lt_irrefl z
        first | (rw [if_neg h1, if_pos h2] at h; exact absurd h (by decide)) | exact kp h2 | exact kn h1 | exact kn h3
      · have h3 : x < y := by
          have q1 : ¬ y.toInt < x.toInt := fun z => h1 (Int64.lt_iff_toInt_lt.mpr z)
          have q2 : ¬ x.toInt = y.toInt := fun z => h2 (Int64.toInt_inj.mp z)
          exact Int64.lt_iff_toInt_lt.mpr (by omega)
        first | (rw [if_neg h1, if_neg h2] at h; exact absurd h (by decide)) | exact kp h3 | exact kn h1 | exact kn h2
theorem nf_lc_eq (hexec : p.tables.exec = Jvm.exec) (hb : c.code = cc) {x y : Int64} {off : Int} {tgt : Nat} (hd0 : decode cc pc = .ok (.lcmp, 1)) (hdg : decode cc (pc + 1) = .ok (.ifCond .eq off, 3)) (ht : ((pc + 1 : Nat) : Int) + off = (tgt : Int)) (kp : x = y → W p l e R s m args below meth c H locs cells slots Q (F0 m tgt ls rest)) (kn : ¬ x = y → W p l e R s m args below meth c H locs cells slots Q (F0 m (pc + 1 + 3) ls rest)) : W p l e R s m args below meth c H locs cells slots Q (F0 m pc ls (.long y :: .long x :: rest)) := by
  refine W.lcmp hexec hb hd0 (nf_if_eq hexec hb hdg ht (fun h => ?_) (fun h => ?_))
  all_goals
    unfold lg_cmp at h
    by_cases h1 : x > y
    · have h2 : ¬ x < y := fun z => Int64.lt_irrefl (Int64.lt_trans z h1)
      have h3 : ¬ x = y := fun z => by rw [z] at h1; exact Int64.lt_irrefl h1
      first | (rw [if_pos h1] at h; exact absurd h (by decide)) | exact kp h1 | exact kn h2 | exact kn h3
    · by_cases h2 : x = y
      · have h3 : ¬ x < y := fun z => by rw [h2] at z; exact Int64.lt_irrefl z
        first | (rw [if_neg h1, if_pos h2] at h; exact absurd h (by decide)) | exact kp h2 | exact kn h1 | exact kn h3
      · have h3 : x < y := by
          have q1 : ¬ y.toInt < x.toInt := fun z => h1 (Int64.lt_iff_toInt_lt.mpr z)
          have q2 : ¬ x.toInt = y.toInt := fun z => h2 (Int64.toInt_inj.mp z)
          exact Int64.lt_iff_toInt_lt.mpr (by omega)
        first | (rw [if_neg h1, if_neg h2] at h; exact absurd h (by decide)) | exact kp h3 | exact kn h1 | exact kn h2
theorem nf_lc_ne (hexec : p.tables.exec = Jvm.exec) (hb : c.code = cc) {x y : Int64} {off : Int} {tgt : Nat} (hd0 : decode cc pc = .ok (.lcmp, 1)) (hdg : decode cc (pc + 1) = .ok (.ifCond .ne off, 3)) (ht : ((pc + 1 : Nat) : Int) + off = (tgt : Int)) (kp : x = y → W p l e R s m args below meth c H locs cells slots Q (F0 m (pc + 1 + 3) ls rest)) (kn : ¬ x = y → W p l e R s m args below meth c H locs cells slots Q (F0 m tgt ls rest)) : W p l e R s m args below meth c H locs cells slots Q (F0 m pc ls (.long y :: .long x :: rest)) := by
  refine W.lcmp hexec hb hd0 (nf_if_ne hexec hb hdg ht (fun h => ?_) (fun h => ?_))
  all_goals
    unfold lg_cmp at h
    by_cases h1 : x > y
    · have h2 : ¬ x < y := fun z => Int64.lt_irrefl (Int64.lt_trans z h1)
      have h3 : ¬ x = y := fun z => by rw [z] at h1; exact Int64.lt_irrefl h1
      first | (rw [if_pos h1] at h; exact absurd h (by decide)) | exact kp h1 | exact kn h2 | exact kn h3
    · by_cases h2 : x = y
      · have h3 : ¬ x < y := fun z => by rw [h2] at z; exact Int64.lt_irrefl z
        first | (rw [if_neg h1, if_pos h2] at h; exact absurd h (by decide)) | exact kp h2 | exact kn h1 | exact kn h3
      · have h3 : x < y := by
          have q1 : ¬ y.toInt < x.toInt := fun z => h1 (Int64.lt_iff_toInt_lt.mpr z)
          have q2 : ¬ x.toInt = y.toInt := fun z => h2 (Int64.toInt_inj.mp z)
          exact Int64.lt_iff_toInt_lt.mpr (by omega)
        first | (rw [if_neg h1, if_neg h2] at h; exact absurd h (by decide)) | exact kp h3 | exact kn h1 | exact kn h2
theorem nf_dg_lt (hexec : p.tables.exec = Jvm.exec) (hb : c.code = cc) {x y : UInt64} {off : Int} {tgt : Nat} (hd0 : decode cc pc = .ok (.dcmp .g, 1)) (hdg : decode cc (pc + 1) = .ok (.ifCond .lt off, 3)) (ht : ((pc + 1 : Nat) : Int) + off = (tgt : Int)) (kp : nf_dlt x y → W p l e R s m args below meth c H locs cells slots Q (F0 m tgt ls rest)) (kn : ¬ nf_dlt x y → W p l e R s m args below meth c H locs cells slots Q (F0 m (pc + 1 + 3) ls rest)) : W p l e R s m args below meth c H locs cells slots Q (F0 m pc ls (.double y :: .double x :: rest)) := by
  simp only [nf_dlt, nf_dgt, nf_deq, nf_dle, nf_dge] at kp kn
  refine lv_dcmp hexec hb hd0 (nf_if_lt hexec hb hdg ht (fun h => ?_) (fun h => ?_))
  all_goals
    rcases hd : FP.dcmp x y with _ | o
    · rw [hd] at h kp kn
      first | exact absurd h (by decide) | exact kn (by simp) | exact kp (by simp)
    · rw [hd] at h kp kn
      cases o <;> first | exact absurd h (by decide) | exact kn (by simp) | exact kp (by simp)
theorem nf_dg_ge (hexec : p.tables.exec = Jvm.exec) (hb : c.code = cc) {x y : UInt64} {off : Int} {tgt : Nat} (hd0 : decode cc pc = .ok (.dcmp .g, 1)) (hdg : decode cc (pc + 1) = .ok (.ifCond .ge off, 3)) (ht : ((pc + 1 : Nat) : Int) + off = (tgt : Int)) (kp : nf_dlt x y → W p l e R s m args below meth c H locs cells slots Q (F0 m (pc + 1 + 3) ls rest)) (kn : ¬ nf_dlt x y → W p l e R s m args below meth c H locs cells slots Q (F0 m tgt ls rest)) : W p l e R s m args below meth c H locs cells slots Q (F0 m pc ls (.double y :: .double x :: rest)) := by
  simp only [nf_dlt, nf_dgt, nf_deq, nf_dle, nf_dge] at kp kn
  refine lv_dcmp hexec hb hd0 (nf_if_ge hexec hb hdg ht (fun h => ?_) (fun h => ?_))
  all_goals
    rcases hd : FP.dcmp x y with _ | o
    · rw [hd] at h kp kn
      first | exact absurd h (by decide) | exact kn (by simp) | exact kp (by simp)
    · rw [hd] at h kp kn
      cases o <;> first | exact absurd h (by decide) | exact kn (by simp) | exact kp (by simp)
theorem nf_dg_gt (hexec : p.tables.exec = Jvm.exec) (hb : c.code = cc) {x y : UInt64} {off : Int} {tgt : Nat} (hd0 : decode cc pc = .ok (.dcmp .g, 1)) (hdg : decode cc (pc + 1) = .ok (.ifCond .gt off, 3)) (ht : ((pc + 1 : Nat) : Int) + off = (tgt : Int)) (kp : nf_dle x y → W p l e R s m args below meth c H locs cells slots Q (F0 m (pc + 1 + 3) ls rest)) (kn : ¬ nf_dle x y → W p l e R s m args below meth c H locs cells slots Q (F0 m tgt ls rest)) : W p l e R s m args below meth c H locs cells slots Q (F0 m pc ls (.double y :: .double x :: rest)) := by
  simp only [nf_dlt, nf_dgt, nf_deq, nf_dle, nf_dge] at kp kn
  refine lv_dcmp hexec hb hd0 (nf_if_gt hexec hb hdg ht (fun h => ?_) (fun h => ?_))
  all_goals
    rcases hd : FP.dcmp x y with _ | o
    · rw [hd] at h kp kn
      first | exact absurd h (by decide) | exact kn (by simp) | exact kp (by simp)
    · rw [hd] at h kp kn
      cases o <;> first | exact absurd h (by decide) | exact kn (by simp) | exact kp (by simp)
theorem nf_dg_le (hexec : p.tables.exec = Jvm.exec) (hb : c.code = cc) {x y : UInt64} {off : Int} {tgt : Nat} (hd0 : decode cc pc = .ok (.dcmp .g, 1)) (hdg : decode cc (pc + 1) = .ok (.ifCond .le off, 3)) (ht : ((pc + 1 : Nat) : Int) + off = (tgt : Int)) (kp : nf_dle x y → W p l e R s m args below meth c H locs cells slots Q (F0 m tgt ls rest)) (kn : ¬ nf_dle x y → W p l e R s m args below meth c H locs cells slots Q (F0 m (pc + 1 + 3) ls rest)) : W p l e R s m args below meth c H locs cells slots Q (F0 m pc ls (.double y :: .double x :: rest)) := by
  simp only [nf_dlt, nf_dgt, nf_deq, nf_dle, nf_dge] at kp kn
  refine lv_dcmp hexec hb hd0 (nf_if_le hexec hb hdg ht (fun h => ?_) (fun h => ?_))
  all_goals
    rcases hd : FP.dcmp x y with _ | o
    · rw [hd] at h kp kn
      first | exact absurd h (by decide) | exact kn (by simp) | exact kp (by simp)
    · rw [hd] at h kp kn
      cases o <;> first | exact absurd h (by decide) | exact kn (by simp) | exact kp (by simp)
theorem nf_dg_eq (hexec : p.tables.exec = Jvm.exec) (hb : c.code = cc) {x y : UInt64} {off : Int} {tgt : Nat} (hd0 : decode cc pc = .ok (.dcmp .g, 1)) (hdg : decode cc (pc + 1) = .ok (.ifCond .eq off, 3)) (ht : ((pc + 1 : Nat) : Int) + off = (tgt : Int)) (kp : nf_deq x y → W p l e R s m args below meth c H locs cells slots Q (F0 m tgt ls rest)) (kn : ¬ nf_deq x y → W p l e R s m args below meth c H locs cells slots Q (F0 m (pc + 1 + 3) ls rest)) : W p l e R s m args below meth c H locs cells slots Q (F0 m pc ls (.double y :: .double x :: rest)) := by
  simp only [nf_dlt, nf_dgt, nf_deq, nf_dle, nf_dge] at kp kn
  refine lv_dcmp hexec hb hd0 (nf_if_eq hexec hb hdg ht (fun h => ?_) (fun h => ?_))
  all_goals
    rcases hd : FP.dcmp x y with _ | o
    · rw [hd] at h kp kn
      first | exact absurd h (by decide) | exact kn (by simp) | exact kp (by simp)
    · rw [hd] at h kp kn
      cases o <;> first | exact absurd h (by decide) | exact kn (by simp) | exact kp (by simp)
theorem nf_dg_ne (hexec : p.tables.exec = Jvm.exec) (hb : c.code = cc) {x y : UInt64} {off : Int} {tgt : Nat} (hd0 : decode cc pc = .ok (.dcmp .g, 1)) (hdg : decode cc (pc + 1) = .ok (.ifCond .ne off, 3)) (ht : ((pc + 1 : Nat) : Int) + off = (tgt : Int)) (kp : nf_deq x y → W p l e R s m args below meth c H locs cells slots Q (F0 m (pc + 1 + 3) ls rest)) (kn : ¬ nf_deq x y → W p l e R s m args below meth c H locs cells slots Q (F0 m tgt ls rest)) : W p l e R s m args below meth c H locs cells slots Q (F0 m pc ls (.double y :: .double x :: rest)) := by
  simp only [nf_dlt, nf_dgt, nf_deq, nf_dle, nf_dge] at kp kn
  refine lv_dcmp hexec hb hd0 (nf_if_ne hexec hb hdg ht (fun h => ?_) (fun h => ?_))
  all_goals
    rcases hd : FP.dcmp x y with _ | o
    · rw [hd] at h kp kn
      first | exact absurd h (by decide) | exact kn (by simp) | exact kp (by simp)
    · rw [hd] at h kp kn
      cases o <;> first | exact absurd h (by decide) | exact kn (by simp) | exact kp (by simp)
theorem nf_dl_lt (hexec : p.tables.exec = Jvm.exec) (hb : c.code = cc) {x y : UInt64} {off : Int} {tgt : Nat} (hd0 : decode cc pc = .ok (.dcmp .l, 1)) (hdg : decode cc (pc + 1) = .ok (.ifCond .lt off, 3)) (ht : ((pc + 1 : Nat) : Int) + off = (tgt : Int)) (kp : nf_dge x y → W p l e R s m args below meth c H locs cells slots Q (F0 m (pc + 1 + 3) ls rest)) (kn : ¬ nf_dge x y → W p l e R s m args below meth c H locs cells slots Q (F0 m tgt ls rest)) : W p l e R s m args below meth c H locs cells slots Q (F0 m pc ls (.double y :: .double x :: rest)) := by
  simp only [nf_dlt, nf_dgt, nf_deq, nf_dle, nf_dge] at kp kn
  refine lv_dcmp hexec hb hd0 (nf_if_lt hexec hb hdg ht (fun h => ?_) (fun h => ?_))
  all_goals
    rcases hd : FP.dcmp x y with _ | o
    · rw [hd] at h kp kn
      first | exact absurd h (by decide) | exact kn (by simp) | exact kp (by simp)
    · rw [hd] at h kp kn
      cases o <;> first | exact absurd h (by decide) | exact kn (by simp) | exact kp (by simp)
theorem nf_dl_ge (hexec : p.tables.exec = Jvm.exec) (hb : c.code = cc) {x y : UInt64} {off : Int} {tgt : Nat} (hd0 : decode cc pc = .ok (.dcmp .l, 1)) (hdg : decode cc (pc + 1) = .ok (.ifCond .ge off, 3)) (ht : ((pc + 1 : Nat) : Int) + off = (tgt : Int)) (kp : nf_dge x y → W p l e R s m args below meth c H locs cells slots Q (F0 m tgt ls rest)) (kn : ¬ nf_dge x y → W p l e R s m args below meth c H locs cells slots Q (F0 m (pc + 1 + 3) ls rest)) : W p l e R s m args below meth c H locs cells slots Q (F0 m pc ls (.double y :: .double x :: rest)) := by
  simp only [nf_dlt, nf_dgt, nf_deq, nf_dle, nf_dge] at kp kn
  refine lv_dcmp hexec hb hd0 (nf_if_ge hexec hb hdg ht (fun h => ?_) (fun h => ?_))
  all_goals
    rcases hd : FP.dcmp x y with _ | o
    · rw [hd] at h kp kn
      first | exact absurd h (by decide) | exact kn (by simp) | exact kp (by simp)
    · rw [hd] at h kp kn
      cases o <;> first | exact absurd h (by decide) | exact kn (by simp) | exact kp (by simp)
theorem nf_dl_gt (hexec : p.tables.exec = Jvm.exec) (hb : c.code = cc) {x y : UInt64} {off : Int} {tgt : Nat} (hd0 : decode cc pc = .ok (.dcmp .l, 1)) (hdg : decode cc (pc + 1) = .ok (.ifCond .gt off, 3)) (ht : ((pc + 1 : Nat) : Int) + off = (tgt : Int)) (kp : nf_dgt x y → W p l e R s m args below meth c H locs cells slots Q (F0 m tgt ls rest)) (kn : ¬ nf_dgt x y → W p l e R s m args below meth c H locs cells slots Q (F0 m (pc + 1 + 3) ls rest)) : W p l e R s m args below meth c H locs cells slots Q (F0 m pc ls (.double y :: .double x :: rest)) := by
  simp only [nf_dlt, nf_dgt, nf_deq, nf_dle, nf_dge] at kp kn
  refine lv_dcmp hexec hb hd0 (nf_if_gt hexec hb hdg ht (fun h => ?_) (fun h => ?_))
  all_goals
    rcases hd : FP.dcmp x y with _ | o
    · rw [hd] at h kp kn
      first | exact absurd h (by decide) | exact kn (by simp) | exact kp (by simp)
    · rw [hd] at h kp kn
      cases o <;> first | exact absurd h (by decide) | exact kn (by simp) | exact kp (by simp)
theorem nf_dl_le (hexec : p.tables.exec = Jvm.exec) (hb : c.code = cc) {x y : UInt64} {off : Int} {tgt : Nat} (hd0 : decode cc pc = .ok (.dcmp .l, 1)) (hdg : decode cc (pc + 1) = .ok (.ifCond .le off, 3)) (ht : ((pc + 1 : Nat) : Int) + off = (tgt : Int)) (kp : nf_dgt x y → W p l e R s m args below meth c H locs cells slots Q (F0 m (pc + 1 + 3) ls rest)) (kn : ¬ nf_dgt x y → W p l e R s m args below meth c H locs cells slots Q (F0 m tgt ls rest)) : W p l e R s m args below meth c H locs cells slots Q (F0 m pc ls (.double y :: .double x :: rest)) := by
  simp only [nf_dlt, nf_dgt, nf_deq, nf_dle, nf_dge] at kp kn
  refine lv_dcmp hexec hb hd0 (nf_if_le hexec hb hdg ht (fun h => ?_) (fun h => ?_))
  all_goals
    rcases hd : FP.dcmp x y with _ | o
    · rw [hd] at h kp kn
      first | exact absurd h (by decide) | exact kn (by simp) | exact kp (by simp)
    · rw [hd] at h kp kn
      cases o <;> first | exact absurd h (by decide) | exact kn (by simp) | exact kp (by simp)
theorem nf_dl_eq (hexec : p.tables.exec = Jvm.exec) (hb : c.code = cc) {x y : UInt64} {off : Int} {tgt : Nat} (hd0 : decode cc pc = .ok (.dcmp .l, 1)) (hdg : decode cc (pc + 1) = .ok (.ifCond .eq off, 3)) (ht : ((pc + 1 : Nat) : Int) + off = (tgt : Int)) (kp : nf_deq x y → W p l e R s m args below meth c H locs cells slots Q (F0 m tgt ls rest)) (kn : ¬ nf_deq x y → W p l e R s m args below meth c H locs cells slots Q (F0 m (pc + 1 + 3) ls rest)) : W p l e R s m args below meth c H locs cells slots Q (F0 m pc ls (.double y :: .double x :: rest)) := by
  simp only [nf_dlt, nf_dgt, nf_deq, nf_dle, nf_dge] at kp kn
  refine lv_dcmp hexec hb hd0 (nf_if_eq hexec hb hdg ht (fun h => ?_) (fun h => ?_))
  all_goals
    rcases hd : FP.dcmp x y with _ | o
    · rw [hd] at h kp kn
      first | exact absurd h (by decide) | exact kn (by simp) | exact kp (by simp)
    · rw [hd] at h kp kn
      cases o <;> first | exact absurd h (by decide) | exact kn (by simp) | exact kp (by simp)
theorem nf_dl_ne (hexec : p.tables.exec = Jvm.exec) (hb : c.code = cc) {x y : UInt64} {off : Int} {tgt : Nat} (hd0 : decode cc pc = .ok (.dcmp .l, 1)) (hdg : decode cc (pc + 1) = .ok (.ifCond .ne off, 3)) (ht : ((pc + 1 : Nat) : Int) + off = (tgt : Int)) (kp : nf_deq x y → W p l e R s m args below meth c H locs cells slots Q (F0 m (pc + 1 + 3) ls rest)) (kn : ¬ nf_deq x y → W p l e R s m args below meth c H locs cells slots Q (F0 m tgt ls rest)) : W p l e R s m args below meth c H locs cells slots Q (F0 m pc ls (.double y :: .double x :: rest)) := by
  simp only [nf_dlt, nf_dgt, nf_deq, nf_dle, nf_dge] at kp kn
  refine lv_dcmp hexec hb hd0 (nf_if_ne hexec hb hdg ht (fun h => ?_) (fun h => ?_))
  all_goals
    rcases hd : FP.dcmp x y with _ | o
    · rw [hd] at h kp kn
      first | exact absurd h (by decide) | exact kn (by simp) | exact kp (by simp)
    · rw [hd] at h kp kn
      cases o <;> first | exact absurd h (by decide) | exact kn (by simp) | exact kp (by simp)
theorem nf_iald (K : nf_K p s m args meth c own cc nL ret D a sz) (hw : nf_W D a s sz H locs M) (q0 t0 : Nat) {b cA n : Nat} {f : Nat → Int32} (he : (nf_cw a M)[q0]? = some (b, .inl (cA, n, .inl f))) (ht : (nf_ty a)[t0]? = some (cA, .int)) {i : Int32} (hin : vp_in i n) (hdg : decode cc pc = .ok (.iaload, 1))
    (kk : W p l e R s m args below meth c H locs cells slots Q (F0 m (pc + 1) ls (.int (f i.toNatClampNeg) :: rest))) : W p l e R s m args below meth c H locs cells slots Q (F0 m pc ls (.int i :: .ref b :: rest)) :=
  va_iald (D := D) (cl := nf_cl) (tys := nf_ty a) (ws := nf_cw a M) K.1 K.2.1 K.2.2.2.2.2.2.2.2.1 hw.1 q0 t0 he ht hin hdg kk
theorem nf_iast (K : nf_K p s m args meth c own cc nL ret D a sz) (hw : nf_W D a s sz H locs M) (q0 t0 : Nat) {b cA n : Nat} {f : Nat → Int32} {M' : nf_M} (he : (nf_cw a M)[q0]? = some (b, .inl (cA, n, .inl f))) (ht : (nf_ty a)[t0]? = some (cA, .int)) {i : Int32} {x : Int32} (hin : vp_in i n) (hset : (nf_cw a M).set q0 (b, .inl (cA, n, .inl (upd f i.toNatClampNeg x))) = nf_cw a M') (hdg : decode cc pc = .ok (.iastore, 1))
    (kk : ∀ (H' : Heap) (locs' : List Loc), nf_W D a s sz H' locs' M' → W p l e R s m args below meth c H' locs' cells slots Q (F0 m (pc + 1) ls rest)) : W p l e R s m args below meth c H locs cells slots Q (F0 m pc ls (.int x :: .int i :: .ref b :: rest)) :=
  va_iast (D := D) (cl := nf_cl) (tys := nf_ty a) (ws := nf_cw a M) K.1 K.2.1 K.2.2.2.2.2.2.2.2.1 hw.1 hw.2.1 hw.2.2 q0 t0 he ht hin hdg (fun H1 locs1 hP hD hS => kk H1 locs1 ⟨hset ▸ hP, nf_Dm hw.2.1, hS⟩)
theorem nf_lald (K : nf_K p s m args meth c own cc nL ret D a sz) (hw : nf_W D a s sz H locs M) (q0 t0 : Nat) {b cA n : Nat} {f : Nat → Int64} (he : (nf_cw a M)[q0]? = some (b, .inl (cA, n, .inr (.inl f)))) (ht : (nf_ty a)[t0]? = some (cA, .long)) {i : Int32} (hin : vp_in i n) (hdg : decode cc pc = .ok (.laload, 1))
    (kk : W p l e R s m args below meth c H locs cells slots Q (F0 m (pc + 1) ls (.long (f i.toNatClampNeg) :: rest))) : W p l e R s m args below meth c H locs cells slots Q (F0 m pc ls (.int i :: .ref b :: rest)) :=
  va_lald (D := D) (cl := nf_cl) (tys := nf_ty a) (ws := nf_cw a M) K.1 K.2.1 K.2.2.2.2.2.2.2.2.1 hw.1 q0 t0 he ht hin hdg kk
theorem nf_last (K : nf_K p s m args meth c own cc nL ret D a sz) (hw : nf_W D a s sz H locs M) (q0 t0 : Nat) {b cA n : Nat} {f : Nat → Int64} {M' : nf_M} (he : (nf_cw a M)[q0]? = some (b, .inl (cA, n, .inr (.inl f)))) (ht : (nf_ty a)[t0]? = some (cA, .long)) {i : Int32} {x : Int64} (hin : vp_in i n) (hset : (nf_cw a M).set q0 (b, .inl (cA, n, .inr (.inl (vp_updL f i.toNatClampNeg x)))) = nf_cw a M') (hdg : decode cc pc = .ok (.lastore, 1))
    (kk : ∀ (H' : Heap) (locs' : List Loc), nf_W D a s sz H' locs' M' → W p l e R s m args below meth c H' locs' cells slots Q (F0 m (pc + 1) ls rest)) : W p l e R s m args below meth c H locs cells slots Q (F0 m pc ls (.long x :: .int i :: .ref b :: rest)) :=
  va_last (D := D) (cl := nf_cl) (tys := nf_ty a) (ws := nf_cw a M) K.1 K.2.1 K.2.2.2.2.2.2.2.2.1 hw.1 hw.2.1 hw.2.2 q0 t0 he ht hin hdg (fun H1 locs1 hP hD hS => kk H1 locs1 ⟨hset ▸ hP, nf_Dm hw.2.1, hS⟩)
theorem nf_dald (K : nf_K p s m args meth c own cc nL ret D a sz) (hw : nf_W D a s sz H locs M) (q0 t0 : Nat) {b cA n : Nat} {f : Nat → UInt64} (he : (nf_cw a M)[q0]? = some (b, .inl (cA, n, .inr (.inr (.inr (.inl f)))))) (ht : (nf_ty a)[t0]? = some (cA, .double)) {i : Int32} (hin : vp_in i n) (hdg : decode cc pc = .ok (.daload, 1))
    (kk : W p l e R s m args below meth c H locs cells slots Q (F0 m (pc + 1) ls (.double (f i.toNatClampNeg) :: rest))) : W p l e R s m args below meth c H locs cells slots Q (F0 m pc ls (.int i :: .ref b :: rest)) :=
  va_dald (D := D) (cl := nf_cl) (tys := nf_ty a) (ws := nf_cw a M) K.1 K.2.1 K.2.2.2.2.2.2.2.2.1 hw.1 q0 t0 he ht hin hdg kk
theorem nf_dast (K : nf_K p s m args meth c own cc nL ret D a sz) (hw : nf_W D a s sz H locs M) (q0 t0 : Nat) {b cA n : Nat} {f : Nat → UInt64} {M' : nf_M} (he : (nf_cw a M)[q0]? = some (b, .inl (cA, n, .inr (.inr (.inr (.inl f)))))) (ht : (nf_ty a)[t0]? = some (cA, .double)) {i : Int32} {x : UInt64} (hin : vp_in i n) (hset : (nf_cw a M).set q0 (b, .inl (cA, n, .inr (.inr (.inr (.inl (vf_upd f i.toNatClampNeg x)))))) = nf_cw a M') (hdg : decode cc pc = .ok (.dastore, 1))
    (kk : ∀ (H' : Heap) (locs' : List Loc), nf_W D a s sz H' locs' M' → W p l e R s m args below meth c H' locs' cells slots Q (F0 m (pc + 1) ls rest)) : W p l e R s m args below meth c H locs cells slots Q (F0 m pc ls (.double x :: .int i :: .ref b :: rest)) :=
  va_dast (D := D) (cl := nf_cl) (tys := nf_ty a) (ws := nf_cw a M) K.1 K.2.1 K.2.2.2.2.2.2.2.2.1 hw.1 hw.2.1 hw.2.2 q0 t0 he ht hin hdg (fun H1 locs1 hP hD hS => kk H1 locs1 ⟨hset ▸ hP, nf_Dm hw.2.1, hS⟩)
theorem nf_heR (a : Nat → Nat) (M : nf_M) (b : Bool) : (nf_cw a M)[nf_ro b]? = some (a (nf_ro b), .inr (3, [.ref (a (nf_ro b + 1)), .int (mg_N M b)])) := by cases b <;> rfl
theorem nf_heC (a : Nat → Nat) (M : nf_M) (b : Bool) : (nf_cw a M)[nf_ro b + 1]? = some (a (nf_ro b + 1), .inl (a (51 + nf_ro b), nf_cap b, .inl (mg_C M b))) := by cases b <;> rfl
def nf_tC (b : Bool) : Nat := cond b 2 1
theorem nf_htC (a : Nat → Nat) (b : Bool) : (nf_ty a)[nf_tC b]? = some (a (51 + nf_ro b), .char) := by cases b <;> rfl
theorem nf_setN (a : Nat → Nat) (M : nf_M) (b : Bool) (x : Int32) : (nf_cw a M).set (nf_ro b) (a (nf_ro b), .inr (3, [.ref (a (nf_ro b + 1)), .int x])) = nf_cw a (ms_N M b x) := by cases b <;> rfl
theorem nf_setC (a : Nat → Nat) (M : nf_M) (b : Bool) (i : Nat) (x : Int32) : (nf_cw a M).set (nf_ro b + 1) (a (nf_ro b + 1), .inl (a (51 + nf_ro b), nf_cap b, .inl (upd (mg_C M b) i x))) = nf_cw a (ms_C M b i x) := by cases b <;> rfl
theorem nf_fin9 {P : Fin 9 → Prop} (h0 : P 0) (h1 : P 1) (h2 : P 2) (h3 : P 3) (h4 : P 4) (h5 : P 5) (h6 : P 6) (h7 : P 7) (h8 : P 8) : ∀ v, P v := fun v => by
  obtain ⟨k, hk⟩ := v
  rcases (show k = 0 ∨ k = 1 ∨ k = 2 ∨ k = 3 ∨ k = 4 ∨ k = 5 ∨ k = 6 ∨ k = 7 ∨ k = 8 by omega) with rfl | rfl | rfl | rfl | rfl | rfl | rfl | rfl | rfl <;> assumption
theorem nf_heV (a : Nat → Nat) (M : nf_M) (v : Fin 9) : (nf_cw a M)[10 + v.val]? = some (a (10 + v.val), .inr (4, [.int (mg_T M v), .long (mg_U M v), .int (mg_S M v), .double (mg_R M v)])) := nf_fin9 (P := fun v => (nf_cw a M)[10 + v.val]? = some (a (10 + v.val), .inr (4, [.int (mg_T M v), .long (mg_U M v), .int (mg_S M v), .double (mg_R M v)]))) rfl rfl rfl rfl rfl rfl rfl rfl rfl v
theorem nf_setT (a : Nat → Nat) (M : nf_M) (v : Fin 9) (x : Int32) : (nf_cw a M).set (10 + v.val) (a (10 + v.val), .inr (4, [.int x, .long (mg_U M v), .int (mg_S M v), .double (mg_R M v)])) = nf_cw a (ms_T M v x) := nf_fin9 (P := fun v => (nf_cw a M).set (10 + v.val) (a (10 + v.val), .inr (4, [.int x, .long (mg_U M v), .int (mg_S M v), .double (mg_R M v)])) = nf_cw a (ms_T M v x)) rfl rfl rfl rfl rfl rfl rfl rfl rfl v
theorem nf_setU (a : Nat → Nat) (M : nf_M) (v : Fin 9) (x : Int64) : (nf_cw a M).set (10 + v.val) (a (10 + v.val), .inr (4, [.int (mg_T M v), .long x, .int (mg_S M v), .double (mg_R M v)])) = nf_cw a (ms_U M v x) := nf_fin9 (P := fun v => (nf_cw a M).set (10 + v.val) (a (10 + v.val), .inr (4, [.int (mg_T M v), .long x, .int (mg_S M v), .double (mg_R M v)])) = nf_cw a (ms_U M v x)) rfl rfl rfl rfl rfl rfl rfl rfl rfl v
theorem nf_setS (a : Nat → Nat) (M : nf_M) (v : Fin 9) (x : Int32) : (nf_cw a M).set (10 + v.val) (a (10 + v.val), .inr (4, [.int (mg_T M v), .long (mg_U M v), .int x, .double (mg_R M v)])) = nf_cw a (ms_S M v x) := nf_fin9 (P := fun v => (nf_cw a M).set (10 + v.val) (a (10 + v.val), .inr (4, [.int (mg_T M v), .long (mg_U M v), .int x, .double (mg_R M v)])) = nf_cw a (ms_S M v x)) rfl rfl rfl rfl rfl rfl rfl rfl rfl v
theorem nf_setR (a : Nat → Nat) (M : nf_M) (v : Fin 9) (x : UInt64) : (nf_cw a M).set (10 + v.val) (a (10 + v.val), .inr (4, [.int (mg_T M v), .long (mg_U M v), .int (mg_S M v), .double x])) = nf_cw a (ms_R M v x) := nf_fin9 (P := fun v => (nf_cw a M).set (10 + v.val) (a (10 + v.val), .inr (4, [.int (mg_T M v), .long (mg_U M v), .int (mg_S M v), .double x])) = nf_cw a (ms_R M v x)) rfl rfl rfl rfl rfl rfl rfl rfl rfl v
theorem nf_cald (K : nf_K p s m args meth c own cc nL ret D a sz) (hw : nf_W D a s sz H locs M) {b : Bool} {i : Int32} (hin : vp_in i (nf_cap b)) (hdg : decode cc pc = .ok (.caload, 1))
    (kk : W p l e R s m args below meth c H locs cells slots Q (F0 m (pc + 1) ls (.int (mg_C M b i.toNatClampNeg) :: rest))) : W p l e R s m args below meth c H locs cells slots Q (F0 m pc ls (.int i :: .ref (a (nf_ro b + 1)) :: rest)) :=
  va_cald (D := D) (cl := nf_cl) (tys := nf_ty a) (ws := nf_cw a M) K.1 K.2.1 K.2.2.2.2.2.2.2.2.1 hw.1 (nf_ro b + 1) (nf_tC b) (nf_heC a M b) (nf_htC a b) hin hdg kk
theorem nf_cast (K : nf_K p s m args meth c own cc nL ret D a sz) (hw : nf_W D a s sz H locs M) {b : Bool} {i x : Int32} (hin : vp_in i (nf_cap b)) (hdg : decode cc pc = .ok (.castore, 1))
    (kk : ∀ (H' : Heap) (locs' : List Loc), nf_W D a s sz H' locs' (ms_C M b i.toNatClampNeg (vp_nar .char x)) → W p l e R s m args below meth c H' locs' cells slots Q (F0 m (pc + 1) ls rest)) : W p l e R s m args below meth c H locs cells slots Q (F0 m pc ls (.int x :: .int i :: .ref (a (nf_ro b + 1)) :: rest)) :=
  va_cast (D := D) (cl := nf_cl) (tys := nf_ty a) (ws := nf_cw a M) K.1 K.2.1 K.2.2.2.2.2.2.2.2.1 hw.1 hw.2.1 hw.2.2 (nf_ro b + 1) (nf_tC b) (nf_heC a M b) (nf_htC a b) hin hdg (fun H1 locs1 hP hD hS => kk H1 locs1 ⟨nf_setC a M b _ _ ▸ hP, nf_Dm hw.2.1, hS⟩)
theorem nf_clen (K : nf_K p s m args meth c own cc nL ret D a sz) (hw : nf_W D a s sz H locs M) {b : Bool} (hdg : decode cc pc = .ok (.arraylength, 1))
    (kk : W p l e R s m args below meth c H locs cells slots Q (F0 m (pc + 1) ls (.int (nI (nf_cap b)) :: rest))) : W p l e R s m args below meth c H locs cells slots Q (F0 m pc ls (.ref (a (nf_ro b + 1)) :: rest)) :=
  va_alen (D := D) (cl := nf_cl) (tys := nf_ty a) (ws := nf_cw a M) K.1 K.2.1 K.2.2.2.2.2.2.2.2.1 hw.1 (nf_ro b + 1) (nf_tC b) (nf_heC a M b) (nf_htC a b) rfl hdg kk
theorem nf_rlen (K : nf_K p s m args meth c own cc nL ret D a sz) (hw : nf_W D a s sz H locs M) (hdg : decode cc pc = .ok (.arraylength, 1))
    (kk : W p l e R s m args below meth c H locs cells slots Q (F0 m (pc + 1) ls (.int 8 :: rest))) : W p l e R s m args below meth c H locs cells slots Q (F0 m pc ls (.ref (a 1) :: rest)) :=
  va_alen (D := D) (cl := nf_cl) (tys := nf_ty a) (ws := nf_cw a M) K.1 K.2.1 K.2.2.2.2.2.2.2.2.1 hw.1 1 0 rfl rfl (show Int32.ofNat 8 = 8 from rfl) hdg kk
theorem nf_rald (K : nf_K p s m args meth c own cc nL ret D a sz) (hw : nf_W D a s sz H locs M) {i : Int32} (hin : vp_in i 8) (hdg : decode cc pc = .ok (.aaload, 1))
    (kk : W p l e R s m args below meth c H locs cells slots Q (F0 m (pc + 1) ls (.ref (a (10 + (nf_rg i).val)) :: rest))) : W p l e R s m args below meth c H locs cells slots Q (F0 m pc ls (.int i :: .ref (a 1) :: rest)) :=
  va_aldq (D := D) (cl := nf_cl) (tys := nf_ty a) (ws := nf_cw a M) K.1 K.2.1 K.2.2.2.2.2.2.2.2.1 hw.1 1 0 rfl rfl hin hdg (by rw [nf_rg_val hin] at kk; exact kk)
/-- static tables -/
theorem nf_gets (K : nf_K p s m args meth c own cc nL ret D a sz) (hw : nf_W D a s sz H locs M) {C n d : String} {v : Value} {index : Nat} (hZ : va_Z C n d v (nf_A a sz) s s.heap) (hl : Cond.fieldLink own index C n d ∈ nf_good) (hdg : decode cc pc = .ok (.getstatic index, 3))
    (kk : W p l e R s m args below meth c H locs cells slots Q (F0 m (pc + 3) ls (v :: rest))) : W p l e R s m args below meth c H locs cells slots Q (F0 m pc ls rest) := va_gets K.1 K.2.1 hZ hw.2.2 K.2.2.2.1 (nf_Kg K hl) (fun _ h => h) hdg kk
theorem nf_getsN (K : nf_K p s m args meth c own cc nL ret D a sz) (hw : nf_W D a s sz H locs M) {C n d host : String} {v : Value} {index : Nat} (hZ : va_Z C n d v (nf_A a sz) s s.heap) (hl : Cond.fieldLinkNest own index C n d host ∈ nf_rest) (hdg : decode cc pc = .ok (.getstatic index, 3))
    (kk : W p l e R s m args below meth c H locs cells slots Q (F0 m (pc + 3) ls (v :: rest))) : W p l e R s m args below meth c H locs cells slots Q (F0 m pc ls rest) := va_getsN K.1 K.2.1 hZ hw.2.2 K.2.2.2.1 ((nf_Kr K hl).use rfl) (fun _ h => h) hdg kk
theorem nf_st0 (K : nf_K p s m args meth c own cc nL ret D a sz) : nf_st a (nf_A a sz) s s.heap := K.2.2.2.2.2.2.2.2.2.1
theorem nf_ldcS (K : nf_K p s m args meth c own cc nL ret D a sz) {is : Nat} {tx : String} (i : Nat) (hstr : nf_strs[i]? = some (own, is, tx)) (hdg : decode cc pc = .ok (.ldc is, 2))
    (kk : W p l e R s m args below meth c H locs cells slots Q (F0 m (pc + 2) ls (.ref (a (100 + i)) :: rest))) : W p l e R s m args below meth c H locs cells slots Q (F0 m pc ls rest) := va_ldcS K.1 K.2.1 K.2.2.2.1 (K.2.2.2.2.2.2.2.2.2.2.2.1 i _ hstr) hdg kk
theorem nf_ldcwS (K : nf_K p s m args meth c own cc nL ret D a sz) {is : Nat} {tx : String} (i : Nat) (hstr : nf_strs[i]? = some (own, is, tx)) (hdg : decode cc pc = .ok (.ldc_w is, 3))
    (kk : W p l e R s m args below meth c H locs cells slots Q (F0 m (pc + 3) ls (.ref (a (100 + i)) :: rest))) : W p l e R s m args below meth c H locs cells slots Q (F0 m pc ls rest) := by
  have hZ := K.2.2.2.2.2.2.2.2.2.2.2.1 i _ hstr
  intro T hT X
  obtain ⟨t, a1, b1⟩ := kk T hT X
  refine ⟨t, ?_, b1⟩
  obtain ⟨k, cf, i', a', hk, hcf, hcp, -, hr, hev'⟩ := Cond.stringRef_spec K.2.2.2.1 hZ.1
  have hea : a' = a (100 + i) := by
    have h1 := hZ.2
    have h2 : (Term.string own is).eval #[] s none [] s = some (.ref a') := hev'
    rw [h2] at h1
    cases h1; rfl
  obtain ⟨k', hk', he⟩ := X.warmed.alike.2.2 _ _ hk
  have hr' : k'.resolved[is]? = some (some (.string a')) := by
    rcases X.warmed.entry hk hk' is with h | ⟨h, -⟩
    · rw [h]; exact hr
    · rw [hr] at h; cases h
  have hdg' : decode c.code (F0 m pc ls rest).pc = .ok (.ldc_w is, 3) := by rw [K.2.1]; exact hdg
  jvm_step X.here [K.1, hdg', ldc_w.wp_string (e := e) (s := T) (f := F0 m pc ls rest) X.here.top hk' (by rw [he]; exact hcf) hcp hr']
  rw [hea]
  exact a1
end NF5
