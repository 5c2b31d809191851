/-! rows for compares and switches, with the positive side first; arrays; tables (printed by wip/whole/gen/rows2.py) -/
def nf_dlt (x y : UInt64) : Prop := FP.dcmp x y = some .lt
def nf_dgt (x y : UInt64) : Prop := FP.dcmp x y = some .gt
def nf_deq (x y : UInt64) : Prop := FP.dcmp x y = some .eq
def nf_dle (x y : UInt64) : Prop := FP.dcmp x y = some .lt ∨ FP.dcmp x y = some .eq
def nf_dge (x y : UInt64) : Prop := FP.dcmp x y = some .gt ∨ FP.dcmp x y = some .eq
theorem nf_ne {x c : Int32} {k : Int} (h : ¬ x = c) (hk : c.toInt = k) : x.toInt ≠ k := fun e => h (Int32.toInt_inj.mp (e.trans hk.symm))
def nf_rg (i : Int32) : Fin 9 := ⟨1 + i.toNatClampNeg % 8, by omega⟩
theorem nf_rg_val {i : Int32} (h : vp_in i 8) : 10 + (nf_rg i).val = 11 + i.toNatClampNeg := by
  have h1 : i.toNatClampNeg < 8 := Nat.not_le.mp fun q => h (Or.inr q)
  show 10 + (1 + i.toNatClampNeg % 8) = _
  omega
section NF5
variable {p : Program} {l : Launch} {e : Env} {R : Room} {s : State} {m : MethodId} {args : Array Value} {below : List Frame} {meth : Method} {c : Code} {H : Heap} {locs : List Loc} {cells slots : Nat} {Q : State → Prop}
variable {own : String} {cc : ByteArray} {nL : Nat} {ret : Option FieldType} {D : va_G} {a : Nat → Nat} {sz : Nat} {M : nf_M} {pc : Nat} {ls : Array Slot} {rest : List Value}
theorem nf_if_lt (hexec : p.tables.exec = Jvm.exec) (hb : c.code = cc) {x : Int32} {off : Int} {tgt : Nat} (hdg : decode cc pc = .ok (.ifCond .lt off, 3)) (ht : (pc : Int) + off = (tgt : Int)) (kp : x < 0 → W p l e R s m args below meth c H locs cells slots Q (F0 m tgt ls rest)) (kn : ¬ x < 0 → W p l e R s m args below meth c H locs cells slots Q (F0 m (pc + 3) ls rest)) : W p l e R s m args below meth c H locs cells slots Q (F0 m pc ls (.int x :: rest)) := lv_if_lt hexec hb hdg ht kp kn
theorem nf_if_ge (hexec : p.tables.exec = Jvm.exec) (hb : c.code = cc) {x : Int32} {off : Int} {tgt : Nat} (hdg : decode cc pc = .ok (.ifCond .ge off, 3)) (ht : (pc : Int) + off = (tgt : Int)) (kp : x < 0 → W p l e R s m args below meth c H locs cells slots Q (F0 m (pc + 3) ls rest)) (kn : ¬ x < 0 → W p l e R s m args below meth c H locs cells slots Q (F0 m tgt ls rest)) : W p l e R s m args below meth c H locs cells slots Q (F0 m pc ls (.int x :: rest)) := lv_if_ge hexec hb hdg ht (fun h => kn (Int32.not_lt.mpr h)) (fun h => kp (Int32.not_le.mp h))
theorem nf_if_gt (hexec : p.tables.exec = Jvm.exec) (hb : c.code = cc) {x : Int32} {off : Int} {tgt : Nat} (hdg : decode cc pc = .ok (.ifCond .gt off, 3)) (ht : (pc : Int) + off = (tgt : Int)) (kp : 0 < x → W p l e R s m args below meth c H locs cells slots Q (F0 m tgt ls rest)) (kn : ¬ 0 < x → W p l e R s m args below meth c H locs cells slots Q (F0 m (pc + 3) ls rest)) : W p l e R s m args below meth c H locs cells slots Q (F0 m pc ls (.int x :: rest)) := lv_if_gt hexec hb hdg ht kp kn
theorem nf_if_le (hexec : p.tables.exec = Jvm.exec) (hb : c.code = cc) {x : Int32} {off : Int} {tgt : Nat} (hdg : decode cc pc = .ok (.ifCond .le off, 3)) (ht : (pc : Int) + off = (tgt : Int)) (kp : 0 < x → W p l e R s m args below meth c H locs cells slots Q (F0 m (pc + 3) ls rest)) (kn : ¬ 0 < x → W p l e R s m args below meth c H locs cells slots Q (F0 m tgt ls rest)) : W p l e R s m args below meth c H locs cells slots Q (F0 m pc ls (.int x :: rest)) := lv_if_le hexec hb hdg ht (fun h => kn (Int32.not_lt.mpr h)) (fun h => kp (Int32.not_le.mp h))
theorem nf_if_eq (hexec : p.tables.exec = Jvm.exec) (hb : c.code = cc) {x : Int32} {off : Int} {tgt : Nat} (hdg : decode cc pc = .ok (.ifCond .eq off, 3)) (ht : (pc : Int) + off = (tgt : Int)) (kp : x = 0 → W p l e R s m args below meth c H locs cells slots Q (F0 m tgt ls rest)) (kn : ¬ x = 0 → W p l e R s m args below meth c H locs cells slots Q (F0 m (pc + 3) ls rest)) : W p l e R s m args below meth c H locs cells slots Q (F0 m pc ls (.int x :: rest)) := lv_if_eq hexec hb hdg ht kp kn
theorem nf_if_ne (hexec : p.tables.exec = Jvm.exec) (hb : c.code = cc) {x : Int32} {off : Int} {tgt : Nat} (hdg : decode cc pc = .ok (.ifCond .ne off, 3)) (ht : (pc : Int) + off = (tgt : Int)) (kp : x = 0 → W p l e R s m args below meth c H locs cells slots Q (F0 m (pc + 3) ls rest)) (kn : ¬ x = 0 → W p l e R s m args below meth c H locs cells slots Q (F0 m tgt ls rest)) : W p l e R s m args below meth c H locs cells slots Q (F0 m pc ls (.int x :: rest)) := lv_if_ne hexec hb hdg ht kn kp
theorem nf_ic_lt (hexec : p.tables.exec = Jvm.exec) (hb : c.code = cc) {x y : Int32} {off : Int} {tgt : Nat} (hdg : decode cc pc = .ok (.if_icmp .lt off, 3)) (ht : (pc : Int) + off = (tgt : Int)) (kp : x < y → W p l e R s m args below meth c H locs cells slots Q (F0 m tgt ls rest)) (kn : ¬ x < y → W p l e R s m args below meth c H locs cells slots Q (F0 m (pc + 3) ls rest)) : W p l e R s m args below meth c H locs cells slots Q (F0 m pc ls (.int y :: .int x :: rest)) := lv_icmp_lt hexec hb hdg ht kp kn
theorem nf_ic_ge (hexec : p.tables.exec = Jvm.exec) (hb : c.code = cc) {x y : Int32} {off : Int} {tgt : Nat} (hdg : decode cc pc = .ok (.if_icmp .ge off, 3)) (ht : (pc : Int) + off = (tgt : Int)) (kp : x < y → W p l e R s m args below meth c H locs cells slots Q (F0 m (pc + 3) ls rest)) (kn : ¬ x < y → W p l e R s m args below meth c H locs cells slots Q (F0 m tgt ls rest)) : W p l e R s m args below meth c H locs cells slots Q (F0 m pc ls (.int y :: .int x :: rest)) := lv_icmp_ge hexec hb hdg ht (fun h => kn (Int32.not_lt.mpr h)) (fun h => kp (Int32.not_le.mp h))
theorem nf_ic_gt (hexec : p.tables.exec = Jvm.exec) (hb : c.code = cc) {x y : Int32} {off : Int} {tgt : Nat} (hdg : decode cc pc = .ok (.if_icmp .gt off, 3)) (ht : (pc : Int) + off = (tgt : Int)) (kp : y < x → W p l e R s m args below meth c H locs cells slots Q (F0 m tgt ls rest)) (kn : ¬ y < x → W p l e R s m args below meth c H locs cells slots Q (F0 m (pc + 3) ls rest)) : W p l e R s m args below meth c H locs cells slots Q (F0 m pc ls (.int y :: .int x :: rest)) := lv_icmp_gt hexec hb hdg ht kp kn
theorem nf_ic_le (hexec : p.tables.exec = Jvm.exec) (hb : c.code = cc) {x y : Int32} {off : Int} {tgt : Nat} (hdg : decode cc pc = .ok (.if_icmp .le off, 3)) (ht : (pc : Int) + off = (tgt : Int)) (kp : y < x → W p l e R s m args below meth c H locs cells slots Q (F0 m (pc + 3) ls rest)) (kn : ¬ y < x → W p l e R s m args below meth c H locs cells slots Q (F0 m tgt ls rest)) : W p l e R s m args below meth c H locs cells slots Q (F0 m pc ls (.int y :: .int x :: rest)) := lv_icmp_le hexec hb hdg ht (fun h => kn (Int32.not_lt.mpr h)) (fun h => kp (Int32.not_le.mp h))
theorem nf_ic_eq (hexec : p.tables.exec = Jvm.exec) (hb : c.code = cc) {x y : Int32} {off : Int} {tgt : Nat} (hdg : decode cc pc = .ok (.if_icmp .eq off, 3)) (ht : (pc : Int) + off = (tgt : Int)) (kp : x = y → W p l e R s m args below meth c H locs cells slots Q (F0 m tgt ls rest)) (kn : ¬ x = y → W p l e R s m args below meth c H locs cells slots Q (F0 m (pc + 3) ls rest)) : W p l e R s m args below meth c H locs cells slots Q (F0 m pc ls (.int y :: .int x :: rest)) := lv_icmp_eq hexec hb hdg ht kp kn
theorem nf_ic_ne (hexec : p.tables.exec = Jvm.exec) (hb : c.code = cc) {x y : Int32} {off : Int} {tgt : Nat} (hdg : decode cc pc = .ok (.if_icmp .ne off, 3)) (ht : (pc : Int) + off = (tgt : Int)) (kp : x = y → W p l e R s m args below meth c H locs cells slots Q (F0 m (pc + 3) ls rest)) (kn : ¬ x = y → W p l e R s m args below meth c H locs cells slots Q (F0 m tgt ls rest)) : W p l e R s m args below meth c H locs cells slots Q (F0 m pc ls (.int y :: .int x :: rest)) := lv_icmp_ne hexec hb hdg ht kn kp
theorem nf_lc_lt (hexec : p.tables.exec = Jvm.exec) (hb : c.code = cc) {x y : Int64} {off : Int} {tgt : Nat} (hd0 : decode cc pc = .ok (.lcmp, 1)) (hdg : decode cc (pc + 1) = .ok (.ifCond .lt off, 3)) (ht : ((pc + 1 : Nat) : Int) + off = (tgt : Int)) (kp : x < y → W p l e R s m args below meth c H locs cells slots Q (F0 m tgt ls rest)) (kn : ¬ x < y → W p l e R s m args below meth c H locs cells slots Q (F0 m (pc + 1 + 3) ls rest)) : W p l e R s m args below meth c H locs cells slots Q (F0 m pc ls (.long y :: .long x :: rest)) := by
  refine W.lcmp hexec hb hd0 (nf_if_lt hexec hb hdg ht (fun h => ?_) (fun h => ?_))
  all_goals
    unfold lg_cmp at h
    by_cases h1 : x > y
    · have h2 : ¬ x < y := fun z => Int64.lt_irrefl (Int64.lt_trans z h1)
      have h3 : ¬ x = y := fun z => by rw [z] at h1; exact Int64.lt_irrefl h1
      first | (rw [if_pos h1] at h; exact absurd h (by decide)) | exact kp h1 | exact kn h2 | exact kn h3
    · by_cases h2 : x = y
      · have h3 : ¬ x < y := fun z => by rw [h2] at z; exact Int64.lt_irrefl z
        first | (rw [if_neg h1, if_pos h2] at h; exact absurd h (by decide)) | exact kp h2 | exact kn h1 | exact kn h3
      · have h3 : x < y := by
          have q1 : ¬ y.toInt < x.toInt := fun z => h1 (Int64.lt_iff_toInt_lt.mpr z)
          have q2 : ¬ x.toInt = y.toInt := fun z => h2 (Int64.toInt_inj.mp z)
          exact Int64.lt_iff_toInt_lt.mpr (by omega)
        first | (rw [if_neg h1, if_neg h2] at h; exact absurd h (by decide)) | exact kp h3 | exact kn h1 | exact kn h2
theorem nf_lc_ge (hexec : p.tables.exec = Jvm.exec) (hb : c.code = cc) {x y : Int64} {off : Int} {tgt : Nat} (hd0 : decode cc pc = .ok (.lcmp, 1)) (hdg : decode cc (pc + 1) = .ok (.ifCond .ge off, 3)) (ht : ((pc + 1 : Nat) : Int) + off = (tgt : Int)) (kp : x < y → W p l e R s m args below meth c H locs cells slots Q (F0 m (pc + 1 + 3) ls rest)) (kn : ¬ x < y → W p l e R s m args below meth c H locs cells slots Q (F0 m tgt ls rest)) : W p l e R s m args below meth c H locs cells slots Q (F0 m pc ls (.long y :: .long x :: rest)) := by
  refine W.lcmp hexec hb hd0 (nf_if_ge hexec hb hdg ht (fun h => ?_) (fun h => ?_))
  all_goals
    unfold lg_cmp at h
    by_cases h1 : x > y
    · have h2 : ¬ x < y := fun z => Int64.lt_irrefl (Int64.lt_trans z h1)
      have h3 : ¬ x = y := fun z => by rw [z] at h1; exact Int64.lt_irrefl h1
      first | (rw [if_pos h1] at h; exact absurd h (by decide)) | exact kp h1 | exact kn h2 | exact kn h3
    · by_cases h2 : x = y
      · have h3 : ¬ x < y := fun z => by rw [h2] at z; exact Int64.lt_irrefl z
        first | (rw [if_neg h1, if_pos h2] at h; exact absurd h (by decide)) | exact kp h2 | exact kn h1 | exact kn h3
      · have h3 : x < y := by
          have q1 : ¬ y.toInt < x.toInt := fun z => h1 (Int64.lt_iff_toInt_lt.mpr z)
          have q2 : ¬ x.toInt = y.toInt := fun z => h2 (Int64.toInt_inj.mp z)
          exact Int64.lt_iff_toInt_lt.mpr (by omega)
        first | (rw [if_neg h1, if_neg h2] at h; exact absurd h (by decide)) | exact kp h3 | exact kn h1 | exact kn h2
theorem nf_lc_gt (hexec : p.tables.exec = Jvm.exec) (hb : c.code = cc) {x y : Int64} {off : Int} {tgt : Nat} (hd0 : decode cc pc = .ok (.lcmp, 1)) (hdg : decode cc (pc + 1) = .ok (.ifCond .gt off, 3)) (ht : ((pc + 1 : Nat) : Int) + off = (tgt : Int)) (kp : y < x → W p l e R s m args below meth c H locs cells slots Q (F0 m tgt ls rest)) (kn : ¬ y < x → W p l e R s m args below meth c H locs cells slots Q (F0 m (pc + 1 + 3) ls rest)) : W p l e R s m args below meth c H locs cells slots Q (F0 m pc ls (.long y :: .long x :: rest)) := by
  refine W.lcmp hexec hb hd0 (nf_if_gt hexec hb hdg ht (fun h => ?_) (fun h => ?_))
  all_goals
    unfold lg_cmp at h
    by_cases h1 : x > y
    · have h2 : ¬ x < y := fun z => Int64.lt_irrefl (Int64.lt_trans z h1)
      have h3 : ¬ x = y := fun z => by rw [z] at h1; exact Int64.lt_irrefl h1
      first | (rw [if_pos h1] at h; exact absurd h (by decide)) | exact kp h1 | exact kn h2 | exact kn h3
    · by_cases h2 : x = y
      · have h3 : ¬ x < y := fun z => by rw [h2] at z; exact Int64.lt_irrefl z
        first | (rw [if_neg h1, if_pos h2] at h; exact absurd h (by decide)) | exact kp h2 | exact kn h1 | exact kn h3
      · have h3 : x < y := by
          have q1 : ¬ y.toInt < x.toInt := fun z => h1 (Int64.lt_iff_toInt_lt.mpr z)
          have q2 : ¬ x.toInt = y.toInt := fun z => h2 (Int64.toInt_inj.mp z)
          exact Int64.lt_iff_toInt_lt.mpr (by omega)
        first | (rw [if_neg h1, if_neg h2] at h; exact absurd h (by decide)) | exact kp h3 | exact kn h1 | exact kn h2
theorem nf_lc_le (hexec : p.tables.exec = Jvm.exec) (hb : c.code = cc) {x y : Int64} {off : Int} {tgt : Nat} (hd0 : decode cc pc = .ok (.lcmp, 1)) (hdg : decode cc (pc + 1) = .ok (.ifCond .le off, 3)) (ht : ((pc + 1 : Nat) : Int) + off = (tgt : Int)) (kp : y < x → W p l e R s m args below meth c H locs cells slots Q (F0 m (pc + 1 + 3) ls rest)) (kn : ¬ y < x → W p l e R s m args below meth c H locs cells slots Q (F0 m tgt ls rest)) : W p l e R s m args below meth c H locs cells slots Q (F0 m pc ls (.long y :: .long x :: rest)) := by
  refine W.lcmp hexec hb hd0 (nf_if_le hexec hb hdg ht (fun h => ?_) (fun h => ?_))
  all_goals
    unfold lg_cmp at h
    by_cases h1 : x > y
    · have h2 : ¬ x < y := fun z => Int64.lt_irrefl (Int64.lt_trans z h1)
      have h3 : ¬ x = y := fun z => by rw [z] at h1; exact Int64.lt_irrefl h1
      first | (rw [if_pos h1] at h; exact absurd h (by decide)) | exact kp h1 | exact kn h2 | exact kn h3
    · by_cases h2 : x = y
      · have h3 : ¬ x < y := fun z => by rw [h2] at z; exact Int64.lt_irrefl z
        first | (rw [if_neg h1, if_pos h2] at h; exact absurd h (by decide)) | exact kp h2 | exact kn h1 | exact kn h3
      · have h3 : x < y := by
          have q1 : ¬ y.toInt < x.toInt := fun z => h1 (Int64.lt_iff_toInt_lt.mpr z)
          have q2 : ¬ x.toInt = y.toInt := fun z => h2 (Int64.toInt_inj.mp z)
          exact Int64.lt_iff_toInt_lt.mpr (by omega)
        first | (rw [if_neg h1, if_neg h2] at h; exact absurd h (by decide)) | exact kp h3 | exact kn h1 | exact kn h2
theorem nf_lc_eq (hexec : p.tables.exec = Jvm.exec) (hb : c.code = cc) {x y : Int64} {off : Int} {tgt : Nat} (hd0 : decode cc pc = .ok (.lcmp, 1)) (hdg : decode cc (pc + 1) = .ok (.ifCond .eq off, 3)) (ht : ((pc + 1 : Nat) : Int) + off = (tgt : Int)) (kp : x = y → W p l e R s m args below meth c H locs cells slots Q (F0 m tgt ls rest)) (kn : ¬ x = y → W p l e R s m args below meth c H locs cells slots Q (F0 m (pc + 1 + 3) ls rest)) : W p l e R s m args below meth c H locs cells slots Q (F0 m pc ls (.long y :: .long x :: rest)) := by
  refine W.lcmp hexec hb hd0 (nf_if_eq hexec hb hdg ht (fun h => ?_) (fun h => ?_))
  all_goals
    unfold lg_cmp at h
    by_cases h1 : x > y
    · have h2 : ¬ x < y := fun z => Int64.lt_irrefl (Int64.lt_trans z h1)
      have h3 : ¬ x = y := fun z => by rw [z] at h1; exact Int64.lt_irrefl h1
      first | (rw [if_pos h1] at h; exact absurd h (by decide)) | exact kp h1 | exact kn h2 | exact kn h3
    · by_cases h2 : x = y
      · have h3 : ¬ x < y := fun z => by rw [h2] at z; exact Int64.lt_irrefl z
        first | (rw [if_neg h1, if_pos h2] at h; exact absurd h (by decide)) | exact kp h2 | exact kn h1 | exact kn h3
      · have h3 : x < y := by
          have q1 : ¬ y.toInt < x.toInt := fun z => h1 (Int64.lt_iff_toInt_lt.mpr z)
          have q2 : ¬ x.toInt = y.toInt := fun z => h2 (Int64.toInt_inj.mp z)
          exact Int64.lt_iff_toInt_lt.mpr (by omega)
        first | (rw [if_neg h1, if_neg h2] at h; exact absurd h (by decide)) | exact kp h3 | exact kn h1 | exact kn h2
theorem nf_lc_ne (hexec : p.tables.exec = Jvm.exec) (hb : c.code = cc) {x y : Int64} {off : Int} {tgt : Nat} (hd0 : decode cc pc = .ok (.lcmp, 1)) (hdg : decode cc (pc + 1) = .ok (.ifCond .ne off, 3)) (ht : ((pc + 1 : Nat) : Int) + off = (tgt : Int)) (kp : x = y → W p l e R s m args below meth c H locs cells slots Q (F0 m (pc + 1 + 3) ls rest)) (kn : ¬ x = y → W p l e R s m args below meth c H locs cells slots Q (F0 m tgt ls rest)) : W p l e R s m args below meth c H locs cells slots Q (F0 m pc ls (.long y :: .long x :: rest)) := by
  refine W.lcmp hexec hb hd0 (nf_if_ne hexec hb hdg ht (fun h => ?_) (fun h => ?_))
  all_goals
    unfold lg_cmp at h
    by_cases h1 : x > y
    · have h2 : ¬ x < y := fun z => Int64.lt_irrefl (Int64.lt_trans z h1)
      have h3 : ¬ x = y := fun z => by rw [z] at h1; exact Int64.lt_irrefl h1
      first | (rw [if_pos h1] at h; exact absurd h (by decide)) | exact kp h1 | exact kn h2 | exact kn h3
    · by_cases h2 : x = y
      · have h3 : ¬ x < y := fun z => by rw [h2] at z; exact Int64.lt_irrefl z
        first | (rw [if_neg h1, if_pos h2] at h; exact absurd h (by decide)) | exact kp h2 | exact kn h1 | exact kn h3
      · have h3 : x < y := by
          have q1 : ¬ y.toInt < x.toInt := fun z => h1 (Int64.lt_iff_toInt_lt.mpr z)
          have q2 : ¬ x.toInt = y.toInt := fun z => h2 (Int64.toInt_inj.mp z)
          exact Int64.lt_iff_toInt_lt.mpr (by omega)
        first | (rw [if_neg h1, if_neg h2] at h; exact absurd h (by decide)) | exact kp h3 | exact kn h1 | exact kn h2
theorem nf_dg_lt (hexec : p.tables.exec = Jvm.exec) (hb : c.code = cc) {x y : UInt64} {off : Int} {tgt : Nat} (hd0 : decode cc pc = .ok (.dcmp .g, 1)) (hdg : decode cc (pc + 1) = .ok (.ifCond .lt off, 3)) (ht : ((pc + 1 : Nat) : Int) + off = (tgt : Int)) (kp : nf_dlt x y → W p l e R s m args below meth c H locs cells slots Q (F0 m tgt ls rest)) (kn : ¬ nf_dlt x y → W p l e R s m args below meth c H locs cells slots Q (F0 m (pc + 1 + 3) ls rest)) : W p l e R s m args below meth c H locs cells slots Q (F0 m pc ls (.double y :: .double x :: rest)) := by
  simp only [nf_dlt, nf_dgt, nf_deq, nf_dle, nf_dge] at kp kn
  refine lv_dcmp hexec hb hd0 (nf_if_lt hexec hb hdg ht (fun h => ?_) (fun h => ?_))
  all_goals
    rcases hd : FP.dcmp x y with _ | o
    · rw [hd] at h kp kn
      first | exact absurd h (by decide) | exact kn (by simp) | exact kp (by simp)
    · rw [hd] at h kp kn
      cases o <;> first | exact absurd h (by decide) | exact kn (by simp) | exact kp (by simp)
theorem nf_dg_ge (hexec : p.tables.exec = Jvm.exec) (hb : c.code = cc) {x y : UInt64} {off : Int} {tgt : Nat} (hd0 : decode cc pc = .ok (.dcmp .g, 1)) (hdg : decode cc (pc + 1) = .ok (.ifCond .ge off, 3)) (ht : ((pc + 1 : Nat) : Int) + off = (tgt : Int)) (kp : nf_dlt x y → W p l e R s m args below meth c H locs cells slots Q (F0 m (pc + 1 + 3) ls rest)) (kn : ¬ nf_dlt x y → W p l e R s m args below meth c H locs cells slots Q (F0 m tgt ls rest)) : W p l e R s m args below meth c H locs cells slots Q (F0 m pc ls (.double y :: .double x :: rest)) := by
  simp only [nf_dlt, nf_dgt, nf_deq, nf_dle, nf_dge] at kp kn
  refine lv_dcmp hexec hb hd0 (nf_if_ge hexec hb hdg ht (fun h => ?_) (fun h => ?_))
  all_goals
    rcases hd : FP.dcmp x y with _ | o
    · rw [hd] at h kp kn
      first | exact absurd h (by decide) | exact kn (by simp) | exact kp (by simp)
    · rw [hd] at h kp kn
      cases o <;> first | exact absurd h (by decide) | exact kn (by simp) | exact kp (by simp)
theorem nf_dg_gt (hexec : p.tables.exec = Jvm.exec) (hb : c.code = cc) {x y : UInt64} {off : Int} {tgt : Nat} (hd0 : decode cc pc = .ok (.dcmp .g, 1)) (hdg : decode cc (pc + 1) = .ok (.ifCond .gt off, 3)) (ht : ((pc + 1 : Nat) : Int) + off = (tgt : Int)) (kp : nf_dle x y → W p l e R s m args below meth c H locs cells slots Q (F0 m (pc + 1 + 3) ls rest)) (kn : ¬ nf_dle x y → W p l e R s m args below meth c H locs cells slots Q (F0 m tgt ls rest)) : W p l e R s m args below meth c H locs cells slots Q (F0 m pc ls (.double y :: .double x :: rest)) := by
  simp only [nf_dlt, nf_dgt, nf_deq, nf_dle, nf_dge] at kp kn
  refine lv_dcmp hexec hb hd0 (nf_if_gt hexec hb hdg ht (fun h => ?_) (fun h => ?_))
  all_goals
    rcases hd : FP.dcmp x y with _ | o
    · rw [hd] at h kp kn
      first | exact absurd h (by decide) | exact kn (by simp) | exact kp (by simp)
    · rw [hd] at h kp kn
      cases o <;> first | exact absurd h (by decide) | exact kn (by simp) | exact kp (by simp)
theorem nf_dg_le (hexec : p.tables.exec = Jvm.exec) (hb : c.code = cc) {x y : UInt64} {off : Int} {tgt : Nat} (hd0 : decode cc pc = .ok (.dcmp .g, 1)) (hdg : decode cc (pc + 1) = .ok (.ifCond .le off, 3)) (ht : ((pc + 1 : Nat) : Int) + off = (tgt : Int)) (kp : nf_dle x y → W p l e R s m args below meth c H locs cells slots Q (F0 m tgt ls rest)) (kn : ¬ nf_dle x y → W p l e R s m args below meth c H locs cells slots Q (F0 m (pc + 1 + 3) ls rest)) : W p l e R s m args below meth c H locs cells slots Q (F0 m pc ls (.double y :: .double x :: rest)) := by
  simp only [nf_dlt, nf_dgt, nf_deq, nf_dle, nf_dge] at kp kn
  refine lv_dcmp hexec hb hd0 (nf_if_le hexec hb hdg ht (fun h => ?_) (fun h => ?_))
  all_goals
    rcases hd : FP.dcmp x y with _ | o
    · rw [hd] at h kp kn
      first | exact absurd h (by decide) | exact kn (by simp) | exact kp (by simp)
    · rw [hd] at h kp kn
      cases o <;> first | exact absurd h (by decide) | exact kn (by simp) | exact kp (by simp)
theorem nf_dg_eq (hexec : p.tables.exec = Jvm.exec) (hb : c.code = cc) {x y : UInt64} {off : Int} {tgt : Nat} (hd0 : decode cc pc = .ok (.dcmp .g, 1)) (hdg : decode cc (pc + 1) = .ok (.ifCond .eq off, 3)) (ht : ((pc + 1 : Nat) : Int) + off = (tgt : Int)) (kp : nf_deq x y → W p l e R s m args below meth c H locs cells slots Q (F0 m tgt ls rest)) (kn : ¬ nf_deq x y → W p l e R s m args below meth c H locs cells slots Q (F0 m (pc + 1 + 3) ls rest)) : W p l e R s m args below meth c H locs cells slots Q (F0 m pc ls (.double y :: .double x :: rest)) := by
  simp only [nf_dlt, nf_dgt, nf_deq, nf_dle, nf_dge] at kp kn
  refine lv_dcmp hexec hb hd0 (nf_if_eq hexec hb hdg ht (fun h => ?_) (fun h => ?_))
  all_goals
    rcases hd : FP.dcmp x y with _ | o
    · rw [hd] at h kp kn
      first | exact absurd h (by decide) | exact kn (by simp) | exact kp (by simp)
    · rw [hd] at h kp kn
      cases o <;> first | exact absurd h (by decide) | exact kn (by simp) | exact kp (by simp)
theorem nf_dg_ne (hexec : p.tables.exec = Jvm.exec) (hb : c.code = cc) {x y : UInt64} {off : Int} {tgt : Nat} (hd0 : decode cc pc = .ok (.dcmp .g, 1)) (hdg : decode cc (pc + 1) = .ok (.ifCond .ne off, 3)) (ht : ((pc + 1 : Nat) : Int) + off = (tgt : Int)) (kp : nf_deq x y → W p l e R s m args below meth c H locs cells slots Q (F0 m (pc + 1 + 3) ls rest)) (kn : ¬ nf_deq x y → W p l e R s m args below meth c H locs cells slots Q (F0 m tgt ls rest)) : W p l e R s m args below meth c H locs cells slots Q (F0 m pc ls (.double y :: .double x :: rest)) := by
  simp only [nf_dlt, nf_dgt, nf_deq, nf_dle, nf_dge] at kp kn
  refine lv_dcmp hexec hb hd0 (nf_if_ne hexec hb hdg ht (fun h => ?_) (fun h => ?_))
  all_goals
    rcases hd : FP.dcmp x y with _ | o
    · rw [hd] at h kp kn
      first | exact absurd h (by decide) | exact kn (by simp) | exact kp (by simp)
    · rw [hd] at h kp kn
      cases o <;> first | exact absurd h (by decide) | exact kn (by simp) | exact kp (by simp)
theorem nf_dl_lt (hexec : p.tables.exec = Jvm.exec) (hb : c.code = cc) {x y : UInt64} {off : Int} {tgt : Nat} (hd0 : decode cc pc = .ok (.dcmp .l, 1)) (hdg : decode cc (pc + 1) = .ok (.ifCond .lt off, 3)) (ht : ((pc + 1 : Nat) : Int) + off = (tgt : Int)) (kp : nf_dge x y → W p l e R s m args below meth c H locs cells slots Q (F0 m (pc + 1 + 3) ls rest)) (kn : ¬ nf_dge x y → W p l e R s m args below meth c H locs cells slots Q (F0 m tgt ls rest)) : W p l e R s m args below meth c H locs cells slots Q (F0 m pc ls (.double y :: .double x :: rest)) := by
  simp only [nf_dlt, nf_dgt, nf_deq, nf_dle, nf_dge] at kp kn
  refine lv_dcmp hexec hb hd0 (nf_if_lt hexec hb hdg ht (fun h => ?_) (fun h => ?_))
  all_goals
    rcases hd : FP.dcmp x y with _ | o
    · rw [hd] at h kp kn
      first | exact absurd h (by decide) | exact kn (by simp) | exact kp (by simp)
    · rw [hd] at h kp kn
      cases o <;> first | exact absurd h (by decide) | exact kn (by simp) | exact kp (by simp)
theorem nf_dl_ge (hexec : p.tables.exec = Jvm.exec) (hb : c.code = cc) {x y : UInt64} {off : Int} {tgt : Nat} (hd0 : decode cc pc = .ok (.dcmp .l, 1)) (hdg : decode cc (pc + 1) = .ok (.ifCond .ge off, 3)) (ht : ((pc + 1 : Nat) : Int) + off = (tgt : Int)) (kp : nf_dge x y → W p l e R s m args below meth c H locs cells slots Q (F0 m tgt ls rest)) (kn : ¬ nf_dge x y → W p l e R s m args below meth c H locs cells slots Q (F0 m (pc + 1 + 3) ls rest)) : W p l e R s m args below meth c H locs cells slots Q (F0 m pc ls (.double y :: .double x :: rest)) := by
  simp only [nf_dlt, nf_dgt, nf_deq, nf_dle, nf_dge] at kp kn
  refine lv_dcmp hexec hb hd0 (nf_if_ge hexec hb hdg ht (fun h => ?_) (fun h => ?_))
  all_goals
    rcases hd : FP.dcmp x y with _ | o
    · rw [hd] at h kp kn
      first | exact absurd h (by decide) | exact kn (by simp) | exact kp (by simp)
    · rw [hd] at h kp kn
      cases o <;> first | exact absurd h (by decide) | exact kn (by simp) | exact kp (by simp)
theorem nf_dl_gt (hexec : p.tables.exec = Jvm.exec) (hb : c.code = cc) {x y : UInt64} {off : Int} {tgt : Nat} (hd0 : decode cc pc = .ok (.dcmp .l, 1)) (hdg : decode cc (pc + 1) = .ok (.ifCond .gt off, 3)) (ht : ((pc + 1 : Nat) : Int) + off = (tgt : Int)) (kp : nf_dgt x y → W p l e R s m args below meth c H locs cells slots Q (F0 m tgt ls rest)) (kn : ¬ nf_dgt x y → W p l e R s m args below meth c H locs cells slots Q (F0 m (pc + 1 + 3) ls rest)) : W p l e R s m args below meth c H locs cells slots Q (F0 m pc ls (.double y :: .double x :: rest)) := by
  simp only [nf_dlt, nf_dgt, nf_deq, nf_dle, nf_dge] at kp kn
  refine lv_dcmp hexec hb hd0 (nf_if_gt hexec hb hdg ht (fun h => ?_) (fun h => ?_))
  all_goals
    rcases hd : FP.dcmp x y with _ | o
    · rw [hd] at h kp kn
      first | exact absurd h (by decide) | exact kn (by simp) | exact kp (by simp)
    · rw [hd] at h kp kn
      cases o <;> first | exact absurd h (by decide) | exact kn (by simp) | exact kp (by simp)
theorem nf_dl_le (hexec : p.tables.exec = Jvm.exec) (hb : c.code = cc) {x y : UInt64} {off : Int} {tgt : Nat} (hd0 : decode cc pc = .ok (.dcmp .l, 1)) (hdg : decode cc (pc + 1) = .ok (.ifCond .le off, 3)) (ht : ((pc + 1 : Nat) : Int) + off = (tgt : Int)) (kp : nf_dgt x y → W p l e R s m args below meth c H locs cells slots Q (F0 m (pc + 1 + 3) ls rest)) (kn : ¬ nf_dgt x y → W p l e R s m args below meth c H locs cells slots Q (F0 m tgt ls rest)) : W p l e R s m args below meth c H locs cells slots Q (F0 m pc ls (.double y :: .double x :: rest)) := by
  simp only [nf_dlt, nf_dgt, nf_deq, nf_dle, nf_dge] at kp kn
  refine lv_dcmp hexec hb hd0 (nf_if_le hexec hb hdg ht (fun h => ?_) (fun h => ?_))
  all_goals
    rcases hd : FP.dcmp x y with _ | o
    · rw [hd] at h kp kn
      first | exact absurd h (by decide) | exact kn (by simp) | exact kp (by simp)
    · rw [hd] at h kp kn
      cases o <;> first | exact absurd h (by decide) | exact kn (by simp) | exact kp (by simp)
theorem nf_dl_eq (hexec : p.tables.exec = Jvm.exec) (hb : c.code = cc) {x y : UInt64} {off : Int} {tgt : Nat} (hd0 : decode cc pc = .ok (.dcmp .l, 1)) (hdg : decode cc (pc + 1) = .ok (.ifCond .eq off, 3)) (ht : ((pc + 1 : Nat) : Int) + off = (tgt : Int)) (kp : nf_deq x y → W p l e R s m args below meth c H locs cells slots Q (F0 m tgt ls rest)) (kn : ¬ nf_deq x y → W p l e R s m args below meth c H locs cells slots Q (F0 m (pc + 1 + 3) ls rest)) : W p l e R s m args below meth c H locs cells slots Q (F0 m pc ls (.double y :: .double x :: rest)) := by
  simp only [nf_dlt, nf_dgt, nf_deq, nf_dle, nf_dge] at kp kn
  refine lv_dcmp hexec hb hd0 (nf_if_eq hexec hb hdg ht (fun h => ?_) (fun h => ?_))
  all_goals
    rcases hd : FP.dcmp x y with _ | o
    · rw [hd] at h kp kn
      first | exact absurd h (by decide) | exact kn (by simp) | exact kp (by simp)
    · rw [hd] at h kp kn
      cases o <;> first | exact absurd h (by decide) | exact kn (by simp) | exact kp (by simp)
theorem nf_dl_ne (hexec : p.tables.exec = Jvm.exec) (hb : c.code = cc) {x y : UInt64} {off : Int} {tgt : Nat} (hd0 : decode cc pc = .ok (.dcmp .l, 1)) (hdg : decode cc (pc + 1) = .ok (.ifCond .ne off, 3)) (ht : ((pc + 1 : Nat) : Int) + off = (tgt : Int)) (kp : nf_deq x y → W p l e R s m args below meth c H locs cells slots Q (F0 m (pc + 1 + 3) ls rest)) (kn : ¬ nf_deq x y → W p l e R s m args below meth c H locs cells slots Q (F0 m tgt ls rest)) : W p l e R s m args below meth c H locs cells slots Q (F0 m pc ls (.double y :: .double x :: rest)) := by
  simp only [nf_dlt, nf_dgt, nf_deq, nf_dle, nf_dge] at kp kn
  refine lv_dcmp hexec hb hd0 (nf_if_ne hexec hb hdg ht (fun h => ?_) (fun h => ?_))
  all_goals
    rcases hd : FP.dcmp x y with _ | o
    · rw [hd] at h kp kn
      first | exact absurd h (by decide) | exact kn (by simp) | exact kp (by simp)
    · rw [hd] at h kp kn
      cases o <;> first | exact absurd h (by decide) | exact kn (by simp) | exact kp (by simp)
theorem nf_iald (K : nf_K p s m args meth c own cc nL ret D a sz) (hw : nf_W D a s sz H locs M) (q0 t0 : Nat) {b cA n : Nat} {f : Nat → Int32} (he : (nf_cw a M)[q0]? = some (b, .inl (cA, n, .inl f))) (ht : (nf_ty a)[t0]? = some (cA, .int)) {i : Int32} (hin : vp_in i n) (hdg : decode cc pc = .ok (.iaload, 1))
    (kk : W p l e R s m args below meth c H locs cells slots Q (F0 m (pc + 1) ls (.int (f i.toNatClampNeg) :: rest))) : W p l e R s m args below meth c H locs cells slots Q (F0 m pc ls (.int i :: .ref b :: rest)) :=
  va_iald (D := D) (cl := nf_cl) (tys := nf_ty a) (ws := nf_cw a M) K.1 K.2.1 K.2.2.2.2.2.2.2.2.1 hw.1 q0 t0 he ht hin hdg kk
theorem nf_iast (K : nf_K p s m args meth c own cc nL ret D a sz) (hw : nf_W D a s sz H locs M) (q0 t0 : Nat) {b cA n : Nat} {f : Nat → Int32} {M' : nf_M} (he : (nf_cw a M)[q0]? = some (b, .inl (cA, n, .inl f))) (ht : (nf_ty a)[t0]? = some (cA, .int)) {i : Int32} {x : Int32} (hin : vp_in i n) (hset : (nf_cw a M).set q0 (b, .inl (cA, n, .inl (upd f i.toNatClampNeg x))) = nf_cw a M') (hdg : decode cc pc = .ok (.iastore, 1))
    (kk : ∀ (H' : Heap) (locs' : List Loc), nf_W D a s sz H' locs' M' → W p l e R s m args below meth c H' locs' cells slots Q (F0 m (pc + 1) ls rest)) : W p l e R s m args below meth c H locs cells slots Q (F0 m pc ls (.int x :: .int i :: .ref b :: rest)) :=
  va_iast (D := D) (cl := nf_cl) (tys := nf_ty a) (ws := nf_cw a M) K.1 K.2.1 K.2.2.2.2.2.2.2.2.1 hw.1 hw.2.1 hw.2.2 q0 t0 he ht hin hdg (fun H1 locs1 hP hD hS => kk H1 locs1 ⟨hset ▸ hP, nf_Dm hw.2.1, hS⟩)
theorem nf_lald (K : nf_K p s m args meth c own cc nL ret D a sz) (hw : nf_W D a s sz H locs M) (q0 t0 : Nat) {b cA n : Nat} {f : Nat → Int64} (he : (nf_cw a M)[q0]? = some (b, .inl (cA, n, .inr (.inl f)))) (ht : (nf_ty a)[t0]? = some (cA, .long)) {i : Int32} (hin : vp_in i n) (hdg : decode cc pc = .ok (.laload, 1))
    (kk : W p l e R s m args below meth c H locs cells slots Q (F0 m (pc + 1) ls (.long (f i.toNatClampNeg) :: rest))) : W p l e R s m args below meth c H locs cells slots Q (F0 m pc ls (.int i :: .ref b :: rest)) :=
  va_lald (D := D) (cl := nf_cl) (tys := nf_ty a) (ws := nf_cw a M) K.1 K.2.1 K.2.2.2.2.2.2.2.2.1 hw.1 q0 t0 he ht hin hdg kk
theorem nf_last (K : nf_K p s m args meth c own cc nL ret D a sz) (hw : nf_W D a s sz H locs M) (q0 t0 : Nat) {b cA n : Nat} {f : Nat → Int64} {M' : nf_M} (he : (nf_cw a M)[q0]? = some (b, .inl (cA, n, .inr (.inl f)))) (ht : (nf_ty a)[t0]? = some (cA, .long)) {i : Int32} {x : Int64} (hin : vp_in i n) (hset : (nf_cw a M).set q0 (b, .inl (cA, n, .inr (.inl (vp_updL f i.toNatClampNeg x)))) = nf_cw a M') (hdg : decode cc pc = .ok (.lastore, 1))
    (kk : ∀ (H' : Heap) (locs' : List Loc), nf_W D a s sz H' locs' M' → W p l e R s m args below meth c H' locs' cells slots Q (F0 m (pc + 1) ls rest)) : W p l e R s m args below meth c H locs cells slots Q (F0 m pc ls (.long x :: .int i :: .ref b :: rest)) :=
  va_last (D := D) (cl := nf_cl) (tys := nf_ty a) (ws := nf_cw a M) K.1 K.2.1 K.2.2.2.2.2.2.2.2.1 hw.1 hw.2.1 hw.2.2 q0 t0 he ht hin hdg (fun H1 locs1 hP hD hS => kk H1 locs1 ⟨hset ▸ hP, nf_Dm hw.2.1, hS⟩)
theorem nf_dald (K : nf_K p s m args meth c own cc nL ret D a sz) (hw : nf_W D a s sz H locs M) (q0 t0 : Nat) {b cA n : Nat} {f : Nat → UInt64} (he : (nf_cw a M)[q0]? = some (b, .inl (cA, n, .inr (.inr (.inr (.inl f)))))) (ht : (nf_ty a)[t0]? = some (cA, .double)) {i : Int32} (hin : vp_in i n) (hdg : decode cc pc = .ok (.daload, 1))
    (kk : W p l e R s m args below meth c H locs cells slots Q (F0 m (pc + 1) ls (.double (f i.toNatClampNeg) :: rest))) : W p l e R s m args below meth c H locs cells slots Q (F0 m pc ls (.int i :: .ref b :: rest)) :=
  va_dald (D := D) (cl := nf_cl) (tys := nf_ty a) (ws := nf_cw a M) K.1 K.2.1 K.2.2.2.2.2.2.2.2.1 hw.1 q0 t0 he ht hin hdg kk
theorem nf_dast (K : nf_K p s m args meth c own cc nL ret D a sz) (hw : nf_W D a s sz H locs M) (q0 t0 : Nat) {b cA n : Nat} {f : Nat → UInt64} {M' : nf_M} (he : (nf_cw a M)[q0]? = some (b, .inl (cA, n, .inr (.inr (.inr (.inl f)))))) (ht : (nf_ty a)[t0]? = some (cA, .double)) {i : Int32} {x : UInt64} (hin : vp_in i n) (hset : (nf_cw a M).set q0 (b, .inl (cA, n, .inr (.inr (.inr (.inl (vf_upd f i.toNatClampNeg x)))))) = nf_cw a M') (hdg : decode cc pc = .ok (.dastore, 1))
    (kk : ∀ (H' : Heap) (locs' : List Loc), nf_W D a s sz H' locs' M' → W p l e R s m args below meth c H' locs' cells slots Q (F0 m (pc + 1) ls rest)) : W p l e R s m args below meth c H locs cells slots Q (F0 m pc ls (.double x :: .int i :: .ref b :: rest)) :=
  va_dast (D := D) (cl := nf_cl) (tys := nf_ty a) (ws := nf_cw a M) K.1 K.2.1 K.2.2.2.2.2.2.2.2.1 hw.1 hw.2.1 hw.2.2 q0 t0 he ht hin hdg (fun H1 locs1 hP hD hS => kk H1 locs1 ⟨hset ▸ hP, nf_Dm hw.2.1, hS⟩)
theorem nf_heR (a : Nat → Nat) (M : nf_M) (b : Bool) : (nf_cw a M)[nf_ro b]? = some (a (nf_ro b), .inr (3, [.ref (a (nf_ro b + 1)), .int (mg_N M b)])) := by cases b <;> rfl
theorem nf_heC (a : Nat → Nat) (M : nf_M) (b : Bool) : (nf_cw a M)[nf_ro b + 1]? = some (a (nf_ro b + 1), .inl (a (51 + nf_ro b), nf_cap b, .inl (mg_C M b))) := by cases b <;> rfl
def nf_tC (b : Bool) : Nat := cond b 2 1
theorem nf_htC (a : Nat → Nat) (b : Bool) : (nf_ty a)[nf_tC b]? = some (a (51 + nf_ro b), .char) := by cases b <;> rfl
theorem nf_setN (a : Nat → Nat) (M : nf_M) (b : Bool) (x : Int32) : (nf_cw a M).set (nf_ro b) (a (nf_ro b), .inr (3, [.ref (a (nf_ro b + 1)), .int x])) = nf_cw a (ms_N M b x) := by cases b <;> rfl
theorem nf_setC (a : Nat → Nat) (M : nf_M) (b : Bool) (i : Nat) (x : Int32) : (nf_cw a M).set (nf_ro b + 1) (a (nf_ro b + 1), .inl (a (51 + nf_ro b), nf_cap b, .inl (upd (mg_C M b) i x))) = nf_cw a (ms_C M b i x) := by cases b <;> rfl
theorem nf_fin9 {P : Fin 9 → Prop} (h0 : P 0) (h1 : P 1) (h2 : P 2) (h3 : P 3) (h4 : P 4) (h5 : P 5) (h6 : P 6) (h7 : P 7) (h8 : P 8) : ∀ v, P v := fun v => by
  obtain ⟨k, hk⟩ := v
  rcases (show k = 0 ∨ k = 1 ∨ k = 2 ∨ k = 3 ∨ k = 4 ∨ k = 5 ∨ k = 6 ∨ k = 7 ∨ k = 8 by omega) with rfl | rfl | rfl | rfl | rfl | rfl | rfl | rfl | rfl <;> assumption
theorem nf_heV (a : Nat → Nat) (M : nf_M) (v : Fin 9) : (nf_cw a M)[10 + v.val]? = some (a (10 + v.val), .inr (4, [.int (mg_T M v), .long (mg_U M v), .int (mg_S M v), .double (mg_R M v)])) := nf_fin9 (P := fun v => (nf_cw a M)[10 + v.val]? = some (a (10 + v.val), .inr (4, [.int (mg_T M v), .long (mg_U M v), .int (mg_S M v), .double (mg_R M v)]))) rfl rfl rfl rfl rfl rfl rfl rfl rfl v
theorem nf_setT (a : Nat → Nat) (M : nf_M) (v : Fin 9) (x : Int32) : (nf_cw a M).set (10 + v.val) (a (10 + v.val), .inr (4, [.int x, .long (mg_U M v), .int (mg_S M v), .double (mg_R M v)])) = nf_cw a (ms_T M v x) := nf_fin9 (P := fun v => (nf_cw a M).set (10 + v.val) (a (10 + v.val), .inr (4, [.int x, .long (mg_U M v), .int (mg_S M v), .double (mg_R M v)])) = nf_cw a (ms_T M v x)) rfl rfl rfl rfl rfl rfl rfl rfl rfl v
theorem nf_setU (a : Nat → Nat) (M : nf_M) (v : Fin 9) (x : Int64) : (nf_cw a M).set (10 + v.val) (a (10 + v.val), .inr (4, [.int (mg_T M v), .long x, .int (mg_S M v), .double (mg_R M v)])) = nf_cw a (ms_U M v x) := nf_fin9 (P := fun v => (nf_cw a M).set (10 + v.val) (a (10 + v.val), .inr (4, [.int (mg_T M v), .long x, .int (mg_S M v), .double (mg_R M v)])) = nf_cw a (ms_U M v x)) rfl rfl rfl rfl rfl rfl rfl rfl rfl v
theorem nf_setS (a : Nat → Nat) (M : nf_M) (v : Fin 9) (x : Int32) : (nf_cw a M).set (10 + v.val) (a (10 + v.val), .inr (4, [.int (mg_T M v), .long (mg_U M v), .int x, .double (mg_R M v)])) = nf_cw a (ms_S M v x) := nf_fin9 (P := fun v => (nf_cw a M).set (10 + v.val) (a (10 + v.val), .inr (4, [.int (mg_T M v), .long (mg_U M v), .int x, .double (mg_R M v)])) = nf_cw a (ms_S M v x)) rfl rfl rfl rfl rfl rfl rfl rfl rfl v
theorem nf_setR (a : Nat → Nat) (M : nf_M) (v : Fin 9) (x : UInt64) : (nf_cw a M).set (10 + v.val) (a (10 + v.val), .inr (4, [.int (mg_T M v), .long (mg_U M v), .int (mg_S M v), .double x])) = nf_cw a (ms_R M v x) := nf_fin9 (P := fun v => (nf_cw a M).set (10 + v.val) (a (10 + v.val), .inr (4, [.int (mg_T M v), .long (mg_U M v), .int (mg_S M v), .double x])) = nf_cw a (ms_R M v x)) rfl rfl rfl rfl rfl rfl rfl rfl rfl v
theorem nf_cald (K : nf_K p s m args meth c own cc nL ret D a sz) (hw : nf_W D a s sz H locs M) {b : Bool} {i : Int32} (hin : vp_in i (nf_cap b)) (hdg : decode cc pc = .ok (.caload, 1))
    (kk : W p l e R s m args below meth c H locs cells slots Q (F0 m (pc + 1) ls (.int (mg_C M b i.toNatClampNeg) :: rest))) : W p l e R s m args below meth c H locs cells slots Q (F0 m pc ls (.int i :: .ref (a (nf_ro b + 1)) :: rest)) :=
  va_cald (D := D) (cl := nf_cl) (tys := nf_ty a) (ws := nf_cw a M) K.1 K.2.1 K.2.2.2.2.2.2.2.2.1 hw.1 (nf_ro b + 1) (nf_tC b) (nf_heC a M b) (nf_htC a b) hin hdg kk
theorem nf_cast (K : nf_K p s m args meth c own cc nL ret D a sz) (hw : nf_W D a s sz H locs M) {b : Bool} {i x : Int32} (hin : vp_in i (nf_cap b)) (hdg : decode cc pc = .ok (.castore, 1))
    (kk : ∀ (H' : Heap) (locs' : List Loc), nf_W D a s sz H' locs' (ms_C M b i.toNatClampNeg (vp_nar .char x)) → W p l e R s m args below meth c H' locs' cells slots Q (F0 m (pc + 1) ls rest)) : W p l e R s m args below meth c H locs cells slots Q (F0 m pc ls (.int x :: .int i :: .ref (a (nf_ro b + 1)) :: rest)) :=
  va_cast (D := D) (cl := nf_cl) (tys := nf_ty a) (ws := nf_cw a M) K.1 K.2.1 K.2.2.2.2.2.2.2.2.1 hw.1 hw.2.1 hw.2.2 (nf_ro b + 1) (nf_tC b) (nf_heC a M b) (nf_htC a b) hin hdg (fun H1 locs1 hP hD hS => kk H1 locs1 ⟨nf_setC a M b _ _ ▸ hP, nf_Dm hw.2.1, hS⟩)
theorem nf_clen (K : nf_K p s m args meth c own cc nL ret D a sz) (hw : nf_W D a s sz H locs M) {b : Bool} (hdg : decode cc pc = .ok (.arraylength, 1))
    (kk : W p l e R s m args below meth c H locs cells slots Q (F0 m (pc + 1) ls (.int (nI (nf_cap b)) :: rest))) : W p l e R s m args below meth c H locs cells slots Q (F0 m pc ls (.ref (a (nf_ro b + 1)) :: rest)) :=
  va_alen (D := D) (cl := nf_cl) (tys := nf_ty a) (ws := nf_cw a M) K.1 K.2.1 K.2.2.2.2.2.2.2.2.1 hw.1 (nf_ro b + 1) (nf_tC b) (nf_heC a M b) (nf_htC a b) rfl hdg kk
theorem nf_rlen (K : nf_K p s m args meth c own cc nL ret D a sz) (hw : nf_W D a s sz H locs M) (hdg : decode cc pc = .ok (.arraylength, 1))
    (kk : W p l e R s m args below meth c H locs cells slots Q (F0 m (pc + 1) ls (.int 8 :: rest))) : W p l e R s m args below meth c H locs cells slots Q (F0 m pc ls (.ref (a 1) :: rest)) :=
  va_alen (D := D) (cl := nf_cl) (tys := nf_ty a) (ws := nf_cw a M) K.1 K.2.1 K.2.2.2.2.2.2.2.2.1 hw.1 1 0 rfl rfl (show Int32.ofNat 8 = 8 from rfl) hdg kk
theorem nf_rald (K : nf_K p s m args meth c own cc nL ret D a sz) (hw : nf_W D a s sz H locs M) {i : Int32} (hin : vp_in i 8) (hdg : decode cc pc = .ok (.aaload, 1))
    (kk : W p l e R s m args below meth c H locs cells slots Q (F0 m (pc + 1) ls (.ref (a (10 + (nf_rg i).val)) :: rest))) : W p l e R s m args below meth c H locs cells slots Q (F0 m pc ls (.int i :: .ref (a 1) :: rest)) :=
  va_aldq (D := D) (cl := nf_cl) (tys := nf_ty a) (ws := nf_cw a M) K.1 K.2.1 K.2.2.2.2.2.2.2.2.1 hw.1 1 0 rfl rfl hin hdg (by rw [nf_rg_val hin] at kk; exact kk)
/-- static tables -/
theorem nf_gets (K : nf_K p s m args meth c own cc nL ret D a sz) (hw : nf_W D a s sz H locs M) {C n d : String} {v : Value} {index : Nat} (hZ : va_Z C n d v (nf_A a sz) s s.heap) (hl : Cond.fieldLink own index C n d ∈ nf_good) (hdg : decode cc pc = .ok (.getstatic index, 3))
    (kk : W p l e R s m args below meth c H locs cells slots Q (F0 m (pc + 3) ls (v :: rest))) : W p l e R s m args below meth c H locs cells slots Q (F0 m pc ls rest) := va_gets K.1 K.2.1 hZ hw.2.2 K.2.2.2.1 (nf_Kg K hl) (fun _ h => h) hdg kk
theorem nf_getsN (K : nf_K p s m args meth c own cc nL ret D a sz) (hw : nf_W D a s sz H locs M) {C n d host : String} {v : Value} {index : Nat} (hZ : va_Z C n d v (nf_A a sz) s s.heap) (hl : Cond.fieldLinkNest own index C n d host ∈ nf_rest) (hdg : decode cc pc = .ok (.getstatic index, 3))
    (kk : W p l e R s m args below meth c H locs cells slots Q (F0 m (pc + 3) ls (v :: rest))) : W p l e R s m args below meth c H locs cells slots Q (F0 m pc ls rest) := va_getsN K.1 K.2.1 hZ hw.2.2 K.2.2.2.1 ((nf_Kr K hl).use rfl) (fun _ h => h) hdg kk
theorem nf_st0 (K : nf_K p s m args meth c own cc nL ret D a sz) : nf_st a (nf_A a sz) s s.heap := K.2.2.2.2.2.2.2.2.2.1
theorem nf_ldcS (K : nf_K p s m args meth c own cc nL ret D a sz) {is : Nat} {tx : String} (i : Nat) (hstr : nf_strs[i]? = some (own, is, tx)) (hdg : decode cc pc = .ok (.ldc is, 2))
    (kk : W p l e R s m args below meth c H locs cells slots Q (F0 m (pc + 2) ls (.ref (a (100 + i)) :: rest))) : W p l e R s m args below meth c H locs cells slots Q (F0 m pc ls rest) := va_ldcS K.1 K.2.1 K.2.2.2.1 (K.2.2.2.2.2.2.2.2.2.2.2.1 i _ hstr) hdg kk
theorem nf_ldcwS (K : nf_K p s m args meth c own cc nL ret D a sz) {is : Nat} {tx : String} (i : Nat) (hstr : nf_strs[i]? = some (own, is, tx)) (hdg : decode cc pc = .ok (.ldc_w is, 3))
    (kk : W p l e R s m args below meth c H locs cells slots Q (F0 m (pc + 3) ls (.ref (a (100 + i)) :: rest))) : W p l e R s m args below meth c H locs cells slots Q (F0 m pc ls rest) := by
  have hZ := K.2.2.2.2.2.2.2.2.2.2.2.1 i _ hstr
  intro T hT X
  obtain ⟨t, a1, b1⟩ := kk T hT X
  refine ⟨t, ?_, b1⟩
  obtain ⟨k, cf, i', a', hk, hcf, hcp, -, hr, hev'⟩ := Cond.stringRef_spec K.2.2.2.1 hZ.1
  have hea : a' = a (100 + i) := by
    have h1 := hZ.2
    have h2 : (Term.string own is).eval #[] s none [] s = some (.ref a') := hev'
    rw [h2] at h1
    cases h1; rfl
  obtain ⟨k', hk', he⟩ := X.warmed.alike.2.2 _ _ hk
  have hr' : k'.resolved[is]? = some (some (.string a')) := by
    rcases X.warmed.entry hk hk' is with h | ⟨h, -⟩
    · rw [h]; exact hr
    · rw [hr] at h; cases h
  have hdg' : decode c.code (F0 m pc ls rest).pc = .ok (.ldc_w is, 3) := by rw [K.2.1]; exact hdg
  jvm_step X.here [K.1, hdg', ldc_w.wp_string (e := e) (s := T) (f := F0 m pc ls rest) X.here.top hk' (by rw [he]; exact hcf) hcp hr']
  rw [hea]
  exact a1
theorem nf_throwW {β : Type} {injm : (Nat → Nat) → β → Option Value} {postm : β → nf_M → Prop} {exm : Nat → nf_M → Prop} {cls tx : String} {icl ic is i : Nat} (k : Nat) (hfl : l.flags = flags0) (K : nf_K p s m args meth c own cc nL ret D a sz) (hw : nf_W D a s sz H locs M)
    (hexn : nf_exn[k]? = some cls) (hfit : Jvm.Bundle.fit cls = true) (hat : ∀ w ∈ Jvm.Bundle.ownAtoms own ic cls nf_chain, nf_inT w = true) (hcl : Cond.classLink own icl cls ∈ nf_good) (hins : Cond.instantiable cls 6 ∈ nf_good) (hini : Cond.initialized cls ∈ nf_good) (hstr : nf_strs[i]? = some (own, is, tx))
    (d0 : decode cc pc = .ok (.new icl, 3)) (d3 : decode cc (pc + 3) = .ok (.dup, 1)) (d4 : decode cc (pc + 4) = .ok (.ldc_w is, 3)) (d6 : decode cc (pc + 7) = .ok (.invokespecial ic, 3)) (d9 : decode cc (pc + 10) = .ok (.athrow, 1))
    (hls : ls.size = nL) (hR : 5 < R.frames ∧ 100 ≤ R.locals) (hf : cells + 1 ≤ R.cells ∧ slots + 6 ≤ R.slots) (h : exm k M) :
    W p l e R s m args below meth c H locs cells slots (nf_MQ below (nf_Q injm D a postm exm (nf_A a sz)) args s R.cells R.slots (nf_A a sz)) (F0 m pc ls []) := by
  refine W.newc (g := F0 m pc ls []) K.1 K.2.1 K.2.2.2.1 (nf_Kg K hcl) (nf_Kg K hins) (nf_Kg K hini) rfl d0 hf.1 hf.2 (fun cX kX hfX hkX hord hn6 => ?_)
  refine W.eq (g2 := F0 m (pc + 3) ls [.ref H.size]) rfl ?_
  refine lv_dup K.1 K.2.1 d3 rfl ?_
  refine nf_ldcwS K i hstr d4 ?_
  intro T hT X
  have hsz : s.heap.size ≤ H.size := hw.2.2.1
  have hHT : T.heap = H.push { cls := cX, slots := kX.instanceTypes.map defaultValue, vm := .none } := hT
  have hTsz : T.heap.size = H.size + 1 := by rw [hHT]; simp
  have hold : ∀ q, q < H.size → T.heap[q]? = H[q]? := fun q hq => by rw [hHT]; simp [Array.getElem?_push, Nat.ne_of_lt hq]
  have hcell : T.heap[H.size]? = some (freshCell cX kX) := by rw [hHT]; simp [freshCell]
  have hout : ∀ z ∈ c.exceptionTable.toList, covers z (pc + 7 + 3) = false := fun z hz => by
    have he : c.exceptionTable = #[] := by simpa [Array.isEmpty] using K.2.2.2.2.2.2.2.1
    rw [he] at hz; simp at hz
  obtain ⟨M0, hP0⟩ := K.2.2.2.2.2.2.2.2.2.2.2.2.1
  have hlocs : ∀ x ∈ locs, ∀ cell, s.heap[x.base]? = some cell → cell.vm.isStatics = false := fun x hx cell hc => by
    rcases hw.2.2.2.2 x hx with ⟨j, hj, ej⟩ | h2
    · rw [ej] at hc
      exact nf_plain hP0 hj hc
    · have := (Array.getElem?_eq_some_iff.mp hc).1
      have h3 : s.heap.size = sz := K.2.2.2.2.2.2.2.2.2.2.2.2.2
      exact absurd this (by rw [h3]; exact Nat.not_lt.mpr h2)
  obtain ⟨U, u1, u2, u3, u4, u5, u6, u7, ce, u8, u9, u10⟩ := nf_ctorThrow (g := F0 m (pc + 4 + 3) ls [.ref (a (100 + i)), .ref H.size, .ref H.size]) (rest := []) (stand_widen X hf.1 hf.2) K.1 (Launch.traces_off (by rw [hfl]; rfl) X.admits) K.2.2.2.1 hfit (fun w hw' => nf_Kall K (hat w hw')) hlocs hfX hkX hcell hsz (msg := .ref (a (100 + i))) rfl rfl (by rw [K.2.2.1]; exact hls) rfl rfl rfl (by rw [K.2.1]; exact d6) (by rw [K.2.1]; exact d9) hout hR.1
    (by show 2 * 0 + (1 + 0) + 81 ≤ R.locals; omega) K.2.2.2.2.2.2.1
  have hU : ∀ q, q < H.size → U.heap[q]? = H[q]? := fun q hq => by rw [u7 q (Nat.ne_of_lt hq)]; exact hold q hq
  refine ⟨U, u1, _, u2, u3, ⟨Or.inr ⟨k, H.size, M, rfl, h, ⟨cls, ce, hexn, u8, by rw [u4.alike.findClass, u9]; exact hfX, u10⟩, hw.1.kept (fun j q hj => ?_)⟩, ?_, fun q hq hn => ?_⟩, locs, ⟨u4, u5⟩, hw.2.2.2.2⟩
  · refine hU _ ?_
    have := hw.1 j q hj
    unfold va_at at this
    split at this
    · exact (Array.getElem?_eq_some_iff.mp this).1
    · obtain ⟨r, -, cell', q1, -⟩ := this
      exact (Array.getElem?_eq_some_iff.mp q1).1
  · omega
  · rw [hU q (by omega)]; exact hw.2.2.2.1 q hq hn
theorem nf_rcv (K : nf_K p s m args meth c own cc nL ret D a sz) (hw : nf_W D a s sz H locs M) (q0 ci : Nat) {q : vw_C} {b : Nat} {fs : List Value} (he : (nf_cw a M)[q0]? = some (b, .inr (ci, fs))) (hc : nf_cl[ci]? = some q) : ∃ cell : Cell, H[b]? = some cell ∧ cell.vm.isStatics = false ∧ s.vm.findClass q.1 = some cell.cls := va_recv (tys := nf_ty a) K.2.2.2.2.2.2.2.2.1 hw.1 hc he
theorem nf_rcvS (K : nf_K p s m args meth c own cc nL ret D a sz) (hw : nf_W D a s sz H locs M) (q : Fin 5) : ∃ cell : Cell, H[a (100 + q.val)]? = some cell ∧ cell.vm.isStatics = false ∧ s.vm.findClass "java/lang/String" = some cell.cls := vk_recv (adK := fun i => a (100 + i)) (i := q.val) (nf_st0 K).2.2.2.2.2.2.2.2.2.2.1 q.isLt hw.2.2
end NF5
theorem nf_inc {x c : Int32} {n : Int} (h : Int32.ofInt n = c) : x + Int32.ofInt n = x + c := by rw [h]
def nf_bool (x : Int32) : Prop := narrow .boolean (.int x) = .int x ∧ fits .boolean (.int x) = true
def nf_jN : (Nat → Nat) → Unit → Option Value := fun _ _ => none
def nf_jI : (Nat → Nat) → Int32 → Option Value := fun _ x => some (.int x)
def nf_jJ : (Nat → Nat) → Int64 → Option Value := fun _ x => some (.long x)
def nf_jD : (Nat → Nat) → UInt64 → Option Value := fun _ x => some (.double x)
def nf_jF : (Nat → Nat) → UInt32 → Option Value := fun _ x => some (.float x)
def nf_jV : (Nat → Nat) → Fin 9 → Option Value := fun a v => some (.ref (a (10 + v.val)))
def nf_ch (q k : Nat) : Int32 := (nf_ltx.getD q []).getD k 0
/-- a text's length() -/
def P_JS_length (q : Fin 5) (M : nf_M) (post : Int32 → nf_M → Prop) : Prop := post (nI (nf_lln.getD q.val 0)) M
/-- a text's charAt(i) -/
def P_JS_charAt (q : Fin 5) (x1 : Int32) (M : nf_M) (post : Int32 → nf_M → Prop) : Prop := vp_in x1 (nf_lln.getD q.val 0) ∧ post (nf_ch q.val x1.toNatClampNeg) M
