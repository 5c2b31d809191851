/-! the world: the system, the reference and the law's two arrays, as one list of cells over one state M -/
abbrev nf_M : Type := (Nat → Nat → Int32) × (Nat → Nat → Int64) × (Nat → Nat → UInt64) × (Fin 9 → Int32) × (Fin 9 → Int64) × (Fin 9 → Int32) × (Fin 9 → UInt64) × (Bool → Int32) × (Bool → Nat → Int32)
def nf_u2 {α : Type} (f : Nat → Nat → α) (o k : Nat) (v : α) : Nat → Nat → α := fun a => if a = o then (fun b => if b = k then v else f a b) else f a
def nf_u1 {α β : Type} [DecidableEq β] (f : β → α) (k : β) (v : α) : β → α := fun b => if b = k then v else f b
def mg_I (M : nf_M) : Nat → Nat → Int32 := M.1
def mg_L (M : nf_M) : Nat → Nat → Int64 := M.2.1
def mg_D (M : nf_M) : Nat → Nat → UInt64 := M.2.2.1
def mg_T (M : nf_M) : Fin 9 → Int32 := M.2.2.2.1
def mg_U (M : nf_M) : Fin 9 → Int64 := M.2.2.2.2.1
def mg_S (M : nf_M) : Fin 9 → Int32 := M.2.2.2.2.2.1
def mg_R (M : nf_M) : Fin 9 → UInt64 := M.2.2.2.2.2.2.1
def mg_N (M : nf_M) : Bool → Int32 := M.2.2.2.2.2.2.2.1
def mg_C (M : nf_M) : Bool → Nat → Int32 := M.2.2.2.2.2.2.2.2
def ms_I (M : nf_M) (o k : Nat) (v : Int32) : nf_M := (nf_u2 M.1 o k v, M.2)
def ms_L (M : nf_M) (o k : Nat) (v : Int64) : nf_M := (M.1, nf_u2 M.2.1 o k v, M.2.2)
def ms_D (M : nf_M) (o k : Nat) (v : UInt64) : nf_M := (M.1, M.2.1, nf_u2 M.2.2.1 o k v, M.2.2.2)
def ms_T (M : nf_M) (k : Fin 9) (v : Int32) : nf_M := (M.1, M.2.1, M.2.2.1, nf_u1 M.2.2.2.1 k v, M.2.2.2.2)
def ms_U (M : nf_M) (k : Fin 9) (v : Int64) : nf_M := (M.1, M.2.1, M.2.2.1, M.2.2.2.1, nf_u1 M.2.2.2.2.1 k v, M.2.2.2.2.2)
def ms_S (M : nf_M) (k : Fin 9) (v : Int32) : nf_M := (M.1, M.2.1, M.2.2.1, M.2.2.2.1, M.2.2.2.2.1, nf_u1 M.2.2.2.2.2.1 k v, M.2.2.2.2.2.2)
def ms_R (M : nf_M) (k : Fin 9) (v : UInt64) : nf_M := (M.1, M.2.1, M.2.2.1, M.2.2.2.1, M.2.2.2.2.1, M.2.2.2.2.2.1, nf_u1 M.2.2.2.2.2.2.1 k v, M.2.2.2.2.2.2.2)
def ms_N (M : nf_M) (k : Bool) (v : Int32) : nf_M := (M.1, M.2.1, M.2.2.1, M.2.2.2.1, M.2.2.2.2.1, M.2.2.2.2.2.1, M.2.2.2.2.2.2.1, nf_u1 M.2.2.2.2.2.2.2.1 k v, M.2.2.2.2.2.2.2.2)
def ms_C (M : nf_M) (k : Bool) (i : Nat) (v : Int32) : nf_M := (M.1, M.2.1, M.2.2.1, M.2.2.2.1, M.2.2.2.2.1, M.2.2.2.2.2.1, M.2.2.2.2.2.2.1, M.2.2.2.2.2.2.2.1, fun b => if b = k then upd (M.2.2.2.2.2.2.2.2 b) i v else M.2.2.2.2.2.2.2.2 b)
def nf_ro (b : Bool) : Nat := cond b 4 2
def nf_cap (b : Bool) : Nat := cond b 128 40
abbrev nf_cl : List vw_C := [(nr_D, nt_D, 2), (nr_N, nt_N, 7), (nr_P, nt_P, 8), (nr_R, nt_R, 2), (nr_V, nt_V, 4), (nr_W, nt_W, 2), (nr_F, nt_F, 8), (nr_M, nt_M, 19)]
def nf_ty (a : Nat → Nat) : List (ClassId × FieldType) := [(a 51, .object "NumberForge$Value"), (a 53, .char), (a 55, .char), (a 70, .int), (a 71, .int), (a 72, .int), (a 73, .long), (a 74, .int), (a 75, .double), (a 76, .int), (a 77, .long), (a 78, .double)]
def nf_cV (a : Nat → Nat) (M : nf_M) (v : Fin 9) : Nat × va_E := (a (10 + v.val), .inr (4, [.int (mg_T M v), .long (mg_U M v), .int (mg_S M v), .double (mg_R M v)]))
def nf_cR (a : Nat → Nat) (M : nf_M) (b : Bool) : Nat × va_E := (a (nf_ro b), .inr (3, [.ref (a (nf_ro b + 1)), .int (mg_N M b)]))
def nf_cC (a : Nat → Nat) (M : nf_M) (b : Bool) : Nat × va_E := (a (nf_ro b + 1), .inl (a (51 + nf_ro b), nf_cap b, .inl (mg_C M b)))
def nf_cw (a : Nat → Nat) (M : nf_M) : va_W := [
  (a 0, .inr (6, [.ref (a 1), .ref (a 10), .ref (a 2), .ref (a 4), .ref (a 6), .ref (a 7), .ref (a 8), .ref (a 9)])),
  (a 1, .inl (a 51, 8, .inr (.inr (.inr (.inr (fun i => some (a (11 + i)))))))),
  nf_cR a M false, nf_cC a M false, nf_cR a M true, nf_cC a M true,
  (a 6, .inr (1, [.int (mg_I M 6 0), .int (mg_I M 6 1), .int (mg_I M 6 2), .int (mg_I M 6 3), .long (mg_L M 6 4), .int (mg_I M 6 5), .int (mg_I M 6 6)])),
  (a 7, .inr (2, [.int (mg_I M 7 0), .int (mg_I M 7 1), .int (mg_I M 7 2), .int (mg_I M 7 3), .int (mg_I M 7 4), .int (mg_I M 7 5), .int (mg_I M 7 6), .int (mg_I M 7 7)])),
  (a 8, .inr (0, [.long (mg_L M 8 0), .int (mg_I M 8 1)])),
  (a 9, .inr (5, [.long (mg_L M 9 0), .long (mg_L M 9 1)])),
  nf_cV a M 0, nf_cV a M 1, nf_cV a M 2, nf_cV a M 3, nf_cV a M 4, nf_cV a M 5, nf_cV a M 6, nf_cV a M 7, nf_cV a M 8,
  (a 19, .inr (7, [.int (mg_I M 19 0), .int (mg_I M 19 1), .ref (a 20), .int (mg_I M 19 3), .ref (a 21), .ref (a 22), .ref (a 23), .ref (a 24), .ref (a 25), .int (mg_I M 19 9), .long (mg_L M 19 10), .int (mg_I M 19 11), .double (mg_D M 19 12), .int (mg_I M 19 13), .ref (a 26), .int (mg_I M 19 15), .int (mg_I M 19 16), .int (mg_I M 19 17), .int (mg_I M 19 18)])),
  (a 20, .inl (a 70, 40, .inl (mg_I M 20))), (a 21, .inl (a 71, 400, .inl (mg_I M 21))), (a 22, .inl (a 72, 8, .inl (mg_I M 22))),
  (a 23, .inl (a 73, 8, .inr (.inl (mg_L M 23)))), (a 24, .inl (a 74, 8, .inl (mg_I M 24))), (a 25, .inl (a 75, 8, .inr (.inr (.inr (.inl (mg_D M 25)))))),
  (a 26, .inl (a 76, 80, .inl (mg_I M 26))), (a 27, .inl (a 77, 1, .inr (.inl (mg_L M 27)))), (a 28, .inl (a 78, 1, .inr (.inr (.inr (.inl (mg_D M 28))))))]
theorem nf_ad (a : Nat → Nat) (M M' : nf_M) : (nf_cw a M).map (·.1) = (nf_cw a M').map (·.1) := rfl
theorem nf_Dm {A : Nat → Prop} {a : Nat → Nat} {M M' : nf_M} (h : va_D A (nf_cw a M)) : va_D A (nf_cw a M') := by
  have e := nf_ad a M M'
  have key : ∀ (k : Nat) (q : Nat × va_E), (nf_cw a M')[k]? = some q → ∃ q', (nf_cw a M)[k]? = some q' ∧ q'.1 = q.1 := fun k q hk => by
    have h1 : ((nf_cw a M').map (·.1))[k]? = some q.1 := by rw [List.getElem?_map, hk]; rfl
    rw [← e, List.getElem?_map] at h1
    cases h2 : (nf_cw a M)[k]? with
    | none => rw [h2] at h1; cases h1
    | some q' => rw [h2] at h1; exact ⟨q', rfl, Option.some.inj h1⟩
  refine ⟨fun i j p q hi hj hpq => ?_, fun k q hk => ?_⟩
  · obtain ⟨p', h1, e1⟩ := key i p hi
    obtain ⟨q', h2, e2⟩ := key j q hj
    exact h.1 i j p' q' h1 h2 (e1.trans (hpq.trans e2.symm))
  · obtain ⟨q', h1, e1⟩ := key k q hk
    rw [← e1]; exact h.2 k q' h1
/-- what a method may write: the world's cells and what it makes -/
def nf_A (a : Nat → Nat) (sz : Nat) : Nat → Prop := fun q => (∃ k, k < 29 ∧ q = a k) ∨ sz ≤ q
theorem nf_A_in {a : Nat → Nat} {M : nf_M} {sz k : Nat} {q : Nat × va_E} (h : (nf_cw a M)[k]? = some q) : nf_A a sz q.1 := by
  have hk : k < 29 := (List.getElem?_eq_some_iff.mp h).1
  refine Or.inl ⟨k, hk, ?_⟩
  have : ((nf_cw a M).map (·.1))[k]? = some q.1 := by rw [List.getElem?_map, h]; rfl
  have h2 : ∀ j, j < 29 → ((nf_cw a M).map (·.1))[j]? = some (a j) := fun j hj => by
    rcases (show j = 0 ∨ j = 1 ∨ j = 2 ∨ j = 3 ∨ j = 4 ∨ j = 5 ∨ j = 6 ∨ j = 7 ∨ j = 8 ∨ j = 9 ∨ j = 10 ∨ j = 11 ∨ j = 12 ∨ j = 13 ∨ j = 14 ∨ j = 15 ∨ j = 16 ∨ j = 17 ∨ j = 18 ∨ j = 19 ∨ j = 20 ∨ j = 21 ∨ j = 22 ∨ j = 23 ∨ j = 24 ∨ j = 25 ∨ j = 26 ∨ j = 27 ∨ j = 28 by omega) with rfl | rfl | rfl | rfl | rfl | rfl | rfl | rfl | rfl | rfl | rfl | rfl | rfl | rfl | rfl | rfl | rfl | rfl | rfl | rfl | rfl | rfl | rfl | rfl | rfl | rfl | rfl | rfl | rfl <;> rfl
  rw [h2 k hk] at this
  exact (Option.some.inj this).symm
/-! what does not change: static tables, texts -/
def nf_POW : List Int64 := [1, 10, 100, 1000, 10000, 100000, 1000000, 10000000, 100000000, 1000000000, 10000000000, 100000000000, 1000000000000, 10000000000000, 100000000000000, 1000000000000000]
def nf_LOW : List Int64 := [-999999999999999, -999999999999999, -2147483648, -32768, -128, 0, 0, 1]
def nf_HIGH : List Int64 := [999999999999999, 999999999999999, 2147483647, 32767, 127, 255, 999999999999999, 999999999999999]
def nf_ROM : List Int32 := [1000, 900, 500, 400, 100, 90, 50, 40, 10, 9, 5, 4, 1]
def nf_ltx : List (List Int32) := [[45, 48], [48], [45, 73, 78, 70], [73, 78, 70], [109, 32, 99, 109, 100, 32, 99, 100, 99, 32, 120, 99, 108, 32, 120, 108, 120, 32, 105, 120, 118, 32, 105, 118, 105, 32]]
def nf_lln : List Nat := [2, 1, 4, 3, 26]
abbrev tN_n : String := "java/lang/Throwable"
/-- a static of references, as the throwing of an exception reads it -/
def nf_LS (C n d : String) (A : Nat → Prop) (U : State) (H : Heap) : Prop := ∃ (c i x : Nat) (k : Class) (f : Field) (cell : Cell) (u : RefV), U.vm.findClass C = some c ∧ U.fieldFound? C n d = some (c, k, i, f) ∧ f.isStatic = true ∧ k.statics = some x ∧ H[x]? = some cell ∧ cell.vm.isStatics = true ∧ cell.cls = c ∧ f.slot < cell.slots.size ∧ k.staticTypes[f.slot]? = some f.type ∧ cell.slots[f.slot]? = some u.v ∧ ¬ A x
theorem nf_LS.moved {C n d : String} {A : Nat → Prop} {u U : State} {H : Heap} (hvm : u.vm.Alike U.vm) (h : nf_LS C n d A u H) : nf_LS C n d A U H := by
  obtain ⟨c, i, x, k, f, cell, r, h0, h1, h2, h3, h4, h5, h6, h7, h8, h9, h10⟩ := h
  obtain ⟨k', hi', he⟩ := State.fieldFound?_setVm hvm h1
  exact ⟨c, i, x, k', f, cell, r, by rw [hvm.findClass]; exact h0, hi', h2, by rw [he]; exact h3, h4, h5, h6, h7, by rw [he]; exact h8, h9, h10⟩
theorem nf_LS.kept {C n d : String} {A : Nat → Prop} {U : State} {H H1 : Heap} (h : nf_LS C n d A U H) (hq : ∀ a : Nat, a < H.size → ¬ A a → H1[a]? = H[a]?) : nf_LS C n d A U H1 := by
  obtain ⟨c, i, x, k, f, cell, r, h0, h1, h2, h3, h4, h5, h6, h7, h8, h9, h10⟩ := h
  exact ⟨c, i, x, k, f, cell, r, h0, h1, h2, h3, by rw [hq x (Array.getElem?_eq_some_iff.mp h4).1 h10]; exact h4, h5, h6, h7, h8, h9, h10⟩
theorem nf_LS.narrow {C n d : String} {A B : Nat → Prop} {U : State} {H : Heap} (h : nf_LS C n d A U H) (hAB : ∀ q, B q → A q) : nf_LS C n d B U H := by
  obtain ⟨c, i, x, k, f, cell, r, h0, h1, h2, h3, h4, h5, h6, h7, h8, h9, h10⟩ := h
  exact ⟨c, i, x, k, f, cell, r, h0, h1, h2, h3, h4, h5, h6, h7, h8, h9, fun z => h10 (hAB x z)⟩
def nf_st (a : Nat → Nat) (A : Nat → Prop) (U : State) (H : Heap) : Prop :=
  va_Z "NumberForge" "POWERS" "[J" (.ref (a 40)) A U H ∧ va_T .long (a 40) 16 (fun j => .long (nf_POW.getD j 0)) A U H ∧
  va_Z "NumberForge" "LOWEST" "[J" (.ref (a 41)) A U H ∧ va_T .long (a 41) 8 (fun j => .long (nf_LOW.getD j 0)) A U H ∧
  va_Z "NumberForge" "HIGHEST" "[J" (.ref (a 42)) A U H ∧ va_T .long (a 42) 8 (fun j => .long (nf_HIGH.getD j 0)) A U H ∧
  va_Z "NumberForge" "ROMAN_VALUES" "[I" (.ref (a 43)) A U H ∧ va_T .int (a 43) 13 (fun j => .int (nf_ROM.getD j 0)) A U H ∧
  nf_LS tN_n "UNASSIGNED_STACK" "[Ljava/lang/StackTraceElement;" A U H ∧ nf_LS tN_n "SUPPRESSED_SENTINEL" "Ljava/util/List;" A U H ∧
  vk_S 5 nf_lln nf_ltx (fun i => a (100 + i)) (fun i => a (130 + i)) A U H ∧ va_Z "java/lang/String" "COMPACT_STRINGS" "Z" (.int 1) A U H ∧ va_Zq "jdk/internal/util/Preconditions" "SIOOBE_FORMATTER" "Ljava/util/function/BiFunction;" A U H
theorem nf_st_moved {a : Nat → Nat} {A : Nat → Prop} {u U : State} {H : Heap} (hvm : u.vm.Alike U.vm) (h : nf_st a A u H) : nf_st a A U H := by
  obtain ⟨h1, h2, h3, h4, h5, h6, h7, h8, h9, h10, h11, h12, h13⟩ := h
  exact ⟨h1.moved hvm, h2.moved hvm, h3.moved hvm, h4.moved hvm, h5.moved hvm, h6.moved hvm, h7.moved hvm, h8.moved hvm, h9.moved hvm, h10.moved hvm, h11.moved hvm, h12.moved hvm, h13.moved hvm⟩
theorem nf_st_kept {a : Nat → Nat} {A : Nat → Prop} {U : State} {H H1 : Heap} (h : nf_st a A U H) (hq : ∀ b : Nat, b < H.size → ¬ A b → H1[b]? = H[b]?) : nf_st a A U H1 := by
  obtain ⟨h1, h2, h3, h4, h5, h6, h7, h8, h9, h10, h11, h12, h13⟩ := h
  exact ⟨h1.kept hq, h2.kept hq, h3.kept hq, h4.kept hq, h5.kept hq, h6.kept hq, h7.kept hq, h8.kept hq, h9.kept hq, h10.kept hq, h11.kept hq, h12.kept hq, h13.kept hq⟩
theorem nf_st_narrow {a : Nat → Nat} {A B : Nat → Prop} {U : State} {H : Heap} (h : nf_st a A U H) (hAB : ∀ q, B q → A q) : nf_st a B U H := by
  obtain ⟨h1, h2, h3, h4, h5, h6, h7, h8, h9, h10, h11, h12, h13⟩ := h
  exact ⟨h1.narrow hAB, h2.narrow hAB, h3.narrow hAB, h4.narrow hAB, h5.narrow hAB, h6.narrow hAB, h7.narrow hAB, h8.narrow hAB, h9.narrow hAB, h10.narrow hAB, h11.narrow hAB, h12.narrow hAB, h13.narrow hAB⟩
