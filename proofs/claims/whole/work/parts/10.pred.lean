/-! what each method asks of what it shall answer (printed by wip/whole/gen/drive.py out of the bytecode) -/
/-- java/lang/Math.max(II)I -/
def B_JM_max_10 (post : Int32 → nf_M → Prop) (xy0 : Int32) (M : nf_M) : Prop :=
 post xy0 M
def P_JM_max (x0 : Int32) (x1 : Int32) (M : nf_M) (post : Int32 → nf_M → Prop) : Prop :=
 (x0 < x1 → B_JM_max_10 post x1 M) ∧
    (¬ x0 < x1 → B_JM_max_10 post x0 M)
/-- NumberForge$Row.add(C)V -/
def B_R_add_39 (post : Unit → nf_M → Prop) (M : nf_M) : Prop :=
 post () M
def P_R_add (b0 : Bool) (x1 : Int32) (M : nf_M) (post : Unit → nf_M → Prop) : Prop :=
 ((mg_N M b0) < 0 → B_R_add_39 post  M) ∧
    (¬ (mg_N M b0) < 0 → ((mg_N M b0) < (nI (nf_cap b0)) → (vp_in (mg_N M b0) (nf_cap b0)) ∧
    (∀ M2 : nf_M, M2 = ms_C M b0 (mg_N M b0).toNatClampNeg (vp_nar .char x1) → (∀ t3 : Int32, t3 = (mg_N M2 b0) + (1 : Int32) → (∀ M4 : nf_M, M4 = ms_N M2 b0 t3 → (B_R_add_39 post  M4))))) ∧
    (¬ (mg_N M b0) < (nI (nf_cap b0)) → B_R_add_39 post  M))
/-- NumberForge.type(J)Z -/
def B_F_type_41 (post : Int32 → nf_M → Prop) (M : nf_M) : Prop :=
 post (0 : Int32) M
def B_F_type_54 (k6 : Int64 → Int32 → Int32 → nf_M → Prop) (post : Int32 → nf_M → Prop) (x1 : Int64) (x4 : Int32) (xy0 : Int32) (xy1 : Int32) (M : nf_M) : Prop :=
 ∀ t1 : Int32, t1 = xy1 + xy0 → (k6 x1 t1 (x4 + (-8 : Int32)) M)
def B_F_type_43 (k6 : Int64 → Int32 → Int32 → nf_M → Prop) (post : Int32 → nf_M → Prop) (x1 : Int64) (x3 : Int32) (x4 : Int32) (x5 : Int32) (M : nf_M) : Prop :=
 (x5 = 0 → B_F_type_54 k6 post x1 x4 (0 : Int32) x3 M) ∧
    (¬ x5 = 0 → B_F_type_54 k6 post x1 x4 (1 : Int32) x3 M)
def B_F_type_113 (k82 : Int64 → Int32 → nf_M → Prop) (post : Int32 → nf_M → Prop) (x1 : Int64) (x4 : Int32) (M : nf_M) : Prop :=
 k82 x1 (x4 + (-8 : Int32)) M
def B_F_type_82 (post : Int32 → nf_M → Prop) : Nat → Int64 → Int32 → nf_M → Prop
  | 0, _, _, _ => False
  | n + 1, x1, x4, M =>
    (x4 < 0 → post (1 : Int32) M) ∧
    (¬ x4 < 0 → ∀ t1 : Int32, t1 = (((x1.toUInt64 >>> (x4.toInt64.toUInt64 &&& Int64.toUInt64 63)).toInt64).toInt32) &&& (255 : Int32) → ((t1 = 0 → B_F_type_113 (fun x1 x4 z => B_F_type_82 post n x1 x4 z) post x1 x4 M) ∧
    (¬ t1 = 0 → P_R_add false ((t1.toUInt32 % 65536).toInt32) M (fun _ M3 =>
    B_F_type_113 (fun x1 x4 z => B_F_type_82 post n x1 x4 z) post x1 x4 M3))))
def B_F_type_6 (post : Int32 → nf_M → Prop) : Nat → Int64 → Int32 → Int32 → nf_M → Prop
  | 0, _, _, _, _ => False
  | n + 1, x1, x3, x4, M =>
    (x4 < 0 → ((40 : Int32) < ((mg_N M false) + x3) → post (0 : Int32) M) ∧
    (¬ (40 : Int32) < ((mg_N M false) + x3) → ∃ n9 : Nat, B_F_type_82 post n9 x1 (56 : Int32) M)) ∧
    (¬ x4 < 0 → ∀ t1 : Int32, t1 = (((x1.toUInt64 >>> (x4.toInt64.toUInt64 &&& Int64.toUInt64 63)).toInt64).toInt32) &&& (255 : Int32) → ((t1 = 0 → B_F_type_43 (fun x1 x3 x4 z => B_F_type_6 post n x1 x3 x4 z) post x1 x3 x4 t1 M) ∧
    (¬ t1 = 0 → (t1 < (32 : Int32) → B_F_type_41 post  M) ∧
    (¬ t1 < (32 : Int32) → ((126 : Int32) < t1 → B_F_type_41 post  M) ∧
    (¬ (126 : Int32) < t1 → B_F_type_43 (fun x1 x3 x4 z => B_F_type_6 post n x1 x3 x4 z) post x1 x3 x4 t1 M)))))
def P_F_type (x1 : Int64) (M : nf_M) (post : Int32 → nf_M → Prop) : Prop :=
 ∃ n9 : Nat, B_F_type_6 post n9 x1 (0 : Int32) (56 : Int32) M
/-- NumberForge$Row.clear()V -/
def P_R_clear (b0 : Bool) (M : nf_M) (post : Unit → nf_M → Prop) : Prop :=
 ∀ M1 : nf_M, M1 = ms_N M b0 (0 : Int32) → (post () M1)
/-- NumberForge.wipe()V -/
def P_F_wipe (M : nf_M) (post : Unit → nf_M → Prop) : Prop :=
 P_R_clear false M (fun _ M2 =>
    post () M2)
/-- NumberForge.isRegister(I)Z -/
def B_F_isRegister_18 (post : Int32 → nf_M → Prop) (xy0 : Int32) (M : nf_M) : Prop :=
 (narrow .boolean (.int xy0) = .int xy0) ∧ post xy0 M
def B_F_isRegister_17 (post : Int32 → nf_M → Prop) (M : nf_M) : Prop :=
 B_F_isRegister_18 post (0 : Int32) M
def P_F_isRegister (x1 : Int32) (M : nf_M) (post : Int32 → nf_M → Prop) : Prop :=
 (x1 < 0 → B_F_isRegister_17 post  M) ∧
    (¬ x1 < 0 → (x1 < (8 : Int32) → B_F_isRegister_18 post (1 : Int32) M) ∧
    (¬ x1 < (8 : Int32) → B_F_isRegister_17 post  M))
/-- NumberForge.kind(I)I -/
def B_F_kind_21 (post : Int32 → nf_M → Prop) (xy0 : Int32) (M : nf_M) : Prop :=
 post xy0 M
def P_F_kind (x1 : Int32) (M : nf_M) (post : Int32 → nf_M → Prop) : Prop :=
 P_F_isRegister x1 M (fun r1 M2 =>
    (r1 = 0 → B_F_kind_21 post (-1 : Int32) M2) ∧
    (¬ r1 = 0 → (vp_in x1 8) ∧
    (B_F_kind_21 post (mg_T M2 (nf_rg x1)) M2)))
/-- NumberForge$Value.holdsUnits()Z -/
def B_V_holdsUnits_21 (post : Int32 → nf_M → Prop) (xy0 : Int32) (M : nf_M) : Prop :=
 (narrow .boolean (.int xy0) = .int xy0) ∧ post xy0 M
def B_V_holdsUnits_20 (post : Int32 → nf_M → Prop) (M : nf_M) : Prop :=
 B_V_holdsUnits_21 post (0 : Int32) M
def P_V_holdsUnits (v0 : Fin 9) (M : nf_M) (post : Int32 → nf_M → Prop) : Prop :=
 ((mg_T M v0) < 0 → B_V_holdsUnits_20 post  M) ∧
    (¬ (mg_T M v0) < 0 → ((mg_T M v0) < (8 : Int32) → B_V_holdsUnits_21 post (1 : Int32) M) ∧
    (¬ (mg_T M v0) < (8 : Int32) → B_V_holdsUnits_20 post  M))
/-- NumberForge.exact(II)J -/
def B_F_exact_20 (post : Int64 → nf_M → Prop) (M : nf_M) : Prop :=
 post (0 : Int64) M
def B_F_exact_57 (post : Int64 → nf_M → Prop) (xy0 : Int64) (M : nf_M) : Prop :=
 post xy0 M
def P_F_exact (x1 : Int32) (x2 : Int32) (M : nf_M) (post : Int64 → nf_M → Prop) : Prop :=
 P_F_isRegister x1 M (fun r1 M2 =>
    (r1 = 0 → B_F_exact_20 post  M2) ∧
    (¬ r1 = 0 → (vp_in x1 8) ∧
    (P_V_holdsUnits (nf_rg x1) M2 (fun r4 M5 =>
    (r4 = 0 → B_F_exact_20 post  M5) ∧
    (¬ r4 = 0 → (x2 = 0 → (vp_in x1 8) ∧
    (B_F_exact_57 post (mg_U M5 (nf_rg x1)) M5)) ∧
    (¬ x2 = 0 → (x2 = (1 : Int32) → (vp_in x1 8) ∧
    (B_F_exact_57 post ((mg_S M5 (nf_rg x1)).toInt64) M5)) ∧
    (¬ x2 = (1 : Int32) → B_F_exact_57 post (0 : Int64) M5)))))))
/-- NumberForge$Row.at(I)C -/
def B_R_at_31 (post : Int32 → nf_M → Prop) (xy0 : Int32) (M : nf_M) : Prop :=
 (narrow .char (.int xy0) = .int xy0) ∧ post xy0 M
def B_R_at_30 (post : Int32 → nf_M → Prop) (M : nf_M) : Prop :=
 B_R_at_31 post (0 : Int32) M
def P_R_at (b0 : Bool) (x1 : Int32) (M : nf_M) (post : Int32 → nf_M → Prop) : Prop :=
 (x1 < 0 → B_R_at_30 post  M) ∧
    (¬ x1 < 0 → (x1 < (mg_N M b0) → (x1 < (nI (nf_cap b0)) → (vp_in x1 (nf_cap b0)) ∧
    (B_R_at_31 post (mg_C M b0 x1.toNatClampNeg) M)) ∧
    (¬ x1 < (nI (nf_cap b0)) → B_R_at_30 post  M)) ∧
    (¬ x1 < (mg_N M b0) → B_R_at_30 post  M))
/-- NumberForge.output(I)I -/
def B_F_output_40 (post : Int32 → nf_M → Prop) (xy0 : Int32) (M : nf_M) : Prop :=
 post xy0 M
def B_F_output_39 (post : Int32 → nf_M → Prop) (M : nf_M) : Prop :=
 B_F_output_40 post (-1 : Int32) M
def P_F_output (x1 : Int32) (M : nf_M) (post : Int32 → nf_M → Prop) : Prop :=
 (x1 = (-1 : Int32) → post (mg_N M true) M) ∧
    (¬ x1 = (-1 : Int32) → (x1 < 0 → B_F_output_39 post  M) ∧
    (¬ x1 < 0 → (x1 < (mg_N M true) → P_R_at true x1 M (fun r1 M2 =>
    B_F_output_40 post r1 M2)) ∧
    (¬ x1 < (mg_N M true) → B_F_output_39 post  M)))
/-- NumberForge.register(I)LNumberForge$Value; -/
def B_F_register_13 (post : Fin 9 → nf_M → Prop) (ex : Nat → nf_M → Prop) (M : nf_M) : Prop :=
 ex 0 M
def P_F_register (x1 : Int32) (M : nf_M) (post : Fin 9 → nf_M → Prop) (ex : Nat → nf_M → Prop) : Prop :=
 (x1 < 0 → B_F_register_13 post ex  M) ∧
    (¬ x1 < 0 → (x1 < (8 : Int32) → (vp_in x1 8) ∧
    (post (nf_rg x1) M)) ∧
    (¬ x1 < (8 : Int32) → B_F_register_13 post ex  M))
/-- NumberForge.checkIndex(II)V -/
def B_F_checkIndex_9 (post : Unit → nf_M → Prop) (ex : Nat → nf_M → Prop) (M : nf_M) : Prop :=
 ex 0 M
def P_F_checkIndex (x0 : Int32) (x1 : Int32) (M : nf_M) (post : Unit → nf_M → Prop) (ex : Nat → nf_M → Prop) : Prop :=
 (x0 < 0 → B_F_checkIndex_9 post ex  M) ∧
    (¬ x0 < 0 → (x0 < x1 → post () M) ∧
    (¬ x0 < x1 → B_F_checkIndex_9 post ex  M))
/-- NumberForge$Numeral.passBlanks(LNumberForge$Row;)V -/
def B_N_passBlanks_89 (post : Unit → nf_M → Prop) (M : nf_M) : Prop :=
 post () M
def B_N_passBlanks_50 (post : Unit → nf_M → Prop) : Nat → Bool → nf_M → Prop
  | 0, _, _ => False
  | n + 1, b1, M =>
    ((mg_I M 6 0) < (mg_I M 6 1) → P_R_at b1 ((mg_I M 6 1) - (1 : Int32)) M (fun r1 M2 =>
    (r1 = (32 : Int32) → ∀ t3 : Int32, t3 = (mg_I M2 6 1) - (1 : Int32) → (∀ M4 : nf_M, M4 = ms_I M2 6 1 t3 → (B_N_passBlanks_50 post n b1 M4))) ∧
    (¬ r1 = (32 : Int32) → B_N_passBlanks_89 post  M2))) ∧
    (¬ (mg_I M 6 0) < (mg_I M 6 1) → B_N_passBlanks_89 post  M)
def B_N_passBlanks_13 (post : Unit → nf_M → Prop) : Nat → Bool → nf_M → Prop
  | 0, _, _ => False
  | n + 1, b1, M =>
    ((mg_I M 6 0) < (mg_I M 6 1) → P_R_at b1 (mg_I M 6 0) M (fun r1 M2 =>
    (r1 = (32 : Int32) → ∀ t3 : Int32, t3 = (mg_I M2 6 0) + (1 : Int32) → (∀ M4 : nf_M, M4 = ms_I M2 6 0 t3 → (B_N_passBlanks_13 post n b1 M4))) ∧
    (¬ r1 = (32 : Int32) → ∃ n9 : Nat, B_N_passBlanks_50 post n9 b1 M2))) ∧
    (¬ (mg_I M 6 0) < (mg_I M 6 1) → ∃ n9 : Nat, B_N_passBlanks_50 post n9 b1 M)
def P_N_passBlanks (b1 : Bool) (M : nf_M) (post : Unit → nf_M → Prop) : Prop :=
 ∀ M1 : nf_M, M1 = ms_I M 6 0 (0 : Int32) → (∀ t2 : Int32, t2 = mg_N M1 b1 → (∀ M3 : nf_M, M3 = ms_I M1 6 1 t2 → (∃ n9 : Nat, B_N_passBlanks_13 post n9 b1 M3)))
/-- NumberForge$Numeral.passSign(LNumberForge$Row;)V -/
def B_N_passSign_47 (post : Unit → nf_M → Prop) (M : nf_M) : Prop :=
 post () M
def B_N_passSign_37 (post : Unit → nf_M → Prop) (M : nf_M) : Prop :=
 ∀ t1 : Int32, t1 = (mg_I M 6 0) + (1 : Int32) → (∀ M2 : nf_M, M2 = ms_I M 6 0 t1 → (B_N_passSign_47 post  M2))
def P_N_passSign (b1 : Bool) (M : nf_M) (post : Unit → nf_M → Prop) : Prop :=
 ((mg_I M 6 0) < (mg_I M 6 1) → P_R_at b1 (mg_I M 6 0) M (fun r1 M2 =>
    (r1 = (45 : Int32) → B_N_passSign_37 post  M2) ∧
    (¬ r1 = (45 : Int32) → P_R_at b1 (mg_I M2 6 0) M2 (fun r3 M4 =>
    (r3 = (43 : Int32) → B_N_passSign_37 post  M4) ∧
    (¬ r3 = (43 : Int32) → B_N_passSign_47 post  M4))))) ∧
    (¬ (mg_I M 6 0) < (mg_I M 6 1) → B_N_passSign_47 post  M)
/-- NumberForge$Numeral.isInfinityWord(LNumberForge$Row;)Z -/
def B_N_isInfinityWord_61 (post : Int32 → nf_M → Prop) (xy0 : Int32) (M : nf_M) : Prop :=
 (narrow .boolean (.int xy0) = .int xy0) ∧ post xy0 M
def B_N_isInfinityWord_60 (post : Int32 → nf_M → Prop) (M : nf_M) : Prop :=
 B_N_isInfinityWord_61 post (0 : Int32) M
def P_N_isInfinityWord (b1 : Bool) (M : nf_M) (post : Int32 → nf_M → Prop) : Prop :=
 (((mg_I M 6 1) - (mg_I M 6 0)) = (3 : Int32) → P_R_at b1 (mg_I M 6 0) M (fun r1 M2 =>
    (r1 = (73 : Int32) → P_R_at b1 ((mg_I M2 6 0) + (1 : Int32)) M2 (fun r3 M4 =>
    (r3 = (78 : Int32) → P_R_at b1 ((mg_I M4 6 0) + (2 : Int32)) M4 (fun r5 M6 =>
    (r5 = (70 : Int32) → B_N_isInfinityWord_61 post (1 : Int32) M6) ∧
    (¬ r5 = (70 : Int32) → B_N_isInfinityWord_60 post  M6))) ∧
    (¬ r3 = (78 : Int32) → B_N_isInfinityWord_60 post  M4))) ∧
    (¬ r1 = (73 : Int32) → B_N_isInfinityWord_60 post  M2))) ∧
    (¬ ((mg_I M 6 1) - (mg_I M 6 0)) = (3 : Int32) → B_N_isInfinityWord_60 post  M)
/-- NumberForge$Row.hasDigitAt(I)Z -/
def B_R_hasDigitAt_25 (post : Int32 → nf_M → Prop) (xy0 : Int32) (M : nf_M) : Prop :=
 (narrow .boolean (.int xy0) = .int xy0) ∧ post xy0 M
def B_R_hasDigitAt_24 (post : Int32 → nf_M → Prop) (M : nf_M) : Prop :=
 B_R_hasDigitAt_25 post (0 : Int32) M
def P_R_hasDigitAt (b0 : Bool) (x1 : Int32) (M : nf_M) (post : Int32 → nf_M → Prop) : Prop :=
 P_R_at b0 x1 M (fun r1 M2 =>
    (r1 < (48 : Int32) → B_R_hasDigitAt_24 post  M2) ∧
    (¬ r1 < (48 : Int32) → P_R_at b0 x1 M2 (fun r3 M4 =>
    ((57 : Int32) < r3 → B_R_hasDigitAt_24 post  M4) ∧
    (¬ (57 : Int32) < r3 → B_R_hasDigitAt_25 post (1 : Int32) M4))))
/-- NumberForge.power(I)J -/
def B_F_power_21 (post : Int64 → nf_M → Prop) (xy0 : Int64) (M : nf_M) : Prop :=
 post xy0 M
def B_F_power_20 (post : Int64 → nf_M → Prop) (M : nf_M) : Prop :=
 B_F_power_21 post (1 : Int64) M
def P_F_power (x0 : Int32) (M : nf_M) (post : Int64 → nf_M → Prop) : Prop :=
 (x0 < 0 → B_F_power_20 post  M) ∧
    (¬ x0 < 0 → (x0 < (16 : Int32) → (vp_in x0 16) ∧
    (B_F_power_21 post (nf_POW.getD x0.toNatClampNeg 0) M)) ∧
    (¬ x0 < (16 : Int32) → B_F_power_20 post  M))
/-- NumberForge$Numeral.takeDigit(II)V -/
def B_N_takeDigit_35 (post : Unit → nf_M → Prop) (M : nf_M) : Prop :=
 post () M
def P_N_takeDigit (x1 : Int32) (x2 : Int32) (M : nf_M) (post : Unit → nf_M → Prop) : Prop :=
 ∀ t1 : Int32, t1 = (mg_I M 6 5) + x2 → (∀ M2 : nf_M, M2 = ms_I M 6 5 t1 → (((15 : Int32) < (mg_I M2 6 5) → B_N_takeDigit_35 post  M2) ∧
    (¬ (15 : Int32) < (mg_I M2 6 5) → P_F_power x2 M2 (fun r3 M4 =>
    ∀ t5 : Int64, t5 = ((mg_L M2 6 4) * r3) + (x1.toInt64) → (∀ M6 : nf_M, M6 = ms_L M4 6 4 t5 → (B_N_takeDigit_35 post  M6))))))
/-- NumberForge$Numeral.parseDigits(LNumberForge$Row;Z)Z -/
def B_N_parseDigits_130 (k18 : Bool → Int32 → Int32 → Int32 → Int32 → nf_M → Prop) (post : Int32 → nf_M → Prop) (b1 : Bool) (x2 : Int32) (x3 : Int32) (x4 : Int32) (x5 : Int32) (M : nf_M) : Prop :=
 ∀ t1 : Int32, t1 = (mg_I M 6 0) + (1 : Int32) → (∀ M2 : nf_M, M2 = ms_I M 6 0 t1 → (k18 b1 x2 x3 x4 x5 M2))
def B_N_parseDigits_124 (k18 : Bool → Int32 → Int32 → Int32 → Int32 → nf_M → Prop) (post : Int32 → nf_M → Prop) (b1 : Bool) (x2 : Int32) (x3 : Int32) (x5 : Int32) (xy0 : Int32) (xy1 : Int32) (M : nf_M) : Prop :=
 P_N_takeDigit xy1 xy0 M (fun _ M2 =>
    B_N_parseDigits_130 k18 post b1 x2 x3 x3 x5 M2)
def B_N_parseDigits_62 (k18 : Bool → Int32 → Int32 → Int32 → Int32 → nf_M → Prop) (post : Int32 → nf_M → Prop) (b1 : Bool) (x2 : Int32) (x3 : Int32) (x4 : Int32) (x5 : Int32) (M : nf_M) : Prop :=
 P_R_at b1 (mg_I M 6 0) M (fun r1 M2 =>
    (r1 = (46 : Int32) → B_N_parseDigits_130 k18 post b1 x2 x3 x4 x3 M2) ∧
    (¬ r1 = (46 : Int32) → P_R_at b1 (mg_I M2 6 0) M2 (fun r3 M4 =>
    (r3 = (48 : Int32) → B_N_parseDigits_130 k18 post b1 x2 (x3 + (1 : Int32)) x4 x5 M4) ∧
    (¬ r3 = (48 : Int32) → P_R_at b1 (mg_I M4 6 0) M4 (fun r5 M6 =>
    ((mg_I M6 6 5) = 0 → B_N_parseDigits_124 k18 post b1 x2 (x3 + (1 : Int32)) x5 (1 : Int32) (r5 - (48 : Int32)) M6) ∧
    (¬ (mg_I M6 6 5) = 0 → B_N_parseDigits_124 k18 post b1 x2 (x3 + (1 : Int32)) x5 ((x3 + (1 : Int32)) - x4) (r5 - (48 : Int32)) M6))))))
def B_N_parseDigits_170 (post : Int32 → nf_M → Prop) (xy0 : Int32) (M : nf_M) : Prop :=
 (narrow .boolean (.int xy0) = .int xy0) ∧ post xy0 M
def B_N_parseDigits_155 (post : Int32 → nf_M → Prop) (x3 : Int32) (x4 : Int32) (xy0 : Int32) (M : nf_M) : Prop :=
 ∀ t1 : Int32, t1 = xy0 - x4 → (∀ M2 : nf_M, M2 = ms_I M 6 6 t1 → ((0 < x3 → B_N_parseDigits_170 post (1 : Int32) M2) ∧
    (¬ 0 < x3 → B_N_parseDigits_170 post (0 : Int32) M2)))
def B_N_parseDigits_143 (post : Int32 → nf_M → Prop) (x3 : Int32) (x4 : Int32) (x5 : Int32) (M : nf_M) : Prop :=
 (x5 < 0 → B_N_parseDigits_155 post x3 x4 x3 M) ∧
    (¬ x5 < 0 → B_N_parseDigits_155 post x3 x4 x5 M)
def B_N_parseDigits_18 (post : Int32 → nf_M → Prop) : Nat → Bool → Int32 → Int32 → Int32 → Int32 → nf_M → Prop
  | 0, _, _, _, _, _, _ => False
  | n + 1, b1, x2, x3, x4, x5, M =>
    ((mg_I M 6 0) < (mg_I M 6 1) → P_R_hasDigitAt b1 (mg_I M 6 0) M (fun r1 M2 =>
    (r1 = 0 → (x2 = 0 → B_N_parseDigits_143 post x3 x4 x5 M2) ∧
    (¬ x2 = 0 → (x5 < 0 → P_R_at b1 (mg_I M2 6 0) M2 (fun r3 M4 =>
    (r3 = (46 : Int32) → B_N_parseDigits_62 (fun b1 x2 x3 x4 x5 z => B_N_parseDigits_18 post n b1 x2 x3 x4 x5 z) post b1 x2 x3 x4 x5 M4) ∧
    (¬ r3 = (46 : Int32) → B_N_parseDigits_143 post x3 x4 x5 M4))) ∧
    (¬ x5 < 0 → B_N_parseDigits_143 post x3 x4 x5 M2))) ∧
    (¬ r1 = 0 → B_N_parseDigits_62 (fun b1 x2 x3 x4 x5 z => B_N_parseDigits_18 post n b1 x2 x3 x4 x5 z) post b1 x2 x3 x4 x5 M2))) ∧
    (¬ (mg_I M 6 0) < (mg_I M 6 1) → B_N_parseDigits_143 post x3 x4 x5 M)
def P_N_parseDigits (b1 : Bool) (x2 : Int32) (M : nf_M) (post : Int32 → nf_M → Prop) : Prop :=
 ∀ M1 : nf_M, M1 = ms_L M 6 4 (0 : Int64) → (∀ M2 : nf_M, M2 = ms_I M1 6 5 (0 : Int32) → (∃ n9 : Nat, B_N_parseDigits_18 post n9 b1 x2 (0 : Int32) (0 : Int32) (-1 : Int32) M2))
/-- NumberForge$Numeral.parseExponent(LNumberForge$Row;)Z -/
def B_N_parseExponent_168 (post : Int32 → nf_M → Prop) (xy0 : Int32) (M : nf_M) : Prop :=
 (narrow .boolean (.int xy0) = .int xy0) ∧ post xy0 M
def B_N_parseExponent_154 (post : Int32 → nf_M → Prop) (x4 : Int32) (xy0 : Int32) (xy1 : Int32) (M : nf_M) : Prop :=
 ∀ t1 : Int32, t1 = xy1 + xy0 → (∀ M2 : nf_M, M2 = ms_I M 6 6 t1 → ((0 < x4 → B_N_parseExponent_168 post (1 : Int32) M2) ∧
    (¬ 0 < x4 → B_N_parseExponent_168 post (0 : Int32) M2)))
def B_N_parseExponent_139 (post : Int32 → nf_M → Prop) (x2 : Int32) (x3 : Int32) (x4 : Int32) (M : nf_M) : Prop :=
 (x2 = 0 → B_N_parseExponent_154 post x4 x3 (mg_I M 6 6) M) ∧
    (¬ x2 = 0 → B_N_parseExponent_154 post x4 (-x3) (mg_I M 6 6) M)
def B_N_parseExponent_78 (post : Int32 → nf_M → Prop) : Nat → Bool → Int32 → Int32 → Int32 → nf_M → Prop
  | 0, _, _, _, _, _ => False
  | n + 1, b1, x2, x3, x4, M =>
    ((mg_I M 6 0) < (mg_I M 6 1) → (x4 < (3 : Int32) → P_R_hasDigitAt b1 (mg_I M 6 0) M (fun r1 M2 =>
    (r1 = 0 → B_N_parseExponent_139 post x2 x3 x4 M2) ∧
    (¬ r1 = 0 → P_R_at b1 (mg_I M2 6 0) M2 (fun r3 M4 =>
    ∀ t5 : Int32, t5 = (x3 * (10 : Int32)) + (r3 - (48 : Int32)) → (∀ t6 : Int32, t6 = (mg_I M4 6 0) + (1 : Int32) → (∀ M7 : nf_M, M7 = ms_I M4 6 0 t6 → (B_N_parseExponent_78 post n b1 x2 t5 (x4 + (1 : Int32)) M7))))))) ∧
    (¬ x4 < (3 : Int32) → B_N_parseExponent_139 post x2 x3 x4 M)) ∧
    (¬ (mg_I M 6 0) < (mg_I M 6 1) → B_N_parseExponent_139 post x2 x3 x4 M)
def B_N_parseExponent_67 (post : Int32 → nf_M → Prop) (b1 : Bool) (xy0 : Int32) (M : nf_M) : Prop :=
 P_N_passSign b1 M (fun _ M2 =>
    ∃ n9 : Nat, B_N_parseExponent_78 post n9 b1 xy0 (0 : Int32) (0 : Int32) M2)
def B_N_parseExponent_66 (post : Int32 → nf_M → Prop) (b1 : Bool) (M : nf_M) : Prop :=
 B_N_parseExponent_67 post b1 (0 : Int32) M
def B_N_parseExponent_28 (post : Int32 → nf_M → Prop) (b1 : Bool) (M : nf_M) : Prop :=
 ∀ t1 : Int32, t1 = (mg_I M 6 0) + (1 : Int32) → (∀ M2 : nf_M, M2 = ms_I M 6 0 t1 → (((mg_I M2 6 0) < (mg_I M2 6 1) → P_R_at b1 (mg_I M2 6 0) M2 (fun r3 M4 =>
    (r3 = (45 : Int32) → B_N_parseExponent_67 post b1 (1 : Int32) M4) ∧
    (¬ r3 = (45 : Int32) → B_N_parseExponent_66 post b1 M4))) ∧
    (¬ (mg_I M2 6 0) < (mg_I M2 6 1) → B_N_parseExponent_66 post b1 M2)))
def P_N_parseExponent (b1 : Bool) (M : nf_M) (post : Int32 → nf_M → Prop) : Prop :=
 P_R_at b1 (mg_I M 6 0) M (fun r1 M2 =>
    (r1 = (101 : Int32) → B_N_parseExponent_28 post b1 M2) ∧
    (¬ r1 = (101 : Int32) → P_R_at b1 (mg_I M2 6 0) M2 (fun r3 M4 =>
    (r3 = (69 : Int32) → B_N_parseExponent_28 post b1 M4) ∧
    (¬ r3 = (69 : Int32) → post (0 : Int32) M4))))
/-- NumberForge$Numeral.parse(LNumberForge$Row;I)Z -/
def B_N_parse_144 (post : Int32 → nf_M → Prop) (xy0 : Int32) (M : nf_M) : Prop :=
 (narrow .boolean (.int xy0) = .int xy0) ∧ post xy0 M
def B_N_parse_143 (post : Int32 → nf_M → Prop) (M : nf_M) : Prop :=
 B_N_parse_144 post (0 : Int32) M
def B_N_parse_124 (post : Int32 → nf_M → Prop) (x3 : Int32) (M : nf_M) : Prop :=
 (x3 = 0 → B_N_parse_143 post  M) ∧
    (¬ x3 = 0 → ((mg_I M 6 0) = (mg_I M 6 1) → B_N_parse_144 post (1 : Int32) M) ∧
    (¬ (mg_I M 6 0) = (mg_I M 6 1) → B_N_parse_143 post  M))
def B_N_parse_93 (post : Int32 → nf_M → Prop) (b1 : Bool) (x2 : Int32) (xy0 : Int32) (by1 : Bool) (M : nf_M) : Prop :=
 P_N_parseDigits by1 xy0 M (fun r1 M2 =>
    (r1 = 0 → B_N_parse_124 post r1 M2) ∧
    (¬ r1 = 0 → (x2 < (8 : Int32) → B_N_parse_124 post r1 M2) ∧
    (¬ x2 < (8 : Int32) → ((mg_I M2 6 0) < (mg_I M2 6 1) → P_N_parseExponent b1 M2 (fun r3 M4 =>
    B_N_parse_124 post r3 M4)) ∧
    (¬ (mg_I M2 6 0) < (mg_I M2 6 1) → B_N_parse_124 post r1 M2))))
def B_N_parse_88 (post : Int32 → nf_M → Prop) (b1 : Bool) (x2 : Int32) (by0 : Bool) (M : nf_M) : Prop :=
 B_N_parse_93 post b1 x2 (1 : Int32) by0 M
def B_N_parse_63 (post : Int32 → nf_M → Prop) (b1 : Bool) (x2 : Int32) (xy0 : Int32) (M : nf_M) : Prop :=
 (nf_bool xy0) ∧
    (∀ M2 : nf_M, M2 = ms_I M 6 3 xy0 → (((mg_I M2 6 3) = 0 → (x2 < (1 : Int32) → B_N_parse_88 post b1 x2 b1 M2) ∧
    (¬ x2 < (1 : Int32) → (x2 < (8 : Int32) → B_N_parse_93 post b1 x2 (0 : Int32) b1 M2) ∧
    (¬ x2 < (8 : Int32) → B_N_parse_88 post b1 x2 b1 M2))) ∧
    (¬ (mg_I M2 6 3) = 0 → post (1 : Int32) M2)))
def B_N_parse_62 (post : Int32 → nf_M → Prop) (b1 : Bool) (x2 : Int32) (M : nf_M) : Prop :=
 B_N_parse_63 post b1 x2 (0 : Int32) M
def B_N_parse_35 (post : Int32 → nf_M → Prop) (b1 : Bool) (x2 : Int32) (xy0 : Int32) (M : nf_M) : Prop :=
 (nf_bool xy0) ∧
    (∀ M2 : nf_M, M2 = ms_I M 6 2 xy0 → (P_N_passSign b1 M2 (fun _ M4 =>
    (x2 < (8 : Int32) → B_N_parse_62 post b1 x2 M4) ∧
    (¬ x2 < (8 : Int32) → P_N_isInfinityWord b1 M4 (fun r5 M6 =>
    (r5 = 0 → B_N_parse_62 post b1 x2 M6) ∧
    (¬ r5 = 0 → B_N_parse_63 post b1 x2 (1 : Int32) M6))))))
def B_N_parse_34 (post : Int32 → nf_M → Prop) (b1 : Bool) (x2 : Int32) (M : nf_M) : Prop :=
 B_N_parse_35 post b1 x2 (0 : Int32) M
def P_N_parse (b1 : Bool) (x2 : Int32) (M : nf_M) (post : Int32 → nf_M → Prop) : Prop :=
 P_N_passBlanks b1 M (fun _ M2 =>
    ((mg_I M2 6 0) < (mg_I M2 6 1) → P_R_at b1 (mg_I M2 6 0) M2 (fun r3 M4 =>
    (r3 = (45 : Int32) → B_N_parse_35 post b1 x2 (1 : Int32) M4) ∧
    (¬ r3 = (45 : Int32) → B_N_parse_34 post b1 x2 M4))) ∧
    (¬ (mg_I M2 6 0) < (mg_I M2 6 1) → B_N_parse_34 post b1 x2 M2))
/-- NumberForge.ten(I)D -/
def B_F_ten_27 (post : UInt64 → nf_M → Prop) (x1 : UInt64) (M : nf_M) : Prop :=
 post x1 M
def B_F_ten_4 (post : UInt64 → nf_M → Prop) : Nat → Int32 → UInt64 → Int32 → nf_M → Prop
  | 0, _, _, _, _ => False
  | n + 1, x0, x1, x3, M =>
    (x3 < x0 → (x3 < (22 : Int32) → (vf_n64 (FP.dmul x1 (4621819117588971520 : UInt64))) ∧
    (∀ t2 : UInt64, t2 = FP.dmul x1 (4621819117588971520 : UInt64) → (B_F_ten_4 post n x0 t2 (x3 + (1 : Int32)) M))) ∧
    (¬ x3 < (22 : Int32) → B_F_ten_27 post x1 M)) ∧
    (¬ x3 < x0 → B_F_ten_27 post x1 M)
def P_F_ten (x0 : Int32) (M : nf_M) (post : UInt64 → nf_M → Prop) : Prop :=
 ∃ n9 : Nat, B_F_ten_4 post n9 x0 (FP.dconst1) (0 : Int32) M
/-- NumberForge.timesTen(DI)D -/
def B_F_timesTen_20 (post : UInt64 → nf_M → Prop) (xy0 : UInt64) (M : nf_M) : Prop :=
 post xy0 M
def P_F_timesTen (x0 : UInt64) (x2 : Int32) (M : nf_M) (post : UInt64 → nf_M → Prop) : Prop :=
 (x2 < 0 → P_F_ten (-x2) M (fun r1 M2 =>
    (vf_n64 (FP.ddiv x0 r1)) ∧
    (B_F_timesTen_20 post (FP.ddiv x0 r1) M2))) ∧
    (¬ x2 < 0 → P_F_ten x2 M (fun r4 M5 =>
    (vf_n64 (FP.dmul x0 r4)) ∧
    (B_F_timesTen_20 post (FP.dmul x0 r4) M5)))
/-- NumberForge$Numeral.asFloating()D -/
def B_N_asFloating_50 (post : UInt64 → nf_M → Prop) (ex : Nat → nf_M → Prop) (M : nf_M) : Prop :=
 ex 4 M
def B_N_asFloating_86 (post : UInt64 → nf_M → Prop) (ex : Nat → nf_M → Prop) (xy0 : UInt64) (M : nf_M) : Prop :=
 post xy0 M
def B_N_asFloating_73 (post : UInt64 → nf_M → Prop) (ex : Nat → nf_M → Prop) (x1 : UInt64) (M : nf_M) : Prop :=
 ((mg_I M 6 2) = 0 → B_N_asFloating_86 post ex x1 M) ∧
    (¬ (mg_I M 6 2) = 0 → B_N_asFloating_86 post ex (FP.dneg x1) M)
def P_N_asFloating (M : nf_M) (post : UInt64 → nf_M → Prop) (ex : Nat → nf_M → Prop) : Prop :=
 ((mg_I M 6 3) = 0 → (0 < (mg_I M 6 5) → ((15 : Int32) < (mg_I M 6 5) → B_N_asFloating_50 post ex  M) ∧
    (¬ (15 : Int32) < (mg_I M 6 5) → ((mg_I M 6 6) < (-22 : Int32) → B_N_asFloating_50 post ex  M) ∧
    (¬ (mg_I M 6 6) < (-22 : Int32) → ((22 : Int32) < (mg_I M 6 6) → B_N_asFloating_50 post ex  M) ∧
    (¬ (22 : Int32) < (mg_I M 6 6) → P_F_timesTen (FP.l2d (mg_L M 6 4)) (mg_I M 6 6) M (fun r1 M2 =>
    B_N_asFloating_73 post ex r1 M2))))) ∧
    (¬ 0 < (mg_I M 6 5) → B_N_asFloating_73 post ex (FP.dconst0) M)) ∧
    (¬ (mg_I M 6 3) = 0 → B_N_asFloating_73 post ex (9218868437227405312 : UInt64) M)
/-- NumberForge$Value.becomeFloating(ID)V -/
def B_V_becomeFloating_29 (post : Unit → nf_M → Prop) (xy0 : UInt64) (vy1 : Fin 9) (M : nf_M) : Prop :=
 ∀ M1 : nf_M, M1 = ms_R M vy1 xy0 → (post () M1)
def P_V_becomeFloating (v0 : Fin 9) (x1 : Int32) (x2 : UInt64) (M : nf_M) (post : Unit → nf_M → Prop) : Prop :=
 ∀ M1 : nf_M, M1 = ms_T M v0 x1 → (∀ M2 : nf_M, M2 = ms_U M1 v0 (0 : Int64) → (∀ M3 : nf_M, M3 = ms_S M2 v0 (0 : Int32) → ((x1 = (8 : Int32) → (vf_n32 (FP.d2f x2)) ∧
    ((vf_n64 (FP.f2d (FP.d2f x2))) ∧
    (B_V_becomeFloating_29 post (FP.f2d (FP.d2f x2)) v0 M3))) ∧
    (¬ x1 = (8 : Int32) → B_V_becomeFloating_29 post x2 v0 M3))))
/-- NumberForge$Numeral.units()J -/
def B_N_units_36 (post : Int64 → nf_M → Prop) (ex : Nat → nf_M → Prop) (M : nf_M) : Prop :=
 ex 4 M
def B_N_units_76 (post : Int64 → nf_M → Prop) (ex : Nat → nf_M → Prop) (xy0 : Int64) (M : nf_M) : Prop :=
 post xy0 M
def P_N_units (M : nf_M) (post : Int64 → nf_M → Prop) (ex : Nat → nf_M → Prop) : Prop :=
 ((mg_I M 6 5) = 0 → post (0 : Int64) M) ∧
    (¬ (mg_I M 6 5) = 0 → ((mg_I M 6 6) < (-6 : Int32) → B_N_units_36 post ex  M) ∧
    (¬ (mg_I M 6 6) < (-6 : Int32) → P_JM_max (mg_I M 6 6) (0 : Int32) M (fun r1 M2 =>
    ((15 : Int32) < ((mg_I M 6 5) + r1) → B_N_units_36 post ex  M2) ∧
    (¬ (15 : Int32) < ((mg_I M 6 5) + r1) → P_JM_max (mg_I M2 6 6) (0 : Int32) M2 (fun r3 M4 =>
    P_F_power r3 M4 (fun r5 M6 =>
    ∀ t7 : Int64, t7 = (mg_L M2 6 4) * r5 → (((mg_I M6 6 2) = 0 → B_N_units_76 post ex t7 M6) ∧
    (¬ (mg_I M6 6 2) = 0 → B_N_units_76 post ex (-t7) M6))))))))
/-- NumberForge$Numeral.scale()I -/
def B_N_scale_20 (post : Int32 → nf_M → Prop) (xy0 : Int32) (M : nf_M) : Prop :=
 post xy0 M
def P_N_scale (M : nf_M) (post : Int32 → nf_M → Prop) : Prop :=
 ((mg_I M 6 5) = 0 → B_N_scale_20 post (0 : Int32) M) ∧
    (¬ (mg_I M 6 5) = 0 → P_JM_max (-(mg_I M 6 6)) (0 : Int32) M (fun r1 M2 =>
    B_N_scale_20 post r1 M2))
/-- NumberForge$Value.becomeUnits(IJI)V -/
def P_V_becomeUnits (v0 : Fin 9) (x1 : Int32) (x2 : Int64) (x4 : Int32) (M : nf_M) (post : Unit → nf_M → Prop) : Prop :=
 ∀ M1 : nf_M, M1 = ms_T M v0 x1 → (∀ M2 : nf_M, M2 = ms_U M1 v0 x2 → (∀ M3 : nf_M, M3 = ms_S M2 v0 x4 → (∀ M4 : nf_M, M4 = ms_R M3 v0 (FP.dconst0) → (post () M4))))
/-- NumberForge.checkFits(JI)V -/
def B_F_checkFits_31 (post : Unit → nf_M → Prop) (ex : Nat → nf_M → Prop) (M : nf_M) : Prop :=
 ex 1 M
def B_F_checkFits_41 (post : Unit → nf_M → Prop) (ex : Nat → nf_M → Prop) (M : nf_M) : Prop :=
 post () M
def P_F_checkFits (x0 : Int64) (x2 : Int32) (M : nf_M) (post : Unit → nf_M → Prop) (ex : Nat → nf_M → Prop) : Prop :=
 ((1 : Int32) < x2 → (x2 < (8 : Int32) → (vp_in x2 8) ∧
    ((x0 < (nf_LOW.getD x2.toNatClampNeg 0) → B_F_checkFits_31 post ex  M) ∧
    (¬ x0 < (nf_LOW.getD x2.toNatClampNeg 0) → (vp_in x2 8) ∧
    (((nf_HIGH.getD x2.toNatClampNeg 0) < x0 → B_F_checkFits_31 post ex  M) ∧
    (¬ (nf_HIGH.getD x2.toNatClampNeg 0) < x0 → B_F_checkFits_41 post ex  M))))) ∧
    (¬ x2 < (8 : Int32) → B_F_checkFits_41 post ex  M)) ∧
    (¬ (1 : Int32) < x2 → B_F_checkFits_41 post ex  M)
/-- NumberForge$Value.become(LNumberForge$Value;)V -/
def P_V_become (v0 : Fin 9) (v1 : Fin 9) (M : nf_M) (post : Unit → nf_M → Prop) : Prop :=
 ∀ t1 : Int32, t1 = mg_T M v1 → (∀ M2 : nf_M, M2 = ms_T M v0 t1 → (∀ t3 : Int64, t3 = mg_U M2 v1 → (∀ M4 : nf_M, M4 = ms_U M2 v0 t3 → (∀ t5 : Int32, t5 = mg_S M4 v1 → (∀ M6 : nf_M, M6 = ms_S M4 v0 t5 → (∀ t7 : UInt64, t7 = mg_R M6 v1 → (∀ M8 : nf_M, M8 = ms_R M6 v0 t7 → (post () M8))))))))
/-- NumberForge.read(II)V -/
def B_F_read_94 (post : Unit → nf_M → Prop) (ex : Nat → nf_M → Prop) (v3 : Fin 9) (M : nf_M) : Prop :=
 P_V_become v3 (0 : Fin 9) M (fun _ M2 =>
    P_R_clear false M2 (fun _ M4 =>
    post () M4))
def P_F_read (x1 : Int32) (x2 : Int32) (M : nf_M) (post : Unit → nf_M → Prop) (ex : Nat → nf_M → Prop) : Prop :=
 P_F_register x1 M (fun r1 M2 =>
    P_F_checkIndex x2 (10 : Int32) M2 (fun _ M4 =>
    P_N_parse false x2 M4 (fun r5 M6 =>
    (r5 = 0 → ex 1 M6) ∧
    (¬ r5 = 0 → (x2 < (8 : Int32) → P_N_units  M6 (fun r7 M8 =>
    P_N_scale  M8 (fun r9 M10 =>
    P_V_becomeUnits (0 : Fin 9) x2 r7 r9 M10 (fun _ M12 =>
    P_F_checkFits (mg_U M12 (0 : Fin 9)) x2 M12 (fun _ M14 =>
    B_F_read_94 post ex r1 M14) ex))) ex) ∧
    (¬ x2 < (8 : Int32) → P_N_asFloating  M6 (fun r15 M16 =>
    P_V_becomeFloating (0 : Fin 9) x2 r15 M16 (fun _ M18 =>
    B_F_read_94 post ex r1 M18)) ex)))) ex) ex
/-- NumberForge.put(IDZ)V -/
def B_F_put_31 (post : Unit → nf_M → Prop) (ex : Nat → nf_M → Prop) (M : nf_M) : Prop :=
 post () M
def B_F_put_27 (post : Unit → nf_M → Prop) (ex : Nat → nf_M → Prop) (x2 : UInt64) (xy0 : Int32) (vy1 : Fin 9) (M : nf_M) : Prop :=
 P_V_becomeFloating vy1 xy0 x2 M (fun _ M2 =>
    B_F_put_31 post ex  M2)
def P_F_put (x1 : Int32) (x2 : UInt64) (x4 : Int32) (M : nf_M) (post : Unit → nf_M → Prop) (ex : Nat → nf_M → Prop) : Prop :=
 P_F_register x1 M (fun r1 M2 =>
    (nf_deq x2 x2 → (x4 = 0 → B_F_put_27 post ex x2 (9 : Int32) r1 M2) ∧
    (¬ x4 = 0 → B_F_put_27 post ex x2 (8 : Int32) r1 M2)) ∧
    (¬ nf_deq x2 x2 → B_F_put_31 post ex  M2)) ex
/-- NumberForge.checkFull(LNumberForge$Value;)V -/
def P_F_checkFull (v0 : Fin 9) (M : nf_M) (post : Unit → nf_M → Prop) (ex : Nat → nf_M → Prop) : Prop :=
 ((mg_T M v0) = (-1 : Int32) → ex 2 M) ∧
    (¬ (mg_T M v0) = (-1 : Int32) → post () M)
/-- NumberForge$Value.isFloating()Z -/
def B_V_isFloating_14 (post : Int32 → nf_M → Prop) (xy0 : Int32) (M : nf_M) : Prop :=
 (narrow .boolean (.int xy0) = .int xy0) ∧ post xy0 M
def P_V_isFloating (v0 : Fin 9) (M : nf_M) (post : Int32 → nf_M → Prop) : Prop :=
 ((mg_T M v0) < (8 : Int32) → B_V_isFloating_14 post (0 : Int32) M) ∧
    (¬ (mg_T M v0) < (8 : Int32) → B_V_isFloating_14 post (1 : Int32) M)
/-- NumberForge$Value.asDouble()D -/
def B_V_asDouble_27 (post : UInt64 → nf_M → Prop) (xy0 : UInt64) (M : nf_M) : Prop :=
 post xy0 M
def P_V_asDouble (v0 : Fin 9) (M : nf_M) (post : UInt64 → nf_M → Prop) : Prop :=
 P_V_isFloating v0 M (fun r1 M2 =>
    (r1 = 0 → P_F_timesTen (FP.l2d (mg_U M2 v0)) (-(mg_S M2 v0)) M2 (fun r3 M4 =>
    B_V_asDouble_27 post r3 M4)) ∧
    (¬ r1 = 0 → B_V_asDouble_27 post (mg_R M2 v0) M2))
/-- NumberForge$Value.asFloat()F -/
def P_V_asFloat (v0 : Fin 9) (M : nf_M) (post : UInt32 → nf_M → Prop) : Prop :=
 P_V_asDouble v0 M (fun r1 M2 =>
    (vf_n32 (FP.d2f r1)) ∧
    (post (FP.d2f r1) M2))
/-- NumberForge.amount(D)D -/
def B_F_amount_13 (post : UInt64 → nf_M → Prop) (xy0 : UInt64) (M : nf_M) : Prop :=
 post xy0 M
def P_F_amount (x0 : UInt64) (M : nf_M) (post : UInt64 → nf_M → Prop) : Prop :=
 (nf_dle x0 (FP.dconst0) → (vf_n64 (FP.dsub (FP.dconst0) x0)) ∧
    (B_F_amount_13 post (FP.dsub (FP.dconst0) x0) M)) ∧
    (¬ nf_dle x0 (FP.dconst0) → B_F_amount_13 post x0 M)
/-- NumberForge.isInfinite(D)Z -/
def B_F_isInfinite_16 (post : Int32 → nf_M → Prop) (xy0 : Int32) (M : nf_M) : Prop :=
 (narrow .boolean (.int xy0) = .int xy0) ∧ post xy0 M
def P_F_isInfinite (x0 : UInt64) (M : nf_M) (post : Int32 → nf_M → Prop) : Prop :=
 P_F_amount x0 M (fun r1 M2 =>
    (nf_dgt r1 (9218868437227405311 : UInt64) → B_F_isInfinite_16 post (1 : Int32) M2) ∧
    (¬ nf_dgt r1 (9218868437227405311 : UInt64) → B_F_isInfinite_16 post (0 : Int32) M2))
/-- NumberForge.isNoNumber(IDD)Z -/
def B_F_isNoNumber_91 (post : Int32 → nf_M → Prop) (xy0 : Int32) (M : nf_M) : Prop :=
 (narrow .boolean (.int xy0) = .int xy0) ∧ post xy0 M
def B_F_isNoNumber_90 (post : Int32 → nf_M → Prop) (M : nf_M) : Prop :=
 B_F_isNoNumber_91 post (0 : Int32) M
def B_F_isNoNumber_83 (post : Int32 → nf_M → Prop) (xy0 : Int32) (xy1 : Int32) (M : nf_M) : Prop :=
 (xy1 = xy0 → B_F_isNoNumber_90 post  M) ∧
    (¬ xy1 = xy0 → B_F_isNoNumber_91 post (1 : Int32) M)
def B_F_isNoNumber_72 (post : Int32 → nf_M → Prop) (x3 : UInt64) (xy0 : Int32) (M : nf_M) : Prop :=
 (nf_dgt x3 (FP.dconst0) → B_F_isNoNumber_83 post (1 : Int32) xy0 M) ∧
    (¬ nf_dgt x3 (FP.dconst0) → B_F_isNoNumber_83 post (0 : Int32) xy0 M)
def B_F_isNoNumber_127 (post : Int32 → nf_M → Prop) (xy0 : Int32) (M : nf_M) : Prop :=
 (narrow .boolean (.int xy0) = .int xy0) ∧ post xy0 M
def B_F_isNoNumber_126 (post : Int32 → nf_M → Prop) (M : nf_M) : Prop :=
 B_F_isNoNumber_127 post (0 : Int32) M
def B_F_isNoNumber_119 (post : Int32 → nf_M → Prop) (xy0 : Int32) (xy1 : Int32) (M : nf_M) : Prop :=
 (xy1 = xy0 → B_F_isNoNumber_127 post (1 : Int32) M) ∧
    (¬ xy1 = xy0 → B_F_isNoNumber_126 post  M)
def B_F_isNoNumber_108 (post : Int32 → nf_M → Prop) (x3 : UInt64) (xy0 : Int32) (M : nf_M) : Prop :=
 (nf_dgt x3 (FP.dconst0) → B_F_isNoNumber_119 post (1 : Int32) xy0 M) ∧
    (¬ nf_dgt x3 (FP.dconst0) → B_F_isNoNumber_119 post (0 : Int32) xy0 M)
def B_F_isNoNumber_159 (post : Int32 → nf_M → Prop) (xy0 : Int32) (M : nf_M) : Prop :=
 (narrow .boolean (.int xy0) = .int xy0) ∧ post xy0 M
def B_F_isNoNumber_154 (post : Int32 → nf_M → Prop) (M : nf_M) : Prop :=
 B_F_isNoNumber_159 post (1 : Int32) M
def B_F_isNoNumber_158 (post : Int32 → nf_M → Prop) (M : nf_M) : Prop :=
 B_F_isNoNumber_159 post (0 : Int32) M
def B_F_isNoNumber_141 (post : Int32 → nf_M → Prop) (x1 : UInt64) (x3 : UInt64) (M : nf_M) : Prop :=
 P_F_isInfinite x1 M (fun r1 M2 =>
    (r1 = 0 → B_F_isNoNumber_158 post  M2) ∧
    (¬ r1 = 0 → (nf_deq x3 (FP.dconst0) → B_F_isNoNumber_154 post  M2) ∧
    (¬ nf_deq x3 (FP.dconst0) → B_F_isNoNumber_158 post  M2)))
def B_F_isNoNumber_182 (post : Int32 → nf_M → Prop) (xy0 : Int32) (M : nf_M) : Prop :=
 (narrow .boolean (.int xy0) = .int xy0) ∧ post xy0 M
def B_F_isNoNumber_177 (post : Int32 → nf_M → Prop) (M : nf_M) : Prop :=
 B_F_isNoNumber_182 post (1 : Int32) M
def B_F_isNoNumber_181 (post : Int32 → nf_M → Prop) (M : nf_M) : Prop :=
 B_F_isNoNumber_182 post (0 : Int32) M
def B_F_isNoNumber_199 (post : Int32 → nf_M → Prop) (xy0 : Int32) (M : nf_M) : Prop :=
 (narrow .boolean (.int xy0) = .int xy0) ∧ post xy0 M
def B_F_isNoNumber_194 (post : Int32 → nf_M → Prop) (M : nf_M) : Prop :=
 B_F_isNoNumber_199 post (1 : Int32) M
def B_F_isNoNumber_218 (post : Int32 → nf_M → Prop) (xy0 : Int32) (M : nf_M) : Prop :=
 (narrow .boolean (.int xy0) = .int xy0) ∧ post xy0 M
def B_F_isNoNumber_213 (post : Int32 → nf_M → Prop) (M : nf_M) : Prop :=
 B_F_isNoNumber_218 post (1 : Int32) M
def B_F_isNoNumber_19 (post : Int32 → nf_M → Prop) (x0 : Int32) (x1 : UInt64) (x3 : UInt64) (xy0 : Int32) (M : nf_M) : Prop :=
 (x0 = (0 : Int32) → (xy0 = 0 → B_F_isNoNumber_90 post  M) ∧
    (¬ xy0 = 0 → (nf_dgt x1 (FP.dconst0) → B_F_isNoNumber_72 post x3 (1 : Int32) M) ∧
    (¬ nf_dgt x1 (FP.dconst0) → B_F_isNoNumber_72 post x3 (0 : Int32) M))) ∧
    (¬ x0 = (0 : Int32) → (x0 = (1 : Int32) → (xy0 = 0 → B_F_isNoNumber_126 post  M) ∧
    (¬ xy0 = 0 → (nf_dgt x1 (FP.dconst0) → B_F_isNoNumber_108 post x3 (1 : Int32) M) ∧
    (¬ nf_dgt x1 (FP.dconst0) → B_F_isNoNumber_108 post x3 (0 : Int32) M))) ∧
    (¬ x0 = (1 : Int32) → (x0 = (2 : Int32) → (nf_deq x1 (FP.dconst0) → P_F_isInfinite x3 M (fun r3 M4 =>
    (r3 = 0 → B_F_isNoNumber_141 post x1 x3 M4) ∧
    (¬ r3 = 0 → B_F_isNoNumber_154 post  M4))) ∧
    (¬ nf_deq x1 (FP.dconst0) → B_F_isNoNumber_141 post x1 x3 M)) ∧
    (¬ x0 = (2 : Int32) → (x0 = (3 : Int32) → (xy0 = 0 → (nf_deq x1 (FP.dconst0) → (nf_deq x3 (FP.dconst0) → B_F_isNoNumber_177 post  M) ∧
    (¬ nf_deq x3 (FP.dconst0) → B_F_isNoNumber_181 post  M)) ∧
    (¬ nf_deq x1 (FP.dconst0) → B_F_isNoNumber_181 post  M)) ∧
    (¬ xy0 = 0 → B_F_isNoNumber_177 post  M)) ∧
    (¬ x0 = (3 : Int32) → (x0 = (4 : Int32) → (xy0 = 0 → (nf_deq x3 (FP.dconst0) → B_F_isNoNumber_194 post  M) ∧
    (¬ nf_deq x3 (FP.dconst0) → B_F_isNoNumber_199 post (0 : Int32) M)) ∧
    (¬ xy0 = 0 → B_F_isNoNumber_194 post  M)) ∧
    (¬ x0 = (4 : Int32) → P_F_isInfinite x1 M (fun r8 M9 =>
    (r8 = 0 → (nf_deq x3 (FP.dconst0) → B_F_isNoNumber_213 post  M9) ∧
    (¬ nf_deq x3 (FP.dconst0) → B_F_isNoNumber_218 post (0 : Int32) M9)) ∧
    (¬ r8 = 0 → B_F_isNoNumber_213 post  M9)))))))
def B_F_isNoNumber_18 (post : Int32 → nf_M → Prop) (x0 : Int32) (x1 : UInt64) (x3 : UInt64) (M : nf_M) : Prop :=
 B_F_isNoNumber_19 post x0 x1 x3 (0 : Int32) M
def P_F_isNoNumber (x0 : Int32) (x1 : UInt64) (x3 : UInt64) (M : nf_M) (post : Int32 → nf_M → Prop) : Prop :=
 P_F_isInfinite x1 M (fun r1 M2 =>
    (r1 = 0 → B_F_isNoNumber_18 post x0 x1 x3 M2) ∧
    (¬ r1 = 0 → P_F_isInfinite x3 M2 (fun r3 M4 =>
    (r3 = 0 → B_F_isNoNumber_18 post x0 x1 x3 M4) ∧
    (¬ r3 = 0 → B_F_isNoNumber_19 post x0 x1 x3 (1 : Int32) M4))))
/-- NumberForge.wholeBelowLimit(D)J -/
def P_F_wholeBelowLimit (x0 : UInt64) (M : nf_M) (post : Int64 → nf_M → Prop) (ex : Nat → nf_M → Prop) : Prop :=
 P_F_amount x0 M (fun r1 M2 =>
    (nf_dge r1 (4831355200913801216 : UInt64) → ex 4 M2) ∧
    (¬ nf_dge r1 (4831355200913801216 : UInt64) → post (FP.d2l x0) M2))
/-- NumberForge.wholePartOf(D)V -/
def P_F_wholePartOf (x1 : UInt64) (M : nf_M) (post : Unit → nf_M → Prop) (ex : Nat → nf_M → Prop) : Prop :=
 P_F_isInfinite x1 M (fun r1 M2 =>
    (r1 = 0 → P_F_wholeBelowLimit x1 M2 (fun r3 M4 =>
    P_V_becomeUnits (0 : Fin 9) (1 : Int32) r3 (0 : Int32) M4 (fun _ M6 =>
    post () M6)) ex) ∧
    (¬ r1 = 0 → ex 3 M2))
/-- NumberForge.floatingRest(DD)D -/
def B_F_floatingRest_76 (k56 : UInt64 → UInt64 → UInt64 → Int32 → nf_M → Prop) (post : UInt64 → nf_M → Prop) (x0 : UInt64) (x4 : UInt64) (x6 : UInt64) (x9 : Int32) (M : nf_M) : Prop :=
 (vf_n64 (FP.ddiv x6 (4611686018427387904 : UInt64))) ∧
    (∀ t2 : UInt64, t2 = FP.ddiv x6 (4611686018427387904 : UInt64) → (k56 x0 x4 t2 (x9 + (-1 : Int32)) M))
def B_F_floatingRest_104 (post : UInt64 → nf_M → Prop) (xy0 : UInt64) (M : nf_M) : Prop :=
 post xy0 M
def B_F_floatingRest_56 (post : UInt64 → nf_M → Prop) : Nat → UInt64 → UInt64 → UInt64 → Int32 → nf_M → Prop
  | 0, _, _, _, _, _ => False
  | n + 1, x0, x4, x6, x9, M =>
    (x9 < 0 → (nf_dlt x0 (FP.dconst0) → B_F_floatingRest_104 post (FP.dneg x4) M) ∧
    (¬ nf_dlt x0 (FP.dconst0) → B_F_floatingRest_104 post x4 M)) ∧
    (¬ x9 < 0 → (nf_dge x4 x6 → (vf_n64 (FP.dsub x4 x6)) ∧
    (∀ t2 : UInt64, t2 = FP.dsub x4 x6 → (B_F_floatingRest_76 (fun x0 x4 x6 x9 z => B_F_floatingRest_56 post n x0 x4 x6 x9 z) post x0 t2 x6 x9 M))) ∧
    (¬ nf_dge x4 x6 → B_F_floatingRest_76 (fun x0 x4 x6 x9 z => B_F_floatingRest_56 post n x0 x4 x6 x9 z) post x0 x4 x6 x9 M))
def B_F_floatingRest_52 (post : UInt64 → nf_M → Prop) (x0 : UInt64) (x4 : UInt64) (x6 : UInt64) (x8 : Int32) (M : nf_M) : Prop :=
 ∃ n9 : Nat, B_F_floatingRest_56 post n9 x0 x4 x6 x8 M
def B_F_floatingRest_20 (post : UInt64 → nf_M → Prop) : Nat → UInt64 → UInt64 → UInt64 → Int32 → nf_M → Prop
  | 0, _, _, _, _, _ => False
  | n + 1, x0, x4, x6, x8, M =>
    (x8 < (2100 : Int32) → (vf_n64 (FP.dsub x4 x6)) ∧
    ((nf_dge (FP.dsub x4 x6) x6 → (vf_n64 (FP.dadd x6 x6)) ∧
    (∀ t3 : UInt64, t3 = FP.dadd x6 x6 → (B_F_floatingRest_20 post n x0 x4 t3 (x8 + (1 : Int32)) M))) ∧
    (¬ nf_dge (FP.dsub x4 x6) x6 → B_F_floatingRest_52 post x0 x4 x6 x8 M))) ∧
    (¬ x8 < (2100 : Int32) → B_F_floatingRest_52 post x0 x4 x6 x8 M)
def P_F_floatingRest (x0 : UInt64) (x2 : UInt64) (M : nf_M) (post : UInt64 → nf_M → Prop) : Prop :=
 (nf_deq x0 (FP.dconst0) → post x0 M) ∧
    (¬ nf_deq x0 (FP.dconst0) → P_F_amount x0 M (fun r1 M2 =>
    ∃ n9 : Nat, B_F_floatingRest_20 post n9 x0 r1 x2 (0 : Int32) M2))
/-- NumberForge.doubleAnswer(IDD)D -/
def P_F_doubleAnswer (x0 : Int32) (x1 : UInt64) (x3 : UInt64) (M : nf_M) (post : UInt64 → nf_M → Prop) : Prop :=
 (x0 = (0 : Int32) → (vf_n64 (FP.dadd x1 x3)) ∧
    (post (FP.dadd x1 x3) M)) ∧
    (¬ x0 = (0 : Int32) → (x0 = (1 : Int32) → (vf_n64 (FP.dsub x1 x3)) ∧
    (post (FP.dsub x1 x3) M)) ∧
    (¬ x0 = (1 : Int32) → (x0 = (2 : Int32) → (vf_n64 (FP.dmul x1 x3)) ∧
    (post (FP.dmul x1 x3) M)) ∧
    (¬ x0 = (2 : Int32) → (vf_n64 (FP.ddiv x1 x3)) ∧
    (post (FP.ddiv x1 x3) M))))
/-- NumberForge.floatAnswer(IFF)F -/
def P_F_floatAnswer (x0 : Int32) (x1 : UInt32) (x2 : UInt32) (M : nf_M) (post : UInt32 → nf_M → Prop) : Prop :=
 (x0 = (0 : Int32) → (vf_n32 (FP.fadd x1 x2)) ∧
    (post (FP.fadd x1 x2) M)) ∧
    (¬ x0 = (0 : Int32) → (x0 = (1 : Int32) → (vf_n32 (FP.fsub x1 x2)) ∧
    (post (FP.fsub x1 x2) M)) ∧
    (¬ x0 = (1 : Int32) → (x0 = (2 : Int32) → (vf_n32 (FP.fmul x1 x2)) ∧
    (post (FP.fmul x1 x2) M)) ∧
    (¬ x0 = (2 : Int32) → (vf_n32 (FP.fdiv x1 x2)) ∧
    (post (FP.fdiv x1 x2) M))))
/-- NumberForge.reckonFloating(ILNumberForge$Value;LNumberForge$Value;)V -/
def B_F_reckonFloating_200 (post : Unit → nf_M → Prop) (ex : Nat → nf_M → Prop) (M : nf_M) : Prop :=
 post () M
def B_F_reckonFloating_120 (post : Unit → nf_M → Prop) (ex : Nat → nf_M → Prop) (xy0 : UInt64) (M : nf_M) : Prop :=
 P_F_wholePartOf xy0 M (fun _ M2 =>
    B_F_reckonFloating_200 post ex  M2) ex
def B_F_reckonFloating_67 (post : Unit → nf_M → Prop) (ex : Nat → nf_M → Prop) (x1 : Int32) (x4 : Int32) (x5 : UInt64) (xy0 : UInt64) (M : nf_M) : Prop :=
 P_F_isNoNumber x1 x5 xy0 M (fun r1 M2 =>
    (r1 = 0 → (x1 = (4 : Int32) → (x4 = (9 : Int32) → (vf_n64 (FP.ddiv x5 xy0)) ∧
    (B_F_reckonFloating_120 post ex (FP.ddiv x5 xy0) M2)) ∧
    (¬ x4 = (9 : Int32) → (vf_n32 (FP.d2f x5)) ∧
    ((vf_n32 (FP.d2f xy0)) ∧
    ((vf_n32 (FP.fdiv (FP.d2f x5) (FP.d2f xy0))) ∧
    ((vf_n64 (FP.f2d (FP.fdiv (FP.d2f x5) (FP.d2f xy0)))) ∧
    (B_F_reckonFloating_120 post ex (FP.f2d (FP.fdiv (FP.d2f x5) (FP.d2f xy0))) M2)))))) ∧
    (¬ x1 = (4 : Int32) → (x1 = (5 : Int32) → P_F_amount xy0 M2 (fun r8 M9 =>
    P_F_floatingRest x5 r8 M9 (fun r10 M11 =>
    P_V_becomeFloating (0 : Fin 9) x4 r10 M11 (fun _ M13 =>
    B_F_reckonFloating_200 post ex  M13)))) ∧
    (¬ x1 = (5 : Int32) → (x4 = (9 : Int32) → P_F_doubleAnswer x1 x5 xy0 M2 (fun r14 M15 =>
    P_V_becomeFloating (0 : Fin 9) x4 r14 M15 (fun _ M17 =>
    B_F_reckonFloating_200 post ex  M17))) ∧
    (¬ x4 = (9 : Int32) → (vf_n32 (FP.d2f x5)) ∧
    ((vf_n32 (FP.d2f xy0)) ∧
    (P_F_floatAnswer x1 (FP.d2f x5) (FP.d2f xy0) M2 (fun r20 M21 =>
    (vf_n64 (FP.f2d r20)) ∧
    (P_V_becomeFloating (0 : Fin 9) x4 (FP.f2d r20) M21 (fun _ M24 =>
    B_F_reckonFloating_200 post ex  M24))))))))) ∧
    (¬ r1 = 0 → ex 3 M2))
def B_F_reckonFloating_46 (post : Unit → nf_M → Prop) (ex : Nat → nf_M → Prop) (x1 : Int32) (v3 : Fin 9) (x4 : Int32) (xy0 : UInt64) (M : nf_M) : Prop :=
 (x4 = (9 : Int32) → P_V_asDouble v3 M (fun r1 M2 =>
    B_F_reckonFloating_67 post ex x1 x4 xy0 r1 M2)) ∧
    (¬ x4 = (9 : Int32) → P_V_asFloat v3 M (fun r3 M4 =>
    (vf_n64 (FP.f2d r3)) ∧
    (B_F_reckonFloating_67 post ex x1 x4 xy0 (FP.f2d r3) M4)))
def B_F_reckonFloating_25 (post : Unit → nf_M → Prop) (ex : Nat → nf_M → Prop) (x1 : Int32) (v2 : Fin 9) (v3 : Fin 9) (xy0 : Int32) (M : nf_M) : Prop :=
 (xy0 = (9 : Int32) → P_V_asDouble v2 M (fun r1 M2 =>
    B_F_reckonFloating_46 post ex x1 v3 xy0 r1 M2)) ∧
    (¬ xy0 = (9 : Int32) → P_V_asFloat v2 M (fun r3 M4 =>
    (vf_n64 (FP.f2d r3)) ∧
    (B_F_reckonFloating_46 post ex x1 v3 xy0 (FP.f2d r3) M4)))
def B_F_reckonFloating_18 (post : Unit → nf_M → Prop) (ex : Nat → nf_M → Prop) (x1 : Int32) (v2 : Fin 9) (v3 : Fin 9) (M : nf_M) : Prop :=
 B_F_reckonFloating_25 post ex x1 v2 v3 (9 : Int32) M
def P_F_reckonFloating (x1 : Int32) (v2 : Fin 9) (v3 : Fin 9) (M : nf_M) (post : Unit → nf_M → Prop) (ex : Nat → nf_M → Prop) : Prop :=
 ((mg_T M v2) = (9 : Int32) → B_F_reckonFloating_18 post ex x1 v2 v3 M) ∧
    (¬ (mg_T M v2) = (9 : Int32) → ((mg_T M v3) = (9 : Int32) → B_F_reckonFloating_18 post ex x1 v2 v3 M) ∧
    (¬ (mg_T M v3) = (9 : Int32) → B_F_reckonFloating_25 post ex x1 v2 v3 (8 : Int32) M))
/-- java/lang/Math.abs(J)J -/
def B_JM_abs_JJ_12 (post : Int64 → nf_M → Prop) (xy0 : Int64) (M : nf_M) : Prop :=
 post xy0 M
def P_JM_abs_JJ (x0 : Int64) (M : nf_M) (post : Int64 → nf_M → Prop) : Prop :=
 (x0 < (0 : Int64) → B_JM_abs_JJ_12 post (-x0) M) ∧
    (¬ x0 < (0 : Int64) → B_JM_abs_JJ_12 post x0 M)
/-- NumberForge.over(JJ)J -/
def B_F_over_13 (post : Int64 → nf_M → Prop) (xy0 : Int64) (M : nf_M) : Prop :=
 post xy0 M
def P_F_over (x0 : Int64) (x2 : Int64) (M : nf_M) (post : Int64 → nf_M → Prop) : Prop :=
 (x2 = (0 : Int64) → B_F_over_13 post (0 : Int64) M) ∧
    (¬ x2 = (0 : Int64) → (¬ x2 = 0) ∧
    (B_F_over_13 post (x0 / x2) M))
/-- NumberForge.atScale(JII)J -/
def P_F_atScale (x0 : Int64) (x2 : Int32) (x3 : Int32) (M : nf_M) (post : Int64 → nf_M → Prop) (ex : Nat → nf_M → Prop) : Prop :=
 P_F_power (x3 - x2) M (fun r1 M2 =>
    P_JM_abs_JJ x0 M2 (fun r3 M4 =>
    P_F_over (2000000000000000 : Int64) r1 M4 (fun r5 M6 =>
    (r5 < r3 → ex 4 M6) ∧
    (¬ r5 < r3 → post (x0 * r1) M6))))
/-- NumberForge$Wide.become(J)V -/
def P_W_become (x1 : Int64) (M : nf_M) (post : Unit → nf_M → Prop) : Prop :=
 ∀ t1 : Int64, t1 = x1 / (1000000000000000 : Int64) → (∀ M2 : nf_M, M2 = ms_L M 9 0 t1 → (∀ t3 : Int64, t3 = x1 - x1 / (1000000000000000 : Int64) * (1000000000000000 : Int64) → (∀ M4 : nf_M, M4 = ms_L M2 9 1 t3 → (post () M4))))
/-- NumberForge$Wide.dropDigit()V -/
def P_W_dropDigit (M : nf_M) (post : Unit → nf_M → Prop) : Prop :=
 ∀ t1 : Int64, t1 = ((mg_L M 9 1) / (10 : Int64)) + (((mg_L M 9 0) - (mg_L M 9 0) / (10 : Int64) * (10 : Int64)) * (100000000000000 : Int64)) → (∀ M2 : nf_M, M2 = ms_L M 9 1 t1 → (∀ t3 : Int64, t3 = (mg_L M2 9 0) / (10 : Int64) → (∀ M4 : nf_M, M4 = ms_L M2 9 0 t3 → (post () M4))))
/-- NumberForge$Wide.dropZeros(I)I -/
def B_W_dropZeros_29 (post : Int32 → nf_M → Prop) (x2 : Int32) (M : nf_M) : Prop :=
 post x2 M
def B_W_dropZeros_2 (post : Int32 → nf_M → Prop) : Nat → Int32 → nf_M → Prop
  | 0, _, _ => False
  | n + 1, x2, M =>
    (0 < x2 → (((mg_L M 9 1) - (mg_L M 9 1) / (10 : Int64) * (10 : Int64)) = (0 : Int64) → P_W_dropDigit  M (fun _ M2 =>
    B_W_dropZeros_2 post n (x2 + (-1 : Int32)) M2)) ∧
    (¬ ((mg_L M 9 1) - (mg_L M 9 1) / (10 : Int64) * (10 : Int64)) = (0 : Int64) → B_W_dropZeros_29 post x2 M)) ∧
    (¬ 0 < x2 → B_W_dropZeros_29 post x2 M)
def P_W_dropZeros (x1 : Int32) (M : nf_M) (post : Int32 → nf_M → Prop) : Prop :=
 ∃ n9 : Nat, B_W_dropZeros_2 post n9 x1 M
/-- NumberForge.left(JJ)J -/
def B_F_left_13 (post : Int64 → nf_M → Prop) (xy0 : Int64) (M : nf_M) : Prop :=
 post xy0 M
def P_F_left (x0 : Int64) (x2 : Int64) (M : nf_M) (post : Int64 → nf_M → Prop) : Prop :=
 (x2 = (0 : Int64) → B_F_left_13 post (0 : Int64) M) ∧
    (¬ x2 = (0 : Int64) → (¬ x2 = 0) ∧
    (B_F_left_13 post (x0 - x0 / x2 * x2) M))
/-- NumberForge.isRoundedUp(JJJ)Z -/
def B_F_isRoundedUp_37 (post : Int32 → nf_M → Prop) (xy0 : Int32) (M : nf_M) : Prop :=
 (narrow .boolean (.int xy0) = .int xy0) ∧ post xy0 M
def B_F_isRoundedUp_32 (post : Int32 → nf_M → Prop) (M : nf_M) : Prop :=
 B_F_isRoundedUp_37 post (1 : Int32) M
def B_F_isRoundedUp_36 (post : Int32 → nf_M → Prop) (M : nf_M) : Prop :=
 B_F_isRoundedUp_37 post (0 : Int32) M
def P_F_isRoundedUp (x0 : Int64) (x2 : Int64) (x4 : Int64) (M : nf_M) (post : Int32 → nf_M → Prop) : Prop :=
 (x4 < ((2 : Int64) * x2) → B_F_isRoundedUp_32 post  M) ∧
    (¬ x4 < ((2 : Int64) * x2) → (((2 : Int64) * x2) = x4 → ((x0 - x0 / (2 : Int64) * (2 : Int64)) = (0 : Int64) → B_F_isRoundedUp_36 post  M) ∧
    (¬ (x0 - x0 / (2 : Int64) * (2 : Int64)) = (0 : Int64) → B_F_isRoundedUp_32 post  M)) ∧
    (¬ ((2 : Int64) * x2) = x4 → B_F_isRoundedUp_36 post  M))
/-- NumberForge$Wide.increase()V -/
def B_W_increase_36 (post : Unit → nf_M → Prop) (M : nf_M) : Prop :=
 post () M
def P_W_increase (M : nf_M) (post : Unit → nf_M → Prop) : Prop :=
 ∀ t1 : Int64, t1 = (mg_L M 9 1) + (1 : Int64) → (∀ M2 : nf_M, M2 = ms_L M 9 1 t1 → (((mg_L M2 9 1) = (1000000000000000 : Int64) → ∀ M3 : nf_M, M3 = ms_L M2 9 1 (0 : Int64) → (∀ t4 : Int64, t4 = (mg_L M3 9 0) + (1 : Int64) → (∀ M5 : nf_M, M5 = ms_L M3 9 0 t4 → (B_W_increase_36 post  M5)))) ∧
    (¬ (mg_L M2 9 1) = (1000000000000000 : Int64) → B_W_increase_36 post  M2)))
/-- NumberForge$Wide.roundOff(I)V -/
def B_W_roundOff_50 (post : Unit → nf_M → Prop) (M : nf_M) : Prop :=
 post () M
def B_W_roundOff_15 (post : Unit → nf_M → Prop) : Nat → Int32 → Int64 → Int32 → nf_M → Prop
  | 0, _, _, _, _ => False
  | n + 1, x1, x2, x4, M =>
    (x4 < x1 → P_W_dropDigit  M (fun _ M2 =>
    B_W_roundOff_15 post n x1 x2 (x4 + (1 : Int32)) M2)) ∧
    (¬ x4 < x1 → P_F_power x1 M (fun r3 M4 =>
    P_F_isRoundedUp (mg_L M 9 1) x2 r3 M4 (fun r5 M6 =>
    (r5 = 0 → B_W_roundOff_50 post  M6) ∧
    (¬ r5 = 0 → P_W_increase  M6 (fun _ M8 =>
    B_W_roundOff_50 post  M8)))))
def P_W_roundOff (x1 : Int32) (M : nf_M) (post : Unit → nf_M → Prop) : Prop :=
 P_F_power x1 M (fun r1 M2 =>
    P_F_left (mg_L M 9 1) r1 M2 (fun r3 M4 =>
    ∃ n9 : Nat, B_W_roundOff_15 post n9 x1 r3 (0 : Int32) M4))
/-- NumberForge$Wide.settle(LNumberForge$Value;IZI)V -/
def B_W_settle_69 (post : Unit → nf_M → Prop) (ex : Nat → nf_M → Prop) (x5 : Int32) (xy0 : Int64) (xy1 : Int32) (vy2 : Fin 9) (M : nf_M) : Prop :=
 P_V_becomeUnits vy2 xy1 xy0 x5 M (fun _ M2 =>
    post () M2)
def B_W_settle_32 (post : Unit → nf_M → Prop) (ex : Nat → nf_M → Prop) (v1 : Fin 9) (x2 : Int32) (x3 : Int32) (x5 : Int32) (M : nf_M) : Prop :=
 ((mg_L M 9 0) = (0 : Int64) → (x3 = 0 → B_W_settle_69 post ex x5 (mg_L M 9 1) x2 v1 M) ∧
    (¬ x3 = 0 → B_W_settle_69 post ex x5 (-(mg_L M 9 1)) x2 v1 M)) ∧
    (¬ (mg_L M 9 0) = (0 : Int64) → ex 4 M)
def P_W_settle (v1 : Fin 9) (x2 : Int32) (x3 : Int32) (x4 : Int32) (M : nf_M) (post : Unit → nf_M → Prop) (ex : Nat → nf_M → Prop) : Prop :=
 P_W_dropZeros x4 M (fun r1 M2 =>
    ((6 : Int32) < r1 → P_W_roundOff (r1 - (6 : Int32)) M2 (fun _ M4 =>
    P_W_dropZeros (6 : Int32) M4 (fun r5 M6 =>
    B_W_settle_32 post ex v1 x2 x3 r5 M6))) ∧
    (¬ (6 : Int32) < r1 → B_W_settle_32 post ex v1 x2 x3 r1 M2))
/-- NumberForge.exactSum(LNumberForge$Value;LNumberForge$Value;JI)V -/
def B_F_exactSum_73 (post : Unit → nf_M → Prop) (ex : Nat → nf_M → Prop) (x6 : Int32) (xy0 : Int32) (xy1 : Int32) (vy2 : Fin 9) (M : nf_M) : Prop :=
 P_W_settle vy2 xy1 xy0 x6 M (fun _ M2 =>
    post () M2) ex
def P_F_exactSum (v1 : Fin 9) (v2 : Fin 9) (x3 : Int64) (x5 : Int32) (M : nf_M) (post : Unit → nf_M → Prop) (ex : Nat → nf_M → Prop) : Prop :=
 P_JM_max (mg_S M v1) (mg_S M v2) M (fun r1 M2 =>
    P_F_atScale (mg_U M2 v1) (mg_S M2 v1) r1 M2 (fun r3 M4 =>
    P_F_atScale x3 (mg_S M4 v2) r1 M4 (fun r5 M6 =>
    ∀ t7 : Int64, t7 = r3 + r5 → (P_JM_abs_JJ t7 M6 (fun r8 M9 =>
    P_W_become r8 M9 (fun _ M11 =>
    (t7 < (0 : Int64) → B_F_exactSum_73 post ex r1 (1 : Int32) x5 (0 : Fin 9) M11) ∧
    (¬ t7 < (0 : Int64) → B_F_exactSum_73 post ex r1 (0 : Int32) x5 (0 : Fin 9) M11))))) ex) ex)
/-- NumberForge$Wide.becomeProduct(JJ)V -/
def P_W_becomeProduct (x1 : Int64) (x3 : Int64) (M : nf_M) (post : Unit → nf_M → Prop) : Prop :=
 ∀ t1 : Int64, t1 = ((x1 / (100000000 : Int64)) * (x3 - x3 / (100000000 : Int64) * (100000000 : Int64))) + ((x1 - x1 / (100000000 : Int64) * (100000000 : Int64)) * (x3 / (100000000 : Int64))) → (∀ t2 : Int64, t2 = (x1 - x1 / (100000000 : Int64) * (100000000 : Int64)) * (x3 - x3 / (100000000 : Int64) * (100000000 : Int64)) → (∀ t3 : Int64, t3 = ((t1 - t1 / (10000000 : Int64) * (10000000 : Int64)) * (100000000 : Int64)) + (t2 - t2 / (1000000000000000 : Int64) * (1000000000000000 : Int64)) → (∀ t4 : Int64, t4 = (((((x1 / (100000000 : Int64)) * (x3 / (100000000 : Int64))) * (10 : Int64)) + (t1 / (10000000 : Int64))) + (t2 / (1000000000000000 : Int64))) + (t3 / (1000000000000000 : Int64)) → (∀ M5 : nf_M, M5 = ms_L M 9 0 t4 → (∀ t6 : Int64, t6 = t3 - t3 / (1000000000000000 : Int64) * (1000000000000000 : Int64) → (∀ M7 : nf_M, M7 = ms_L M5 9 1 t6 → (post () M7)))))))
/-- NumberForge.haveOtherSigns(LNumberForge$Value;LNumberForge$Value;)Z -/
def B_F_haveOtherSigns_36 (post : Int32 → nf_M → Prop) (xy0 : Int32) (M : nf_M) : Prop :=
 (narrow .boolean (.int xy0) = .int xy0) ∧ post xy0 M
def B_F_haveOtherSigns_28 (post : Int32 → nf_M → Prop) (xy0 : Int32) (xy1 : Int32) (M : nf_M) : Prop :=
 (xy1 = xy0 → B_F_haveOtherSigns_36 post (0 : Int32) M) ∧
    (¬ xy1 = xy0 → B_F_haveOtherSigns_36 post (1 : Int32) M)
def B_F_haveOtherSigns_14 (post : Int32 → nf_M → Prop) (v1 : Fin 9) (xy0 : Int32) (M : nf_M) : Prop :=
 ((mg_U M v1) < (0 : Int64) → B_F_haveOtherSigns_28 post (1 : Int32) xy0 M) ∧
    (¬ (mg_U M v1) < (0 : Int64) → B_F_haveOtherSigns_28 post (0 : Int32) xy0 M)
def P_F_haveOtherSigns (v0 : Fin 9) (v1 : Fin 9) (M : nf_M) (post : Int32 → nf_M → Prop) : Prop :=
 ((mg_U M v0) < (0 : Int64) → B_F_haveOtherSigns_14 post v1 (1 : Int32) M) ∧
    (¬ (mg_U M v0) < (0 : Int64) → B_F_haveOtherSigns_14 post v1 (0 : Int32) M)
/-- NumberForge$Wide.addDigit(J)V -/
def P_W_addDigit (x1 : Int64) (M : nf_M) (post : Unit → nf_M → Prop) : Prop :=
 ∀ t1 : Int64, t1 = ((mg_L M 9 0) * (10 : Int64)) + ((mg_L M 9 1) / (100000000000000 : Int64)) → (∀ M2 : nf_M, M2 = ms_L M 9 0 t1 → (∀ t3 : Int64, t3 = (((mg_L M2 9 1) - (mg_L M2 9 1) / (100000000000000 : Int64) * (100000000000000 : Int64)) * (10 : Int64)) + x1 → (∀ M4 : nf_M, M4 = ms_L M2 9 1 t3 → (post () M4))))
/-- NumberForge$Wide.becomeQuotient(JIJ)J -/
def B_W_becomeQuotient_21 (post : Int64 → nf_M → Prop) : Nat → Int32 → Int64 → Int64 → Int32 → nf_M → Prop
  | 0, _, _, _, _, _ => False
  | n + 1, x3, x4, x6, x8, M =>
    (x8 < x3 → P_F_over (x6 * (10 : Int64)) x4 M (fun r1 M2 =>
    P_W_addDigit r1 M2 (fun _ M4 =>
    P_F_left (x6 * (10 : Int64)) x4 M4 (fun r5 M6 =>
    B_W_becomeQuotient_21 post n x3 x4 r5 (x8 + (1 : Int32)) M6)))) ∧
    (¬ x8 < x3 → post x6 M)
def P_W_becomeQuotient (x1 : Int64) (x3 : Int32) (x4 : Int64) (M : nf_M) (post : Int64 → nf_M → Prop) : Prop :=
 P_F_over x1 x4 M (fun r1 M2 =>
    P_W_become r1 M2 (fun _ M4 =>
    P_F_left x1 x4 M4 (fun r5 M6 =>
    ∃ n9 : Nat, B_W_becomeQuotient_21 post n9 x3 x4 r5 (0 : Int32) M6)))
/-- NumberForge.exactQuotient(LNumberForge$Value;LNumberForge$Value;)V -/
def B_F_exactQuotient_60 (post : Unit → nf_M → Prop) (ex : Nat → nf_M → Prop) (v1 : Fin 9) (v2 : Fin 9) (M : nf_M) : Prop :=
 P_F_haveOtherSigns v1 v2 M (fun r1 M2 =>
    P_W_settle (0 : Fin 9) (0 : Int32) r1 (6 : Int32) M2 (fun _ M4 =>
    post () M4) ex)
def P_F_exactQuotient (v1 : Fin 9) (v2 : Fin 9) (M : nf_M) (post : Unit → nf_M → Prop) (ex : Nat → nf_M → Prop) : Prop :=
 P_JM_abs_JJ (mg_U M v2) M (fun r1 M2 =>
    P_JM_abs_JJ (mg_U M2 v1) M2 (fun r3 M4 =>
    P_W_becomeQuotient r3 (((6 : Int32) + (mg_S M4 v2)) - (mg_S M4 v1)) r1 M4 (fun r5 M6 =>
    P_F_isRoundedUp (mg_L M6 9 1) r5 r1 M6 (fun r7 M8 =>
    (r7 = 0 → B_F_exactQuotient_60 post ex v1 v2 M8) ∧
    (¬ r7 = 0 → P_W_increase  M8 (fun _ M10 =>
    B_F_exactQuotient_60 post ex v1 v2 M10))))))
/-- NumberForge.exactWholePart(LNumberForge$Value;LNumberForge$Value;)V -/
def B_F_exactWholePart_39 (post : Unit → nf_M → Prop) (ex : Nat → nf_M → Prop) (v1 : Fin 9) (v2 : Fin 9) (x3 : Int32) (xy0 : Int64) (M : nf_M) : Prop :=
 P_JM_max x3 (0 : Int32) M (fun r1 M2 =>
    P_JM_abs_JJ (mg_U M2 v2) M2 (fun r3 M4 =>
    P_W_becomeQuotient xy0 r1 r3 M4 (fun r5 M6 =>
    P_F_haveOtherSigns v1 v2 M6 (fun r7 M8 =>
    P_W_settle (0 : Fin 9) (1 : Int32) r7 (0 : Int32) M8 (fun _ M10 =>
    post () M10) ex))))
def P_F_exactWholePart (v1 : Fin 9) (v2 : Fin 9) (M : nf_M) (post : Unit → nf_M → Prop) (ex : Nat → nf_M → Prop) : Prop :=
 ∀ t1 : Int32, t1 = (mg_S M v2) - (mg_S M v1) → ((t1 < 0 → P_JM_abs_JJ (mg_U M v1) M (fun r2 M3 =>
    P_F_power (-t1) M3 (fun r4 M5 =>
    P_F_over r2 r4 M5 (fun r6 M7 =>
    B_F_exactWholePart_39 post ex v1 v2 t1 r6 M7)))) ∧
    (¬ t1 < 0 → P_JM_abs_JJ (mg_U M v1) M (fun r8 M9 =>
    B_F_exactWholePart_39 post ex v1 v2 t1 r8 M9)))
/-- NumberForge.exactRest(LNumberForge$Value;LNumberForge$Value;I)V -/
def B_F_exactRest_124 (post : Unit → nf_M → Prop) (ex : Nat → nf_M → Prop) (v1 : Fin 9) (v2 : Fin 9) (xy0 : Int32) (xy1 : Int32) (vy2 : Fin 9) (M : nf_M) : Prop :=
 P_JM_max (mg_S M v1) (mg_S M v2) M (fun r1 M2 =>
    P_W_settle vy2 xy1 xy0 r1 M2 (fun _ M4 =>
    post () M4) ex)
def B_F_exactRest_92 (post : Unit → nf_M → Prop) (ex : Nat → nf_M → Prop) (v1 : Fin 9) (v2 : Fin 9) (x3 : Int32) (x9 : Int64) (M : nf_M) : Prop :=
 P_W_become x9 M (fun _ M2 =>
    ((mg_U M2 v1) < (0 : Int64) → B_F_exactRest_124 post ex v1 v2 (1 : Int32) x3 (0 : Fin 9) M2) ∧
    (¬ (mg_U M2 v1) < (0 : Int64) → B_F_exactRest_124 post ex v1 v2 (0 : Int32) x3 (0 : Fin 9) M2))
def P_F_exactRest (v1 : Fin 9) (v2 : Fin 9) (x3 : Int32) (M : nf_M) (post : Unit → nf_M → Prop) (ex : Nat → nf_M → Prop) : Prop :=
 P_JM_abs_JJ (mg_U M v1) M (fun r1 M2 =>
    P_JM_abs_JJ (mg_U M2 v2) M2 (fun r3 M4 =>
    ∀ t5 : Int32, t5 = (mg_S M4 v2) - (mg_S M4 v1) → ((t5 < 0 → P_F_power (-t5) M4 (fun r6 M7 =>
    P_F_over r1 r6 M7 (fun r8 M9 =>
    (r8 < r3 → B_F_exactRest_92 post ex v1 v2 x3 r1 M9) ∧
    (¬ r8 < r3 → P_F_power (-t5) M9 (fun r10 M11 =>
    P_F_left r1 (r3 * r10) M11 (fun r12 M13 =>
    B_F_exactRest_92 post ex v1 v2 x3 r12 M13)))))) ∧
    (¬ t5 < 0 → P_W_becomeQuotient r1 t5 r3 M4 (fun r14 M15 =>
    B_F_exactRest_92 post ex v1 v2 x3 r14 M15)))))
/-- NumberForge.reckonUnits(ILNumberForge$Value;LNumberForge$Value;)V -/
def B_F_reckonUnits_188 (post : Unit → nf_M → Prop) (ex : Nat → nf_M → Prop) (M : nf_M) : Prop :=
 post () M
def B_F_reckonUnits_46 (post : Unit → nf_M → Prop) (ex : Nat → nf_M → Prop) (x1 : Int32) (v2 : Fin 9) (v3 : Fin 9) (x4 : Int32) (M : nf_M) : Prop :=
 (x1 = (0 : Int32) → P_F_exactSum v2 v3 (mg_U M v3) x4 M (fun _ M2 =>
    B_F_reckonUnits_188 post ex  M2) ex) ∧
    (¬ x1 = (0 : Int32) → (x1 = (1 : Int32) → P_F_exactSum v2 v3 (-(mg_U M v3)) x4 M (fun _ M5 =>
    B_F_reckonUnits_188 post ex  M5) ex) ∧
    (¬ x1 = (1 : Int32) → (x1 = (2 : Int32) → P_JM_abs_JJ (mg_U M v2) M (fun r7 M8 =>
    P_JM_abs_JJ (mg_U M8 v3) M8 (fun r9 M10 =>
    P_W_becomeProduct r7 r9 M10 (fun _ M12 =>
    P_F_haveOtherSigns v2 v3 M12 (fun r13 M14 =>
    P_W_settle (0 : Fin 9) x4 r13 ((mg_S M14 v2) + (mg_S M14 v3)) M14 (fun _ M16 =>
    B_F_reckonUnits_188 post ex  M16) ex))))) ∧
    (¬ x1 = (2 : Int32) → (x1 = (3 : Int32) → P_F_exactQuotient v2 v3 M (fun _ M19 =>
    B_F_reckonUnits_188 post ex  M19) ex) ∧
    (¬ x1 = (3 : Int32) → (x1 = (4 : Int32) → P_F_exactWholePart v2 v3 M (fun _ M22 =>
    B_F_reckonUnits_188 post ex  M22) ex) ∧
    (¬ x1 = (4 : Int32) → P_F_exactRest v2 v3 x4 M (fun _ M25 =>
    B_F_reckonUnits_188 post ex  M25) ex)))))
def B_F_reckonUnits_19 (post : Unit → nf_M → Prop) (ex : Nat → nf_M → Prop) (x1 : Int32) (v2 : Fin 9) (v3 : Fin 9) (xy0 : Int32) (M : nf_M) : Prop :=
 (x1 < (3 : Int32) → B_F_reckonUnits_46 post ex x1 v2 v3 xy0 M) ∧
    (¬ x1 < (3 : Int32) → ((mg_U M v3) = (0 : Int64) → ex 3 M) ∧
    (¬ (mg_U M v3) = (0 : Int64) → B_F_reckonUnits_46 post ex x1 v2 v3 xy0 M))
def B_F_reckonUnits_14 (post : Unit → nf_M → Prop) (ex : Nat → nf_M → Prop) (x1 : Int32) (v2 : Fin 9) (v3 : Fin 9) (M : nf_M) : Prop :=
 B_F_reckonUnits_19 post ex x1 v2 v3 (0 : Int32) M
def P_F_reckonUnits (x1 : Int32) (v2 : Fin 9) (v3 : Fin 9) (M : nf_M) (post : Unit → nf_M → Prop) (ex : Nat → nf_M → Prop) : Prop :=
 ((mg_T M v2) = 0 → B_F_reckonUnits_14 post ex x1 v2 v3 M) ∧
    (¬ (mg_T M v2) = 0 → ((mg_T M v3) = 0 → B_F_reckonUnits_14 post ex x1 v2 v3 M) ∧
    (¬ (mg_T M v3) = 0 → B_F_reckonUnits_19 post ex x1 v2 v3 (1 : Int32) M))
/-- NumberForge.reckon(IIII)V -/
def B_F_reckon_75 (post : Unit → nf_M → Prop) (ex : Nat → nf_M → Prop) (v5 : Fin 9) (M : nf_M) : Prop :=
 P_V_become v5 (0 : Fin 9) M (fun _ M2 =>
    post () M2)
def B_F_reckon_54 (post : Unit → nf_M → Prop) (ex : Nat → nf_M → Prop) (x1 : Int32) (v5 : Fin 9) (v6 : Fin 9) (v7 : Fin 9) (M : nf_M) : Prop :=
 P_F_reckonFloating x1 v6 v7 M (fun _ M2 =>
    B_F_reckon_75 post ex v5 M2) ex
def P_F_reckon (x1 : Int32) (x2 : Int32) (x3 : Int32) (x4 : Int32) (M : nf_M) (post : Unit → nf_M → Prop) (ex : Nat → nf_M → Prop) : Prop :=
 P_F_register x4 M (fun r1 M2 =>
    P_F_register x2 M2 (fun r3 M4 =>
    P_F_register x3 M4 (fun r5 M6 =>
    P_F_checkIndex x1 (6 : Int32) M6 (fun _ M8 =>
    P_F_checkFull r3 M8 (fun _ M10 =>
    P_F_checkFull r5 M10 (fun _ M12 =>
    P_V_isFloating r3 M12 (fun r13 M14 =>
    (r13 = 0 → P_V_isFloating r5 M14 (fun r15 M16 =>
    (r15 = 0 → P_F_reckonUnits x1 r3 r5 M16 (fun _ M18 =>
    B_F_reckon_75 post ex r1 M18) ex) ∧
    (¬ r15 = 0 → B_F_reckon_54 post ex x1 r1 r3 r5 M16))) ∧
    (¬ r13 = 0 → B_F_reckon_54 post ex x1 r1 r3 r5 M14))) ex) ex) ex) ex) ex) ex
/-- java/lang/Math.abs(I)I -/
def B_JM_abs_II_10 (post : Int32 → nf_M → Prop) (xy0 : Int32) (M : nf_M) : Prop :=
 post xy0 M
def P_JM_abs_II (x0 : Int32) (M : nf_M) (post : Int32 → nf_M → Prop) : Prop :=
 (x0 < 0 → B_JM_abs_II_10 post (-x0) M) ∧
    (¬ x0 < 0 → B_JM_abs_II_10 post x0 M)
/-- NumberForge.isHalfEvenUp(JD)Z -/
def B_F_isHalfEvenUp_31 (post : Int32 → nf_M → Prop) (xy0 : Int32) (M : nf_M) : Prop :=
 (narrow .boolean (.int xy0) = .int xy0) ∧ post xy0 M
def B_F_isHalfEvenUp_26 (post : Int32 → nf_M → Prop) (M : nf_M) : Prop :=
 B_F_isHalfEvenUp_31 post (1 : Int32) M
def B_F_isHalfEvenUp_30 (post : Int32 → nf_M → Prop) (M : nf_M) : Prop :=
 B_F_isHalfEvenUp_31 post (0 : Int32) M
def P_F_isHalfEvenUp (x0 : Int64) (x2 : UInt64) (M : nf_M) (post : Int32 → nf_M → Prop) : Prop :=
 (nf_dgt x2 (4602678819172646912 : UInt64) → B_F_isHalfEvenUp_26 post  M) ∧
    (¬ nf_dgt x2 (4602678819172646912 : UInt64) → (nf_deq x2 (4602678819172646912 : UInt64) → ((x0 - x0 / (2 : Int64) * (2 : Int64)) = (0 : Int64) → B_F_isHalfEvenUp_30 post  M) ∧
    (¬ (x0 - x0 / (2 : Int64) * (2 : Int64)) = (0 : Int64) → B_F_isHalfEvenUp_26 post  M)) ∧
    (¬ nf_deq x2 (4602678819172646912 : UInt64) → B_F_isHalfEvenUp_30 post  M))
/-- NumberForge.isAwayFromZero(IZJD)Z -/
def B_F_isAwayFromZero_44 (post : Int32 → nf_M → Prop) (xy0 : Int32) (M : nf_M) : Prop :=
 (narrow .boolean (.int xy0) = .int xy0) ∧ post xy0 M
def B_F_isAwayFromZero_43 (post : Int32 → nf_M → Prop) (M : nf_M) : Prop :=
 B_F_isAwayFromZero_44 post (0 : Int32) M
def B_F_isAwayFromZero_61 (post : Int32 → nf_M → Prop) (xy0 : Int32) (M : nf_M) : Prop :=
 (narrow .boolean (.int xy0) = .int xy0) ∧ post xy0 M
def B_F_isAwayFromZero_60 (post : Int32 → nf_M → Prop) (M : nf_M) : Prop :=
 B_F_isAwayFromZero_61 post (0 : Int32) M
def B_F_isAwayFromZero_89 (post : Int32 → nf_M → Prop) (xy0 : Int32) (M : nf_M) : Prop :=
 (narrow .boolean (.int xy0) = .int xy0) ∧ post xy0 M
def B_F_isAwayFromZero_84 (post : Int32 → nf_M → Prop) (M : nf_M) : Prop :=
 B_F_isAwayFromZero_89 post (1 : Int32) M
def B_F_isAwayFromZero_88 (post : Int32 → nf_M → Prop) (M : nf_M) : Prop :=
 B_F_isAwayFromZero_89 post (0 : Int32) M
def P_F_isAwayFromZero (x0 : Int32) (x1 : Int32) (x2 : Int64) (x4 : UInt64) (M : nf_M) (post : Int32 → nf_M → Prop) : Prop :=
 (x0 = (2 : Int32) → (x1 = 0 → B_F_isAwayFromZero_43 post  M) ∧
    (¬ x1 = 0 → (nf_dgt x4 (FP.dconst0) → B_F_isAwayFromZero_44 post (1 : Int32) M) ∧
    (¬ nf_dgt x4 (FP.dconst0) → B_F_isAwayFromZero_43 post  M))) ∧
    (¬ x0 = (2 : Int32) → (x0 = (3 : Int32) → (x1 = 0 → (nf_dgt x4 (FP.dconst0) → B_F_isAwayFromZero_61 post (1 : Int32) M) ∧
    (¬ nf_dgt x4 (FP.dconst0) → B_F_isAwayFromZero_60 post  M)) ∧
    (¬ x1 = 0 → B_F_isAwayFromZero_60 post  M)) ∧
    (¬ x0 = (3 : Int32) → (x0 = (4 : Int32) → (nf_dgt x4 (4602678819172646912 : UInt64) → B_F_isAwayFromZero_84 post  M) ∧
    (¬ nf_dgt x4 (4602678819172646912 : UInt64) → (nf_deq x4 (4602678819172646912 : UInt64) → (x1 = 0 → B_F_isAwayFromZero_84 post  M) ∧
    (¬ x1 = 0 → B_F_isAwayFromZero_88 post  M)) ∧
    (¬ nf_deq x4 (4602678819172646912 : UInt64) → B_F_isAwayFromZero_88 post  M))) ∧
    (¬ x0 = (4 : Int32) → P_F_isHalfEvenUp x2 x4 M (fun r4 M5 =>
    (narrow .boolean (.int r4) = .int r4) ∧ post r4 M5))))
/-- NumberForge.floatingOne(ID)D -/
def B_F_floatingOne_34 (post : UInt64 → nf_M → Prop) (x1 : UInt64) (M : nf_M) : Prop :=
 post x1 M
def B_F_floatingOne_85 (post : UInt64 → nf_M → Prop) (xy0 : UInt64) (M : nf_M) : Prop :=
 post xy0 M
def B_F_floatingOne_73 (post : UInt64 → nf_M → Prop) (x1 : UInt64) (x3 : UInt64) (M : nf_M) : Prop :=
 (nf_dlt x1 (FP.dconst0) → B_F_floatingOne_85 post (FP.dneg x3) M) ∧
    (¬ nf_dlt x1 (FP.dconst0) → B_F_floatingOne_85 post x3 M)
def B_F_floatingOne_55 (post : UInt64 → nf_M → Prop) (x1 : UInt64) (x3 : UInt64) (xy0 : Int32) (xy1 : Int32) (M : nf_M) : Prop :=
 P_F_amount x1 M (fun r1 M2 =>
    (vf_n64 (FP.dsub r1 x3)) ∧
    (P_F_isAwayFromZero xy1 xy0 (FP.d2l x3) (FP.dsub r1 x3) M2 (fun r4 M5 =>
    (r4 = 0 → B_F_floatingOne_73 post x1 x3 M5) ∧
    (¬ r4 = 0 → (vf_n64 (FP.dadd x3 (FP.dconst1))) ∧
    (∀ t7 : UInt64, t7 = FP.dadd x3 (FP.dconst1) → (B_F_floatingOne_73 post x1 t7 M5))))))
def P_F_floatingOne (x0 : Int32) (x1 : UInt64) (M : nf_M) (post : UInt64 → nf_M → Prop) : Prop :=
 (x0 = 0 → post (FP.dneg x1) M) ∧
    (¬ x0 = 0 → (x0 = (1 : Int32) → P_F_amount x1 M (fun r1 M2 =>
    post r1 M2)) ∧
    (¬ x0 = (1 : Int32) → (nf_deq x1 (FP.dconst0) → B_F_floatingOne_34 post x1 M) ∧
    (¬ nf_deq x1 (FP.dconst0) → P_F_amount x1 M (fun r3 M4 =>
    (nf_dge r3 (4841369599423283200 : UInt64) → B_F_floatingOne_34 post x1 M4) ∧
    (¬ nf_dge r3 (4841369599423283200 : UInt64) → P_F_amount x1 M4 (fun r5 M6 =>
    ∀ t7 : UInt64, t7 = FP.l2d (FP.d2l r5) → ((nf_dlt x1 (FP.dconst0) → B_F_floatingOne_55 post x1 t7 (1 : Int32) x0 M6) ∧
    (¬ nf_dlt x1 (FP.dconst0) → B_F_floatingOne_55 post x1 t7 (0 : Int32) x0 M6))))))))
/-- java/lang/Math.floorDiv(JJ)J -/
def B_JM_floorDiv_27 (post : Int64 → nf_M → Prop) (x4 : Int64) (M : nf_M) : Prop :=
 post x4 M
def P_JM_floorDiv (x0 : Int64) (x2 : Int64) (M : nf_M) (post : Int64 → nf_M → Prop) : Prop :=
 (¬ x2 = 0) ∧
    (∀ t2 : Int64, t2 = x0 / x2 → (((x0 ^^^ x2) < (0 : Int64) → ((t2 * x2) = x0 → B_JM_floorDiv_27 post t2 M) ∧
    (¬ (t2 * x2) = x0 → post (t2 - (1 : Int64)) M)) ∧
    (¬ (x0 ^^^ x2) < (0 : Int64) → B_JM_floorDiv_27 post t2 M)))
/-- NumberForge.floor(JJ)J -/
def B_F_floor_15 (post : Int64 → nf_M → Prop) (xy0 : Int64) (M : nf_M) : Prop :=
 post xy0 M
def P_F_floor (x0 : Int64) (x2 : Int64) (M : nf_M) (post : Int64 → nf_M → Prop) : Prop :=
 (x2 = (0 : Int64) → B_F_floor_15 post (0 : Int64) M) ∧
    (¬ x2 = (0 : Int64) → P_JM_floorDiv x0 x2 M (fun r1 M2 =>
    B_F_floor_15 post r1 M2))
/-- NumberForge.overHalfEven(JJ)J -/
def B_F_overHalfEven_28 (post : Int64 → nf_M → Prop) (xy0 : Int32) (xy1 : Int64) (M : nf_M) : Prop :=
 post (xy1 + (xy0.toInt64)) M
def P_F_overHalfEven (x0 : Int64) (x2 : Int64) (M : nf_M) (post : Int64 → nf_M → Prop) : Prop :=
 P_F_over x0 x2 M (fun r1 M2 =>
    P_F_left x0 x2 M2 (fun r3 M4 =>
    P_F_isRoundedUp r1 r3 x2 M4 (fun r5 M6 =>
    (r5 = 0 → B_F_overHalfEven_28 post (0 : Int32) r1 M6) ∧
    (¬ r5 = 0 → B_F_overHalfEven_28 post (1 : Int32) r1 M6))))
/-- NumberForge.signedHalfEven(JJ)J -/
def B_F_signedHalfEven_24 (post : Int64 → nf_M → Prop) (xy0 : Int64) (M : nf_M) : Prop :=
 post xy0 M
def P_F_signedHalfEven (x0 : Int64) (x2 : Int64) (M : nf_M) (post : Int64 → nf_M → Prop) : Prop :=
 P_JM_abs_JJ x0 M (fun r1 M2 =>
    P_F_overHalfEven r1 x2 M2 (fun r3 M4 =>
    (x0 < (0 : Int64) → B_F_signedHalfEven_24 post (-r3) M4) ∧
    (¬ x0 < (0 : Int64) → B_F_signedHalfEven_24 post r3 M4)))
/-- NumberForge.exactRounded(IJJ)J -/
def P_F_exactRounded (x0 : Int32) (x1 : Int64) (x3 : Int64) (M : nf_M) (post : Int64 → nf_M → Prop) : Prop :=
 (x0 = (2 : Int32) → P_F_floor x1 x3 M (fun r1 M2 =>
    post r1 M2)) ∧
    (¬ x0 = (2 : Int32) → (x0 = (3 : Int32) → P_F_floor (-x1) x3 M (fun r4 M5 =>
    post (-r4) M5)) ∧
    (¬ x0 = (3 : Int32) → (x0 = (4 : Int32) → P_F_floor (((2 : Int64) * x1) + x3) ((2 : Int64) * x3) M (fun r7 M8 =>
    post r7 M8)) ∧
    (¬ x0 = (4 : Int32) → P_F_signedHalfEven x1 x3 M (fun r10 M11 =>
    post r10 M11))))
/-- NumberForge.exactOne(ILNumberForge$Value;)V -/
def B_F_exactOne_88 (post : Unit → nf_M → Prop) (M : nf_M) : Prop :=
 post () M
def B_F_exactOne_12 (post : Unit → nf_M → Prop) (x1 : Int32) (v2 : Fin 9) (xy0 : Int32) (M : nf_M) : Prop :=
 (x1 = 0 → P_V_becomeUnits (0 : Fin 9) xy0 (-(mg_U M v2)) (mg_S M v2) M (fun _ M2 =>
    B_F_exactOne_88 post  M2)) ∧
    (¬ x1 = 0 → (x1 = (1 : Int32) → P_JM_abs_JJ (mg_U M v2) M (fun r3 M4 =>
    P_V_becomeUnits (0 : Fin 9) xy0 r3 (mg_S M4 v2) M4 (fun _ M6 =>
    B_F_exactOne_88 post  M6))) ∧
    (¬ x1 = (1 : Int32) → P_F_power (mg_S M v2) M (fun r7 M8 =>
    P_F_exactRounded x1 (mg_U M v2) r7 M8 (fun r9 M10 =>
    P_V_becomeUnits (0 : Fin 9) xy0 r9 (0 : Int32) M10 (fun _ M12 =>
    B_F_exactOne_88 post  M12)))))
def P_F_exactOne (x1 : Int32) (v2 : Fin 9) (M : nf_M) (post : Unit → nf_M → Prop) : Prop :=
 ((mg_T M v2) = 0 → B_F_exactOne_12 post x1 v2 (0 : Int32) M) ∧
    (¬ (mg_T M v2) = 0 → B_F_exactOne_12 post x1 v2 (1 : Int32) M)
/-- NumberForge.one(III)V -/
def B_F_one_64 (post : Unit → nf_M → Prop) (ex : Nat → nf_M → Prop) (v4 : Fin 9) (M : nf_M) : Prop :=
 P_V_become v4 (0 : Fin 9) M (fun _ M2 =>
    post () M2)
def P_F_one (x1 : Int32) (x2 : Int32) (x3 : Int32) (M : nf_M) (post : Unit → nf_M → Prop) (ex : Nat → nf_M → Prop) : Prop :=
 P_F_register x3 M (fun r1 M2 =>
    P_F_register x2 M2 (fun r3 M4 =>
    P_F_checkIndex x1 (6 : Int32) M4 (fun _ M6 =>
    P_F_checkFull r3 M6 (fun _ M8 =>
    P_V_isFloating r3 M8 (fun r9 M10 =>
    (r9 = 0 → P_F_exactOne x1 r3 M10 (fun _ M12 =>
    B_F_one_64 post ex r1 M12)) ∧
    (¬ r9 = 0 → P_F_floatingOne x1 (mg_R M10 r3) M10 (fun r13 M14 =>
    P_V_becomeFloating (0 : Fin 9) (mg_T M10 r3) r13 M14 (fun _ M16 =>
    B_F_one_64 post ex r1 M16))))) ex) ex) ex) ex
/-- NumberForge.nearestEven(D)J -/
def B_F_nearestEven_21 (post : Int64 → nf_M → Prop) (xy0 : Int64) (M : nf_M) : Prop :=
 post xy0 M
def P_F_nearestEven (x0 : UInt64) (M : nf_M) (post : Int64 → nf_M → Prop) : Prop :=
 ∀ t1 : Int64, t1 = FP.d2l x0 → ((vf_n64 (FP.dsub x0 (FP.l2d t1))) ∧
    (P_F_isHalfEvenUp t1 (FP.dsub x0 (FP.l2d t1)) M (fun r3 M4 =>
    (r3 = 0 → B_F_nearestEven_21 post t1 M4) ∧
    (¬ r3 = 0 → B_F_nearestEven_21 post (t1 + (1 : Int64)) M4))))
/-- NumberForge.castFloating(DI)V -/
def B_F_castFloating_96 (post : Unit → nf_M → Prop) (ex : Nat → nf_M → Prop) (M : nf_M) : Prop :=
 post () M
def B_F_castFloating_77 (post : Unit → nf_M → Prop) (ex : Nat → nf_M → Prop) (xy0 : Int32) (xy1 : Int32) (vy2 : Fin 9) (M : nf_M) : Prop :=
 P_W_settle vy2 xy1 xy0 (6 : Int32) M (fun _ M2 =>
    B_F_castFloating_96 post ex  M2) ex
def B_F_castFloating_85 (post : Unit → nf_M → Prop) (ex : Nat → nf_M → Prop) (x3 : Int32) (x4 : Int64) (M : nf_M) : Prop :=
 P_V_becomeUnits (0 : Fin 9) x3 x4 (0 : Int32) M (fun _ M2 =>
    B_F_castFloating_96 post ex  M2)
def P_F_castFloating (x1 : UInt64) (x3 : Int32) (M : nf_M) (post : Unit → nf_M → Prop) (ex : Nat → nf_M → Prop) : Prop :=
 P_F_isInfinite x1 M (fun r1 M2 =>
    (r1 = 0 → P_F_wholeBelowLimit x1 M2 (fun r3 M4 =>
    (x3 = 0 → P_F_amount x1 M4 (fun r5 M6 =>
    (nf_dlt r5 (4741671816366391296 : UInt64) → P_F_amount x1 M6 (fun r7 M8 =>
    (vf_n64 (FP.dmul r7 (4696837146684686336 : UInt64))) ∧
    (P_F_nearestEven (FP.dmul r7 (4696837146684686336 : UInt64)) M8 (fun r10 M11 =>
    P_W_become r10 M11 (fun _ M13 =>
    (nf_dlt x1 (FP.dconst0) → B_F_castFloating_77 post ex (1 : Int32) x3 (0 : Fin 9) M13) ∧
    (¬ nf_dlt x1 (FP.dconst0) → B_F_castFloating_77 post ex (0 : Int32) x3 (0 : Fin 9) M13)))))) ∧
    (¬ nf_dlt r5 (4741671816366391296 : UInt64) → B_F_castFloating_85 post ex x3 r3 M6))) ∧
    (¬ x3 = 0 → B_F_castFloating_85 post ex x3 r3 M4)) ex) ∧
    (¬ r1 = 0 → ex 3 M2))
/-- NumberForge.castIntoAnswer(LNumberForge$Value;I)V -/
def B_F_castIntoAnswer_130 (post : Unit → nf_M → Prop) (ex : Nat → nf_M → Prop) (M : nf_M) : Prop :=
 post () M
def B_F_castIntoAnswer_108 (post : Unit → nf_M → Prop) (ex : Nat → nf_M → Prop) (x2 : Int32) (M : nf_M) : Prop :=
 ((1 : Int32) < x2 → (x2 < (8 : Int32) → P_F_checkFits (mg_U M (0 : Fin 9)) x2 M (fun _ M2 =>
    B_F_castIntoAnswer_130 post ex  M2) ex) ∧
    (¬ x2 < (8 : Int32) → B_F_castIntoAnswer_130 post ex  M)) ∧
    (¬ (1 : Int32) < x2 → B_F_castIntoAnswer_130 post ex  M)
def P_F_castIntoAnswer (v1 : Fin 9) (x2 : Int32) (M : nf_M) (post : Unit → nf_M → Prop) (ex : Nat → nf_M → Prop) : Prop :=
 (x2 = (9 : Int32) → P_V_asDouble v1 M (fun r1 M2 =>
    P_V_becomeFloating (0 : Fin 9) x2 r1 M2 (fun _ M4 =>
    B_F_castIntoAnswer_108 post ex x2 M4))) ∧
    (¬ x2 = (9 : Int32) → (x2 = (8 : Int32) → P_V_asFloat v1 M (fun r5 M6 =>
    (vf_n64 (FP.f2d r5)) ∧
    (P_V_becomeFloating (0 : Fin 9) x2 (FP.f2d r5) M6 (fun _ M9 =>
    B_F_castIntoAnswer_108 post ex x2 M9)))) ∧
    (¬ x2 = (8 : Int32) → P_V_isFloating v1 M (fun r10 M11 =>
    (r10 = 0 → (x2 = 0 → P_V_becomeUnits (0 : Fin 9) x2 (mg_U M11 v1) (mg_S M11 v1) M11 (fun _ M13 =>
    B_F_castIntoAnswer_108 post ex x2 M13)) ∧
    (¬ x2 = 0 → P_F_power (mg_S M11 v1) M11 (fun r14 M15 =>
    P_F_over (mg_U M11 v1) r14 M15 (fun r16 M17 =>
    P_V_becomeUnits (0 : Fin 9) x2 r16 (0 : Int32) M17 (fun _ M19 =>
    B_F_castIntoAnswer_108 post ex x2 M19))))) ∧
    (¬ r10 = 0 → P_F_castFloating (mg_R M11 v1) x2 M11 (fun _ M21 =>
    B_F_castIntoAnswer_108 post ex x2 M21) ex))))
/-- NumberForge.cast(III)V -/
def P_F_cast (x1 : Int32) (x2 : Int32) (x3 : Int32) (M : nf_M) (post : Unit → nf_M → Prop) (ex : Nat → nf_M → Prop) : Prop :=
 P_F_register x3 M (fun r1 M2 =>
    P_F_register x1 M2 (fun r3 M4 =>
    P_F_checkIndex x2 (10 : Int32) M4 (fun _ M6 =>
    P_F_checkFull r3 M6 (fun _ M8 =>
    P_F_castIntoAnswer r3 x2 M8 (fun _ M10 =>
    P_V_become r1 (0 : Fin 9) M10 (fun _ M12 =>
    post () M12)) ex) ex) ex) ex) ex
/-- NumberForge.order(DD)I -/
def B_F_order_21 (post : Int32 → nf_M → Prop) (xy0 : Int32) (M : nf_M) : Prop :=
 post xy0 M
def P_F_order (x0 : UInt64) (x2 : UInt64) (M : nf_M) (post : Int32 → nf_M → Prop) : Prop :=
 (nf_dlt x0 x2 → B_F_order_21 post (-1 : Int32) M) ∧
    (¬ nf_dlt x0 x2 → (nf_dgt x0 x2 → B_F_order_21 post (1 : Int32) M) ∧
    (¬ nf_dgt x0 x2 → B_F_order_21 post (0 : Int32) M))
/-- java/lang/Long.compare(JJ)I -/
def B_JL_compare_21 (post : Int32 → nf_M → Prop) (xy0 : Int32) (M : nf_M) : Prop :=
 post xy0 M
def P_JL_compare (x0 : Int64) (x2 : Int64) (M : nf_M) (post : Int32 → nf_M → Prop) : Prop :=
 (x0 < x2 → B_JL_compare_21 post (-1 : Int32) M) ∧
    (¬ x0 < x2 → (x0 = x2 → B_JL_compare_21 post (0 : Int32) M) ∧
    (¬ x0 = x2 → B_JL_compare_21 post (1 : Int32) M))
/-- NumberForge.fraction(LNumberForge$Value;)J -/
def P_F_fraction (v0 : Fin 9) (M : nf_M) (post : Int64 → nf_M → Prop) : Prop :=
 P_F_power (mg_S M v0) M (fun r1 M2 =>
    P_F_left (mg_U M v0) r1 M2 (fun r3 M4 =>
    P_F_power ((6 : Int32) - (mg_S M4 v0)) M4 (fun r5 M6 =>
    post (r3 * r5) M6)))
/-- NumberForge.exactOrder(LNumberForge$Value;LNumberForge$Value;)I -/
def B_F_exactOrder_51 (post : Int32 → nf_M → Prop) (xy0 : Int32) (M : nf_M) : Prop :=
 post xy0 M
def P_F_exactOrder (v0 : Fin 9) (v1 : Fin 9) (M : nf_M) (post : Int32 → nf_M → Prop) : Prop :=
 P_F_power (mg_S M v0) M (fun r1 M2 =>
    P_F_over (mg_U M v0) r1 M2 (fun r3 M4 =>
    P_F_power (mg_S M4 v1) M4 (fun r5 M6 =>
    P_F_over (mg_U M4 v1) r5 M6 (fun r7 M8 =>
    P_JL_compare r3 r7 M8 (fun r9 M10 =>
    (r9 = 0 → P_F_fraction v0 M10 (fun r11 M12 =>
    P_F_fraction v1 M12 (fun r13 M14 =>
    P_JL_compare r11 r13 M14 (fun r15 M16 =>
    B_F_exactOrder_51 post r15 M16)))) ∧
    (¬ r9 = 0 → B_F_exactOrder_51 post r9 M10))))))
/-- NumberForge.compare(II)I -/
def B_F_compare_41 (post : Int32 → nf_M → Prop) (ex : Nat → nf_M → Prop) (v3 : Fin 9) (v4 : Fin 9) (M : nf_M) : Prop :=
 P_V_asDouble v3 M (fun r1 M2 =>
    P_V_asDouble v4 M2 (fun r3 M4 =>
    P_F_order r1 r3 M4 (fun r5 M6 =>
    post r5 M6)))
def B_F_compare_73 (post : Int32 → nf_M → Prop) (ex : Nat → nf_M → Prop) (v3 : Fin 9) (v4 : Fin 9) (M : nf_M) : Prop :=
 P_V_asFloat v3 M (fun r1 M2 =>
    (vf_n64 (FP.f2d r1)) ∧
    (P_V_asFloat v4 M2 (fun r4 M5 =>
    (vf_n64 (FP.f2d r4)) ∧
    (P_F_order (FP.f2d r1) (FP.f2d r4) M5 (fun r7 M8 =>
    post r7 M8)))))
def P_F_compare (x1 : Int32) (x2 : Int32) (M : nf_M) (post : Int32 → nf_M → Prop) (ex : Nat → nf_M → Prop) : Prop :=
 P_F_register x1 M (fun r1 M2 =>
    P_F_register x2 M2 (fun r3 M4 =>
    P_F_checkFull r1 M4 (fun _ M6 =>
    P_F_checkFull r3 M6 (fun _ M8 =>
    ((mg_T M8 r1) = (9 : Int32) → B_F_compare_41 post ex r1 r3 M8) ∧
    (¬ (mg_T M8 r1) = (9 : Int32) → ((mg_T M8 r3) = (9 : Int32) → B_F_compare_41 post ex r1 r3 M8) ∧
    (¬ (mg_T M8 r3) = (9 : Int32) → ((mg_T M8 r1) = (8 : Int32) → B_F_compare_73 post ex r1 r3 M8) ∧
    (¬ (mg_T M8 r1) = (8 : Int32) → ((mg_T M8 r3) = (8 : Int32) → B_F_compare_73 post ex r1 r3 M8) ∧
    (¬ (mg_T M8 r3) = (8 : Int32) → P_F_exactOrder r1 r3 M8 (fun r9 M10 =>
    post r9 M10)))))) ex) ex) ex) ex
/-- NumberForge.real(I)D -/
def P_F_real (x1 : Int32) (M : nf_M) (post : UInt64 → nf_M → Prop) (ex : Nat → nf_M → Prop) : Prop :=
 P_F_register x1 M (fun r1 M2 =>
    P_F_checkFull r1 M2 (fun _ M4 =>
    P_V_asDouble r1 M4 (fun r5 M6 =>
    post r5 M6)) ex) ex
/-- NumberForge.isMinusZero(D)Z -/
def B_F_isMinusZero_19 (post : Int32 → nf_M → Prop) (xy0 : Int32) (M : nf_M) : Prop :=
 (narrow .boolean (.int xy0) = .int xy0) ∧ post xy0 M
def B_F_isMinusZero_18 (post : Int32 → nf_M → Prop) (M : nf_M) : Prop :=
 B_F_isMinusZero_19 post (0 : Int32) M
def P_F_isMinusZero (x0 : UInt64) (M : nf_M) (post : Int32 → nf_M → Prop) : Prop :=
 (nf_deq x0 (FP.dconst0) → (vf_n64 (FP.ddiv (FP.dconst1) x0)) ∧
    ((nf_dlt (FP.ddiv (FP.dconst1) x0) (FP.dconst0) → B_F_isMinusZero_19 post (1 : Int32) M) ∧
    (¬ nf_dlt (FP.ddiv (FP.dconst1) x0) (FP.dconst0) → B_F_isMinusZero_18 post  M))) ∧
    (¬ nf_deq x0 (FP.dconst0) → B_F_isMinusZero_18 post  M)
/-- NumberForge$Row.addText(Ljava/lang/String;)V -/
def B_R_addText_2 (post : Unit → nf_M → Prop) : Nat → Bool → Fin 5 → Int32 → nf_M → Prop
  | 0, _, _, _, _ => False
  | n + 1, b0, q1, x2, M =>
    P_JS_length q1 M (fun r1 M2 =>
    (x2 < r1 → P_JS_charAt q1 x2 M2 (fun r3 M4 =>
    P_R_add b0 r3 M4 (fun _ M6 =>
    B_R_addText_2 post n b0 q1 (x2 + (1 : Int32)) M6))) ∧
    (¬ x2 < r1 → post () M2))
def P_R_addText (b0 : Bool) (q1 : Fin 5) (M : nf_M) (post : Unit → nf_M → Prop) : Prop :=
 ∃ n9 : Nat, B_R_addText_2 post n9 b0 q1 (0 : Int32) M
/-- NumberForge$Digits.leadingPower(D)I -/
def B_D_leadingPower_25 (post : Int32 → nf_M → Prop) (x2 : Int32) (M : nf_M) : Prop :=
 post x2 M
def B_D_leadingPower_3 (post : Int32 → nf_M → Prop) : Nat → UInt64 → Int32 → nf_M → Prop
  | 0, _, _, _ => False
  | n + 1, x0, x2, M =>
    ((-8 : Int32) < x2 → P_F_timesTen (FP.dconst1) x2 M (fun r1 M2 =>
    (nf_dgt r1 x0 → B_D_leadingPower_3 post n x0 (x2 + (-1 : Int32)) M2) ∧
    (¬ nf_dgt r1 x0 → B_D_leadingPower_25 post x2 M2))) ∧
    (¬ (-8 : Int32) < x2 → B_D_leadingPower_25 post x2 M)
def P_D_leadingPower (x0 : UInt64) (M : nf_M) (post : Int32 → nf_M → Prop) : Prop :=
 ∃ n9 : Nat, B_D_leadingPower_3 post n9 x0 (14 : Int32) M
/-- NumberForge$Digits.dropZeros()V -/
def B_D_dropZeros_60 (post : Unit → nf_M → Prop) (M : nf_M) : Prop :=
 post () M
def B_D_dropZeros_2 (post : Unit → nf_M → Prop) : Nat → Int32 → nf_M → Prop
  | 0, _, _ => False
  | n + 1, x1, M =>
    (x1 < (16 : Int32) → ((0 : Int64) < (mg_L M 8 0) → (((mg_L M 8 0) - (mg_L M 8 0) / (10 : Int64) * (10 : Int64)) = (0 : Int64) → ∀ t1 : Int64, t1 = (mg_L M 8 0) / (10 : Int64) → (∀ M2 : nf_M, M2 = ms_L M 8 0 t1 → (∀ t3 : Int32, t3 = (mg_I M2 8 1) + (1 : Int32) → (∀ M4 : nf_M, M4 = ms_I M2 8 1 t3 → (B_D_dropZeros_2 post n (x1 + (1 : Int32)) M4))))) ∧
    (¬ ((mg_L M 8 0) - (mg_L M 8 0) / (10 : Int64) * (10 : Int64)) = (0 : Int64) → B_D_dropZeros_60 post  M)) ∧
    (¬ (0 : Int64) < (mg_L M 8 0) → B_D_dropZeros_60 post  M)) ∧
    (¬ x1 < (16 : Int32) → B_D_dropZeros_60 post  M)
def P_D_dropZeros (M : nf_M) (post : Unit → nf_M → Prop) : Prop :=
 ∃ n9 : Nat, B_D_dropZeros_2 post n9 (0 : Int32) M
/-- NumberForge$Digits.find(DZ)V -/
def B_D_find_22 (post : Unit → nf_M → Prop) (ex : Nat → nf_M → Prop) (M : nf_M) : Prop :=
 ex 4 M
def B_D_find_133 (k57 : UInt64 → Int32 → Int32 → Int32 → Int32 → Int32 → nf_M → Prop) (post : Unit → nf_M → Prop) (ex : Nat → nf_M → Prop) (x1 : UInt64) (x3 : Int32) (x4 : Int32) (x5 : Int32) (x7 : Int32) (xy0 : Int32) (M : nf_M) : Prop :=
 k57 x1 x3 x4 x5 xy0 (x7 + (1 : Int32)) M
def B_D_find_123 (k57 : UInt64 → Int32 → Int32 → Int32 → Int32 → Int32 → nf_M → Prop) (post : Unit → nf_M → Prop) (ex : Nat → nf_M → Prop) (x1 : UInt64) (x3 : Int32) (x4 : Int32) (x5 : Int32) (x7 : Int32) (xy0 : UInt64) (M : nf_M) : Prop :=
 (nf_deq xy0 x1 → B_D_find_133 k57 post ex x1 x3 x4 x5 x7 (1 : Int32) M) ∧
    (¬ nf_deq xy0 x1 → B_D_find_133 k57 post ex x1 x3 x4 x5 x7 (0 : Int32) M)
def B_D_find_141 (post : Unit → nf_M → Prop) (ex : Nat → nf_M → Prop) (M : nf_M) : Prop :=
 P_D_dropZeros  M (fun _ M2 =>
    post () M2)
def B_D_find_57 (post : Unit → nf_M → Prop) (ex : Nat → nf_M → Prop) : Nat → UInt64 → Int32 → Int32 → Int32 → Int32 → Int32 → nf_M → Prop
  | 0, _, _, _, _, _, _, _ => False
  | n + 1, x1, x3, x4, x5, x6, x7, M =>
    (x5 < x7 → B_D_find_141 post ex  M) ∧
    (¬ x5 < x7 → (x6 = 0 → ∀ t1 : Int32, t1 = (x4 - x7) + (1 : Int32) → (∀ M2 : nf_M, M2 = ms_I M 8 1 t1 → (P_F_timesTen x1 (-(mg_I M2 8 1)) M2 (fun r3 M4 =>
    P_F_nearestEven r3 M4 (fun r5 M6 =>
    ∀ M7 : nf_M, M7 = ms_L M6 8 0 r5 → (P_F_timesTen (FP.l2d (mg_L M7 8 0)) (mg_I M7 8 1) M7 (fun r8 M9 =>
    (x3 = 0 → B_D_find_123 (fun x1 x3 x4 x5 x6 x7 z => B_D_find_57 post ex n x1 x3 x4 x5 x6 x7 z) post ex x1 x3 x4 x5 x7 r8 M9) ∧
    (¬ x3 = 0 → (vf_n32 (FP.d2f r8)) ∧
    ((vf_n64 (FP.f2d (FP.d2f r8))) ∧
    (B_D_find_123 (fun x1 x3 x4 x5 x6 x7 z => B_D_find_57 post ex n x1 x3 x4 x5 x6 x7 z) post ex x1 x3 x4 x5 x7 (FP.f2d (FP.d2f r8)) M9)))))))))) ∧
    (¬ x6 = 0 → B_D_find_141 post ex  M))
def B_D_find_49 (post : Unit → nf_M → Prop) (ex : Nat → nf_M → Prop) (x1 : UInt64) (x3 : Int32) (x4 : Int32) (xy0 : Int32) (M : nf_M) : Prop :=
 ∃ n9 : Nat, B_D_find_57 post ex n9 x1 x3 x4 xy0 (0 : Int32) (1 : Int32) M
def P_D_find (x1 : UInt64) (x3 : Int32) (M : nf_M) (post : Unit → nf_M → Prop) (ex : Nat → nf_M → Prop) : Prop :=
 P_F_ten (8 : Int32) M (fun r1 M2 =>
    (vf_n64 (FP.ddiv (FP.dconst1) r1)) ∧
    ((nf_dlt x1 (FP.ddiv (FP.dconst1) r1) → B_D_find_22 post ex  M2) ∧
    (¬ nf_dlt x1 (FP.ddiv (FP.dconst1) r1) → P_F_ten (15 : Int32) M2 (fun r4 M5 =>
    (nf_dge x1 r4 → B_D_find_22 post ex  M5) ∧
    (¬ nf_dge x1 r4 → P_D_leadingPower x1 M5 (fun r6 M7 =>
    (x3 = 0 → B_D_find_49 post ex x1 x3 r6 (15 : Int32) M7) ∧
    (¬ x3 = 0 → B_D_find_49 post ex x1 x3 r6 (8 : Int32) M7)))))))
/-- NumberForge.digitCount(J)I -/
def B_F_digitCount_26 (post : Int32 → nf_M → Prop) (x2 : Int32) (M : nf_M) : Prop :=
 post x2 M
def B_F_digitCount_2 (post : Int32 → nf_M → Prop) : Nat → Int64 → Int32 → nf_M → Prop
  | 0, _, _, _ => False
  | n + 1, x0, x2, M =>
    (x2 < (16 : Int32) → (vp_in x2 16) ∧
    ((x0 < (nf_POW.getD x2.toNatClampNeg 0) → B_F_digitCount_26 post x2 M) ∧
    (¬ x0 < (nf_POW.getD x2.toNatClampNeg 0) → B_F_digitCount_2 post n x0 (x2 + (1 : Int32)) M))) ∧
    (¬ x2 < (16 : Int32) → B_F_digitCount_26 post x2 M)
def P_F_digitCount (x0 : Int64) (M : nf_M) (post : Int32 → nf_M → Prop) : Prop :=
 ∃ n9 : Nat, B_F_digitCount_2 post n9 x0 (1 : Int32) M
/-- NumberForge.digitAt(JI)C -/
def B_F_digitAt_27 (post : Int32 → nf_M → Prop) (xy0 : Int64) (xy1 : Int64) (M : nf_M) : Prop :=
 (narrow .char (.int ((((xy1 + xy0).toInt32).toUInt32 % 65536).toInt32)) = .int ((((xy1 + xy0).toInt32).toUInt32 % 65536).toInt32)) ∧ post ((((xy1 + xy0).toInt32).toUInt32 % 65536).toInt32) M
def P_F_digitAt (x0 : Int64) (x2 : Int32) (M : nf_M) (post : Int32 → nf_M → Prop) : Prop :=
 (x2 < (16 : Int32) → P_F_power x2 M (fun r1 M2 =>
    P_F_over x0 r1 M2 (fun r3 M4 =>
    B_F_digitAt_27 post (r3 - r3 / (10 : Int64) * (10 : Int64)) (48 : Int64) M4))) ∧
    (¬ x2 < (16 : Int32) → B_F_digitAt_27 post (0 : Int64) (48 : Int64) M)
/-- NumberForge$Row.addNumber(JI)V -/
def B_R_addNumber_43 (k12 : Bool → Int64 → Int32 → Int32 → nf_M → Prop) (post : Unit → nf_M → Prop) (b0 : Bool) (x1 : Int64) (x3 : Int32) (x4 : Int32) (M : nf_M) : Prop :=
 k12 b0 x1 x3 (x4 + (-1 : Int32)) M
def B_R_addNumber_12 (post : Unit → nf_M → Prop) : Nat → Bool → Int64 → Int32 → Int32 → nf_M → Prop
  | 0, _, _, _, _, _ => False
  | n + 1, b0, x1, x3, x4, M =>
    (x4 < 0 → post () M) ∧
    (¬ x4 < 0 → P_F_digitAt x1 x4 M (fun r1 M2 =>
    P_R_add b0 r1 M2 (fun _ M4 =>
    (x4 = x3 → (0 < x3 → P_R_add b0 (46 : Int32) M4 (fun _ M6 =>
    B_R_addNumber_43 (fun b0 x1 x3 x4 z => B_R_addNumber_12 post n b0 x1 x3 x4 z) post b0 x1 x3 x4 M6)) ∧
    (¬ 0 < x3 → B_R_addNumber_43 (fun b0 x1 x3 x4 z => B_R_addNumber_12 post n b0 x1 x3 x4 z) post b0 x1 x3 x4 M4)) ∧
    (¬ x4 = x3 → B_R_addNumber_43 (fun b0 x1 x3 x4 z => B_R_addNumber_12 post n b0 x1 x3 x4 z) post b0 x1 x3 x4 M4))))
def P_R_addNumber (b0 : Bool) (x1 : Int64) (x3 : Int32) (M : nf_M) (post : Unit → nf_M → Prop) : Prop :=
 P_F_digitCount x1 M (fun r1 M2 =>
    P_JM_max (r1 - (1 : Int32)) x3 M2 (fun r3 M4 =>
    ∃ n9 : Nat, B_R_addNumber_12 post n9 b0 x1 x3 r3 M4))
/-- NumberForge.writeWithPower()V -/
def B_F_writeWithPower_117 (post : Unit → nf_M → Prop) (x2 : Int32) (M : nf_M) : Prop :=
 P_JM_abs_II x2 M (fun r1 M2 =>
    P_R_addNumber true (r1.toInt64) (0 : Int32) M2 (fun _ M4 =>
    post () M4))
def B_F_writeWithPower_57 (post : Unit → nf_M → Prop) : Nat → Int32 → Int32 → nf_M → Prop
  | 0, _, _, _ => False
  | n + 1, x1, x2, M =>
    (x2 < 0 → P_R_add true (69 : Int32) M (fun _ M2 =>
    ∀ t3 : Int32, t3 = (mg_I M2 8 1) + x1 → ((t3 < 0 → P_R_add true (45 : Int32) M2 (fun _ M5 =>
    B_F_writeWithPower_117 post t3 M5)) ∧
    (¬ t3 < 0 → B_F_writeWithPower_117 post t3 M2)))) ∧
    (¬ x2 < 0 → P_F_digitAt (mg_L M 8 0) x2 M (fun r6 M7 =>
    P_R_add true r6 M7 (fun _ M9 =>
    B_F_writeWithPower_57 post n x1 (x2 + (-1 : Int32)) M9)))
def B_F_writeWithPower_53 (post : Unit → nf_M → Prop) (x1 : Int32) (M : nf_M) : Prop :=
 ∀ t1 : Int32, t1 = x1 - (1 : Int32) → (∃ n9 : Nat, B_F_writeWithPower_57 post n9 x1 t1 M)
def P_F_writeWithPower (M : nf_M) (post : Unit → nf_M → Prop) : Prop :=
 P_F_digitCount (mg_L M 8 0) M (fun r1 M2 =>
    ∀ t3 : Int32, t3 = r1 - (1 : Int32) → (P_F_digitAt (mg_L M2 8 0) t3 M2 (fun r4 M5 =>
    P_R_add true r4 M5 (fun _ M7 =>
    P_R_add true (46 : Int32) M7 (fun _ M9 =>
    (t3 = 0 → P_R_add true (48 : Int32) M9 (fun _ M11 =>
    B_F_writeWithPower_53 post t3 M11)) ∧
    (¬ t3 = 0 → B_F_writeWithPower_53 post t3 M9))))))
/-- NumberForge.writeFloating(LNumberForge$Value;)V -/
def B_F_writeFloating_69 (post : Unit → nf_M → Prop) (ex : Nat → nf_M → Prop) (qy0 : Fin 5) (by1 : Bool) (M : nf_M) : Prop :=
 P_R_addText by1 qy0 M (fun _ M2 =>
    post () M2)
def B_F_writeFloating_18 (post : Unit → nf_M → Prop) (ex : Nat → nf_M → Prop) (x2 : UInt64) (M : nf_M) : Prop :=
 P_R_clear true M (fun _ M2 =>
    (nf_deq x2 (FP.dconst0) → P_F_isMinusZero x2 M2 (fun r3 M4 =>
    (r3 = 0 → B_F_writeFloating_69 post ex (1 : Fin 5) true M4) ∧
    (¬ r3 = 0 → B_F_writeFloating_69 post ex (0 : Fin 5) true M4))) ∧
    (¬ nf_deq x2 (FP.dconst0) → (nf_dlt x2 (FP.dconst0) → B_F_writeFloating_69 post ex (2 : Fin 5) true M2) ∧
    (¬ nf_dlt x2 (FP.dconst0) → B_F_writeFloating_69 post ex (3 : Fin 5) true M2)))
def B_F_writeFloating_196 (post : Unit → nf_M → Prop) (ex : Nat → nf_M → Prop) (M : nf_M) : Prop :=
 post () M
def B_F_writeFloating_192 (post : Unit → nf_M → Prop) (ex : Nat → nf_M → Prop) (M : nf_M) : Prop :=
 P_F_writeWithPower  M (fun _ M2 =>
    B_F_writeFloating_196 post ex  M2)
def B_F_writeFloating_124 (post : Unit → nf_M → Prop) (ex : Nat → nf_M → Prop) (x4 : UInt64) (M : nf_M) : Prop :=
 P_F_ten (6 : Int32) M (fun r1 M2 =>
    (vf_n64 (FP.ddiv (FP.dconst1) r1)) ∧
    ((nf_dge x4 (FP.ddiv (FP.dconst1) r1) → P_F_ten (6 : Int32) M2 (fun r4 M5 =>
    (nf_dlt x4 r4 → P_JM_max (mg_I M5 8 1) (0 : Int32) M5 (fun r6 M7 =>
    P_F_power r6 M7 (fun r8 M9 =>
    P_JM_max (-(mg_I M9 8 1)) (0 : Int32) M9 (fun r10 M11 =>
    P_R_addNumber true ((mg_L M5 8 0) * r8) r10 M11 (fun _ M13 =>
    B_F_writeFloating_196 post ex  M13))))) ∧
    (¬ nf_dlt x4 r4 → B_F_writeFloating_192 post ex  M5))) ∧
    (¬ nf_dge x4 (FP.ddiv (FP.dconst1) r1) → B_F_writeFloating_192 post ex  M2)))
def B_F_writeFloating_99 (post : Unit → nf_M → Prop) (ex : Nat → nf_M → Prop) (x2 : UInt64) (x4 : UInt64) (xy0 : Int32) (xy1 : UInt64) (M : nf_M) : Prop :=
 P_D_find xy1 xy0 M (fun _ M2 =>
    P_R_clear true M2 (fun _ M4 =>
    (nf_dlt x2 (FP.dconst0) → P_R_add true (45 : Int32) M4 (fun _ M6 =>
    B_F_writeFloating_124 post ex x4 M6)) ∧
    (¬ nf_dlt x2 (FP.dconst0) → B_F_writeFloating_124 post ex x4 M4))) ex
def P_F_writeFloating (v1 : Fin 9) (M : nf_M) (post : Unit → nf_M → Prop) (ex : Nat → nf_M → Prop) : Prop :=
 ∀ t1 : UInt64, t1 = mg_R M v1 → (P_F_isInfinite t1 M (fun r2 M3 =>
    (r2 = 0 → (nf_deq t1 (FP.dconst0) → B_F_writeFloating_18 post ex t1 M3) ∧
    (¬ nf_deq t1 (FP.dconst0) → P_F_amount t1 M3 (fun r4 M5 =>
    ((mg_T M5 v1) = (8 : Int32) → B_F_writeFloating_99 post ex t1 r4 (1 : Int32) r4 M5) ∧
    (¬ (mg_T M5 v1) = (8 : Int32) → B_F_writeFloating_99 post ex t1 r4 (0 : Int32) r4 M5)))) ∧
    (¬ r2 = 0 → B_F_writeFloating_18 post ex t1 M3)))
/-- NumberForge.writeUnits(LNumberForge$Value;)V -/
def B_F_writeUnits_25 (post : Unit → nf_M → Prop) (v1 : Fin 9) (M : nf_M) : Prop :=
 P_JM_abs_JJ (mg_U M v1) M (fun r1 M2 =>
    P_R_addNumber true r1 (mg_S M2 v1) M2 (fun _ M4 =>
    post () M4))
def P_F_writeUnits (v1 : Fin 9) (M : nf_M) (post : Unit → nf_M → Prop) : Prop :=
 P_R_clear true M (fun _ M2 =>
    ((mg_U M2 v1) < (0 : Int64) → P_R_add true (45 : Int32) M2 (fun _ M4 =>
    B_F_writeUnits_25 post v1 M4)) ∧
    (¬ (mg_U M2 v1) < (0 : Int64) → B_F_writeUnits_25 post v1 M2))
/-- NumberForge.write(I)I -/
def B_F_write_30 (post : Int32 → nf_M → Prop) (ex : Nat → nf_M → Prop) (M : nf_M) : Prop :=
 post (mg_N M true) M
def P_F_write (x1 : Int32) (M : nf_M) (post : Int32 → nf_M → Prop) (ex : Nat → nf_M → Prop) : Prop :=
 P_F_register x1 M (fun r1 M2 =>
    P_F_checkFull r1 M2 (fun _ M4 =>
    P_V_isFloating r1 M4 (fun r5 M6 =>
    (r5 = 0 → P_F_writeUnits r1 M6 (fun _ M8 =>
    B_F_write_30 post ex  M8)) ∧
    (¬ r5 = 0 → P_F_writeFloating r1 M6 (fun _ M10 =>
    B_F_write_30 post ex  M10) ex))) ex) ex
/-- NumberForge$Picture.isMark(C)Z -/
def B_P_isMark_29 (post : Int32 → nf_M → Prop) (xy0 : Int32) (M : nf_M) : Prop :=
 (narrow .boolean (.int xy0) = .int xy0) ∧ post xy0 M
def B_P_isMark_24 (post : Int32 → nf_M → Prop) (M : nf_M) : Prop :=
 B_P_isMark_29 post (1 : Int32) M
def P_P_isMark (x0 : Int32) (M : nf_M) (post : Int32 → nf_M → Prop) : Prop :=
 (x0 = (35 : Int32) → B_P_isMark_24 post  M) ∧
    (¬ x0 = (35 : Int32) → (x0 = (48 : Int32) → B_P_isMark_24 post  M) ∧
    (¬ x0 = (48 : Int32) → (x0 = (44 : Int32) → B_P_isMark_24 post  M) ∧
    (¬ x0 = (44 : Int32) → (x0 = (46 : Int32) → B_P_isMark_24 post  M) ∧
    (¬ x0 = (46 : Int32) → B_P_isMark_29 post (0 : Int32) M))))
/-- NumberForge$Picture.endOfHead(LNumberForge$Row;)I -/
def B_P_endOfHead_37 (post : Int32 → nf_M → Prop) (x1 : Int32) (M : nf_M) : Prop :=
 post x1 M
def B_P_endOfHead_2 (post : Int32 → nf_M → Prop) : Nat → Bool → Int32 → nf_M → Prop
  | 0, _, _, _ => False
  | n + 1, b0, x1, M =>
    (x1 < (mg_N M b0) → P_R_at b0 x1 M (fun r1 M2 =>
    P_P_isMark r1 M2 (fun r3 M4 =>
    (r3 = 0 → P_R_at b0 x1 M4 (fun r5 M6 =>
    (r5 = (37 : Int32) → B_P_endOfHead_37 post x1 M6) ∧
    (¬ r5 = (37 : Int32) → B_P_endOfHead_2 post n b0 (x1 + (1 : Int32)) M6))) ∧
    (¬ r3 = 0 → B_P_endOfHead_37 post x1 M4)))) ∧
    (¬ x1 < (mg_N M b0) → B_P_endOfHead_37 post x1 M)
def P_P_endOfHead (b0 : Bool) (M : nf_M) (post : Int32 → nf_M → Prop) : Prop :=
 ∃ n9 : Nat, B_P_endOfHead_2 post n9 b0 (0 : Int32) M
/-- NumberForge$Picture.isWholeMark(C)Z -/
def B_P_isWholeMark_30 (post : Int32 → nf_M → Prop) (xy0 : Int32) (M : nf_M) : Prop :=
 (narrow .boolean (.int xy0) = .int xy0) ∧ post xy0 M
def B_P_isWholeMark_25 (post : Int32 → nf_M → Prop) (M : nf_M) : Prop :=
 B_P_isWholeMark_30 post (1 : Int32) M
def B_P_isWholeMark_29 (post : Int32 → nf_M → Prop) (M : nf_M) : Prop :=
 B_P_isWholeMark_30 post (0 : Int32) M
def P_P_isWholeMark (x1 : Int32) (M : nf_M) (post : Int32 → nf_M → Prop) : Prop :=
 (x1 = (44 : Int32) → B_P_isWholeMark_25 post  M) ∧
    (¬ x1 = (44 : Int32) → (x1 = (48 : Int32) → B_P_isWholeMark_25 post  M) ∧
    (¬ x1 = (48 : Int32) → (x1 = (35 : Int32) → ((mg_I M 7 3) = 0 → B_P_isWholeMark_25 post  M) ∧
    (¬ (mg_I M 7 3) = 0 → B_P_isWholeMark_29 post  M)) ∧
    (¬ x1 = (35 : Int32) → B_P_isWholeMark_29 post  M)))
/-- NumberForge$Picture.parseWhole(LNumberForge$Row;)I -/
def B_P_parseWhole_118 (k25 : Bool → Int32 → Int32 → Int32 → nf_M → Prop) (post : Int32 → nf_M → Prop) (b1 : Bool) (x2 : Int32) (x3 : Int32) (x4 : Int32) (M : nf_M) : Prop :=
 k25 b1 x2 x3 (x4 + (1 : Int32)) M
def B_P_parseWhole_114 (k25 : Bool → Int32 → Int32 → Int32 → nf_M → Prop) (post : Int32 → nf_M → Prop) (b1 : Bool) (x2 : Int32) (x3 : Int32) (x4 : Int32) (xy0 : Int32) (xy1 : Int32) (M : nf_M) : Prop :=
 ∀ t1 : Int32, t1 = xy1 + xy0 → (∀ M2 : nf_M, M2 = ms_I M 7 3 t1 → (B_P_parseWhole_118 k25 post b1 x2 x3 x4 M2))
def B_P_parseWhole_89 (k25 : Bool → Int32 → Int32 → Int32 → nf_M → Prop) (post : Int32 → nf_M → Prop) (b1 : Bool) (x2 : Int32) (x3 : Int32) (x4 : Int32) (xy0 : Int32) (xy1 : Int32) (M : nf_M) : Prop :=
 ∀ t1 : Int32, t1 = xy1 + xy0 → (∀ M2 : nf_M, M2 = ms_I M 7 2 t1 → (P_R_at b1 x4 M2 (fun r3 M4 =>
    (r3 = (48 : Int32) → B_P_parseWhole_114 k25 post b1 x2 x3 x4 (1 : Int32) (mg_I M2 7 3) M4) ∧
    (¬ r3 = (48 : Int32) → B_P_parseWhole_114 k25 post b1 x2 x3 x4 (0 : Int32) (mg_I M2 7 3) M4))))
def B_P_parseWhole_134 (post : Int32 → nf_M → Prop) (x4 : Int32) (xy0 : Int32) (M : nf_M) : Prop :=
 ∀ M1 : nf_M, M1 = ms_I M 7 4 xy0 → (post x4 M1)
def B_P_parseWhole_124 (post : Int32 → nf_M → Prop) (x2 : Int32) (x3 : Int32) (x4 : Int32) (M : nf_M) : Prop :=
 (x3 = 0 → B_P_parseWhole_134 post x4 (0 : Int32) M) ∧
    (¬ x3 = 0 → B_P_parseWhole_134 post x4 x2 M)
def B_P_parseWhole_25 (post : Int32 → nf_M → Prop) : Nat → Bool → Int32 → Int32 → Int32 → nf_M → Prop
  | 0, _, _, _, _, _ => False
  | n + 1, b1, x2, x3, x4, M =>
    (x4 < (mg_N M b1) → P_R_at b1 x4 M (fun r1 M2 =>
    P_P_isWholeMark r1 M2 (fun r3 M4 =>
    (r3 = 0 → B_P_parseWhole_124 post x2 x3 x4 M4) ∧
    (¬ r3 = 0 → P_R_at b1 x4 M4 (fun r5 M6 =>
    (r5 = (44 : Int32) → B_P_parseWhole_118 (fun b1 x2 x3 x4 z => B_P_parseWhole_25 post n b1 x2 x3 x4 z) post b1 (0 : Int32) (1 : Int32) x4 M6) ∧
    (¬ r5 = (44 : Int32) → P_R_at b1 x4 M6 (fun r7 M8 =>
    (r7 = (35 : Int32) → B_P_parseWhole_89 (fun b1 x2 x3 x4 z => B_P_parseWhole_25 post n b1 x2 x3 x4 z) post b1 (x2 + (1 : Int32)) x3 x4 (1 : Int32) (mg_I M6 7 2) M8) ∧
    (¬ r7 = (35 : Int32) → B_P_parseWhole_89 (fun b1 x2 x3 x4 z => B_P_parseWhole_25 post n b1 x2 x3 x4 z) post b1 (x2 + (1 : Int32)) x3 x4 (0 : Int32) (mg_I M6 7 2) M8)))))))) ∧
    (¬ x4 < (mg_N M b1) → B_P_parseWhole_124 post x2 x3 x4 M)
def P_P_parseWhole (b1 : Bool) (M : nf_M) (post : Int32 → nf_M → Prop) : Prop :=
 ∀ M1 : nf_M, M1 = ms_I M 7 2 (0 : Int32) → (∀ M2 : nf_M, M2 = ms_I M1 7 3 (0 : Int32) → (∀ M3 : nf_M, M3 = ms_I M2 7 4 (0 : Int32) → (∀ t4 : Int32, t4 = mg_I M3 7 0 → (∃ n9 : Nat, B_P_parseWhole_25 post n9 b1 (0 : Int32) (0 : Int32) t4 M3))))
/-- NumberForge$Picture.countOf(LNumberForge$Row;CI)I -/
def B_P_countOf_27 (post : Int32 → nf_M → Prop) (x3 : Int32) (M : nf_M) : Prop :=
 post x3 M
def B_P_countOf_2 (post : Int32 → nf_M → Prop) : Nat → Bool → Int32 → Int32 → Int32 → nf_M → Prop
  | 0, _, _, _, _, _ => False
  | n + 1, b0, x1, x2, x3, M =>
    (x3 < (mg_N M b0) → P_R_at b0 (x2 + x3) M (fun r1 M2 =>
    (r1 = x1 → B_P_countOf_2 post n b0 x1 x2 (x3 + (1 : Int32)) M2) ∧
    (¬ r1 = x1 → B_P_countOf_27 post x3 M2))) ∧
    (¬ x3 < (mg_N M b0) → B_P_countOf_27 post x3 M)
def P_P_countOf (b0 : Bool) (x1 : Int32) (x2 : Int32) (M : nf_M) (post : Int32 → nf_M → Prop) : Prop :=
 ∃ n9 : Nat, B_P_countOf_2 post n9 b0 x1 x2 (0 : Int32) M
/-- NumberForge$Picture.isDigitMark(LNumberForge$Row;I)Z -/
def B_P_isDigitMark_25 (post : Int32 → nf_M → Prop) (xy0 : Int32) (M : nf_M) : Prop :=
 (narrow .boolean (.int xy0) = .int xy0) ∧ post xy0 M
def B_P_isDigitMark_20 (post : Int32 → nf_M → Prop) (M : nf_M) : Prop :=
 B_P_isDigitMark_25 post (1 : Int32) M
def P_P_isDigitMark (b0 : Bool) (x1 : Int32) (M : nf_M) (post : Int32 → nf_M → Prop) : Prop :=
 P_R_at b0 x1 M (fun r1 M2 =>
    (r1 = (35 : Int32) → B_P_isDigitMark_20 post  M2) ∧
    (¬ r1 = (35 : Int32) → P_R_at b0 x1 M2 (fun r3 M4 =>
    (r3 = (48 : Int32) → B_P_isDigitMark_20 post  M4) ∧
    (¬ r3 = (48 : Int32) → B_P_isDigitMark_25 post (0 : Int32) M4))))
/-- NumberForge$Picture.haveCommasDigits(LNumberForge$Row;I)Z -/
def B_P_haveCommasDigits_40 (post : Int32 → nf_M → Prop) (M : nf_M) : Prop :=
 post (0 : Int32) M
def B_P_haveCommasDigits_42 (k5 : Bool → Int32 → Int32 → nf_M → Prop) (post : Int32 → nf_M → Prop) (b1 : Bool) (x2 : Int32) (x3 : Int32) (M : nf_M) : Prop :=
 k5 b1 x2 (x3 + (1 : Int32)) M
def B_P_haveCommasDigits_5 (post : Int32 → nf_M → Prop) : Nat → Bool → Int32 → Int32 → nf_M → Prop
  | 0, _, _, _, _ => False
  | n + 1, b1, x2, x3, M =>
    (x3 < x2 → P_R_at b1 x3 M (fun r1 M2 =>
    (r1 = (44 : Int32) → P_P_isDigitMark b1 (x3 - (1 : Int32)) M2 (fun r3 M4 =>
    (r3 = 0 → B_P_haveCommasDigits_40 post  M4) ∧
    (¬ r3 = 0 → P_P_isDigitMark b1 (x3 + (1 : Int32)) M4 (fun r5 M6 =>
    (r5 = 0 → B_P_haveCommasDigits_40 post  M6) ∧
    (¬ r5 = 0 → B_P_haveCommasDigits_42 (fun b1 x2 x3 z => B_P_haveCommasDigits_5 post n b1 x2 x3 z) post b1 x2 x3 M6))))) ∧
    (¬ r1 = (44 : Int32) → B_P_haveCommasDigits_42 (fun b1 x2 x3 z => B_P_haveCommasDigits_5 post n b1 x2 x3 z) post b1 x2 x3 M2))) ∧
    (¬ x3 < x2 → post (1 : Int32) M)
def P_P_haveCommasDigits (b1 : Bool) (x2 : Int32) (M : nf_M) (post : Int32 → nf_M → Prop) : Prop :=
 ∀ t1 : Int32, t1 = mg_I M 7 0 → (∃ n9 : Nat, B_P_haveCommasDigits_5 post n9 b1 x2 t1 M)
/-- NumberForge$Picture.isTail(LNumberForge$Row;)Z -/
def B_P_isTail_54 (k10 : Bool → Int32 → nf_M → Prop) (post : Int32 → nf_M → Prop) (b1 : Bool) (x2 : Int32) (xy0 : Int32) (M : nf_M) : Prop :=
 (nf_bool xy0) ∧
    (∀ M2 : nf_M, M2 = ms_I M 7 7 xy0 → (k10 b1 (x2 + (1 : Int32)) M2))
def B_P_isTail_49 (k10 : Bool → Int32 → nf_M → Prop) (post : Int32 → nf_M → Prop) (b1 : Bool) (x2 : Int32) (M : nf_M) : Prop :=
 B_P_isTail_54 k10 post b1 x2 (1 : Int32) M
def B_P_isTail_10 (post : Int32 → nf_M → Prop) : Nat → Bool → Int32 → nf_M → Prop
  | 0, _, _, _ => False
  | n + 1, b1, x2, M =>
    (x2 < (mg_N M b1) → P_R_at b1 x2 M (fun r1 M2 =>
    P_P_isMark r1 M2 (fun r3 M4 =>
    (r3 = 0 → ((mg_I M4 7 7) = 0 → P_R_at b1 x2 M4 (fun r5 M6 =>
    (r5 = (37 : Int32) → B_P_isTail_49 (fun b1 x2 z => B_P_isTail_10 post n b1 x2 z) post b1 x2 M6) ∧
    (¬ r5 = (37 : Int32) → B_P_isTail_54 (fun b1 x2 z => B_P_isTail_10 post n b1 x2 z) post b1 x2 (0 : Int32) M6))) ∧
    (¬ (mg_I M4 7 7) = 0 → B_P_isTail_49 (fun b1 x2 z => B_P_isTail_10 post n b1 x2 z) post b1 x2 M4)) ∧
    (¬ r3 = 0 → post (0 : Int32) M4)))) ∧
    (¬ x2 < (mg_N M b1) → post (1 : Int32) M)
def P_P_isTail (b1 : Bool) (M : nf_M) (post : Int32 → nf_M → Prop) : Prop :=
 ∀ M1 : nf_M, M1 = ms_I M 7 7 (0 : Int32) → (∀ t2 : Int32, t2 = mg_I M1 7 1 → (∃ n9 : Nat, B_P_isTail_10 post n9 b1 t2 M1))
/-- NumberForge$Picture.parse(LNumberForge$Row;)Z -/
def B_P_parse_113 (post : Int32 → nf_M → Prop) (xy0 : Int32) (M : nf_M) : Prop :=
 (narrow .boolean (.int xy0) = .int xy0) ∧ post xy0 M
def B_P_parse_112 (post : Int32 → nf_M → Prop) (M : nf_M) : Prop :=
 B_P_parse_113 post (0 : Int32) M
def B_P_parse_64 (post : Int32 → nf_M → Prop) (b1 : Bool) (x2 : Int32) (M : nf_M) : Prop :=
 ∀ t1 : Int32, t1 = (x2 + (mg_I M 7 5)) + (mg_I M 7 6) → (∀ M2 : nf_M, M2 = ms_I M 7 1 t1 → ((0 < ((mg_I M2 7 2) + (mg_I M2 7 3)) → P_P_haveCommasDigits b1 x2 M2 (fun r3 M4 =>
    (r3 = 0 → B_P_parse_112 post  M4) ∧
    (¬ r3 = 0 → P_P_isTail b1 M4 (fun r5 M6 =>
    (r5 = 0 → B_P_parse_112 post  M6) ∧
    (¬ r5 = 0 → B_P_parse_113 post (1 : Int32) M6))))) ∧
    (¬ 0 < ((mg_I M2 7 2) + (mg_I M2 7 3)) → B_P_parse_112 post  M2)))
def P_P_parse (b1 : Bool) (M : nf_M) (post : Int32 → nf_M → Prop) : Prop :=
 P_P_endOfHead b1 M (fun r1 M2 =>
    ∀ M3 : nf_M, M3 = ms_I M2 7 0 r1 → (P_P_parseWhole b1 M3 (fun r4 M5 =>
    ∀ M6 : nf_M, M6 = ms_I M5 7 5 (0 : Int32) → (∀ M7 : nf_M, M7 = ms_I M6 7 6 (0 : Int32) → (P_R_at b1 r4 M7 (fun r8 M9 =>
    (r8 = (46 : Int32) → P_P_countOf b1 (48 : Int32) (r4 + (1 : Int32)) M9 (fun r10 M11 =>
    ∀ M12 : nf_M, M12 = ms_I M11 7 5 r10 → (P_P_countOf b1 (35 : Int32) ((r4 + (1 : Int32)) + (mg_I M12 7 5)) M12 (fun r13 M14 =>
    ∀ M15 : nf_M, M15 = ms_I M14 7 6 r13 → (B_P_parse_64 post b1 (r4 + (1 : Int32)) M15))))) ∧
    (¬ r8 = (46 : Int32) → B_P_parse_64 post b1 r4 M9)))))))
/-- NumberForge.roundAnswer(I)V -/
def B_F_roundAnswer_75 (post : Unit → nf_M → Prop) (ex : Nat → nf_M → Prop) (M : nf_M) : Prop :=
 post () M
def B_F_roundAnswer_71 (post : Unit → nf_M → Prop) (ex : Nat → nf_M → Prop) (x1 : Int32) (xy0 : Int32) (xy1 : Int32) (vy2 : Fin 9) (M : nf_M) : Prop :=
 P_W_settle vy2 xy1 xy0 x1 M (fun _ M2 =>
    B_F_roundAnswer_75 post ex  M2) ex
def P_F_roundAnswer (x1 : Int32) (M : nf_M) (post : Unit → nf_M → Prop) (ex : Nat → nf_M → Prop) : Prop :=
 (x1 < (mg_S M (0 : Fin 9)) → P_JM_abs_JJ (mg_U M (0 : Fin 9)) M (fun r1 M2 =>
    P_F_power ((mg_S M2 (0 : Fin 9)) - x1) M2 (fun r3 M4 =>
    P_F_overHalfEven r1 r3 M4 (fun r5 M6 =>
    P_W_become r5 M6 (fun _ M8 =>
    ((mg_U M8 (0 : Fin 9)) < (0 : Int64) → B_F_roundAnswer_71 post ex x1 (1 : Int32) (0 : Int32) (0 : Fin 9) M8) ∧
    (¬ (mg_U M8 (0 : Fin 9)) < (0 : Int64) → B_F_roundAnswer_71 post ex x1 (0 : Int32) (0 : Int32) (0 : Fin 9) M8)))))) ∧
    (¬ x1 < (mg_S M (0 : Fin 9)) → B_F_roundAnswer_75 post ex  M)
/-- NumberForge$Row.addPart(LNumberForge$Row;II)V -/
def B_R_addPart_3 (post : Unit → nf_M → Prop) : Nat → Bool → Bool → Int32 → Int32 → nf_M → Prop
  | 0, _, _, _, _, _ => False
  | n + 1, b0, b1, x3, x4, M =>
    (x4 < x3 → P_R_at b1 x4 M (fun r1 M2 =>
    P_R_add b0 r1 M2 (fun _ M4 =>
    B_R_addPart_3 post n b0 b1 x3 (x4 + (1 : Int32)) M4))) ∧
    (¬ x4 < x3 → post () M)
def P_R_addPart (b0 : Bool) (b1 : Bool) (x2 : Int32) (x3 : Int32) (M : nf_M) (post : Unit → nf_M → Prop) : Prop :=
 ∃ n9 : Nat, B_R_addPart_3 post n9 b0 b1 x3 x2 M
/-- NumberForge$Picture.fillWhole(JZLNumberForge$Row;)V -/
def B_P_fillWhole_86 (k41 : Int64 → Bool → Int32 → nf_M → Prop) (post : Unit → nf_M → Prop) (x1 : Int64) (b4 : Bool) (x6 : Int32) (M : nf_M) : Prop :=
 k41 x1 b4 (x6 + (-1 : Int32)) M
def B_P_fillWhole_41 (post : Unit → nf_M → Prop) : Nat → Int64 → Bool → Int32 → nf_M → Prop
  | 0, _, _, _, _ => False
  | n + 1, x1, b4, x6, M =>
    (x6 < 0 → post () M) ∧
    (¬ x6 < 0 → P_F_digitAt x1 x6 M (fun r1 M2 =>
    P_R_add b4 r1 M2 (fun _ M4 =>
    (0 < (mg_I M4 7 4) → (0 < x6 → (¬ (mg_I M4 7 4) = 0) ∧
    (((x6 - x6 / (mg_I M4 7 4) * (mg_I M4 7 4)) = 0 → P_R_add b4 (44 : Int32) M4 (fun _ M7 =>
    B_P_fillWhole_86 (fun x1 b4 x6 z => B_P_fillWhole_41 post n x1 b4 x6 z) post x1 b4 x6 M7)) ∧
    (¬ (x6 - x6 / (mg_I M4 7 4) * (mg_I M4 7 4)) = 0 → B_P_fillWhole_86 (fun x1 b4 x6 z => B_P_fillWhole_41 post n x1 b4 x6 z) post x1 b4 x6 M4))) ∧
    (¬ 0 < x6 → B_P_fillWhole_86 (fun x1 b4 x6 z => B_P_fillWhole_41 post n x1 b4 x6 z) post x1 b4 x6 M4)) ∧
    (¬ 0 < (mg_I M4 7 4) → B_P_fillWhole_86 (fun x1 b4 x6 z => B_P_fillWhole_41 post n x1 b4 x6 z) post x1 b4 x6 M4))))
def B_P_fillWhole_35 (post : Unit → nf_M → Prop) (x1 : Int64) (b4 : Bool) (x5 : Int32) (M : nf_M) : Prop :=
 ∀ t1 : Int32, t1 = x5 - (1 : Int32) → (∃ n9 : Nat, B_P_fillWhole_41 post n9 x1 b4 t1 M)
def B_P_fillWhole_14 (post : Unit → nf_M → Prop) (x1 : Int64) (x3 : Int32) (b4 : Bool) (xy0 : Int32) (M : nf_M) : Prop :=
 P_JM_max xy0 (mg_I M 7 3) M (fun r1 M2 =>
    (r1 = 0 → (x3 = 0 → B_P_fillWhole_35 post x1 b4 r1 M2) ∧
    (¬ x3 = 0 → B_P_fillWhole_35 post x1 b4 (1 : Int32) M2)) ∧
    (¬ r1 = 0 → B_P_fillWhole_35 post x1 b4 r1 M2))
def P_P_fillWhole (x1 : Int64) (x3 : Int32) (b4 : Bool) (M : nf_M) (post : Unit → nf_M → Prop) : Prop :=
 (x1 = (0 : Int64) → B_P_fillWhole_14 post x1 x3 b4 (0 : Int32) M) ∧
    (¬ x1 = (0 : Int64) → P_F_digitCount x1 M (fun r1 M2 =>
    B_P_fillWhole_14 post x1 x3 b4 r1 M2))
/-- NumberForge$Picture.fill(LNumberForge$Row;LNumberForge$Value;LNumberForge$Row;)V -/
def B_P_fill_127 (k97 : Bool → Fin 9 → Bool → Int64 → Int32 → Int32 → nf_M → Prop) (post : Unit → nf_M → Prop) (b1 : Bool) (v2 : Fin 9) (b3 : Bool) (x4 : Int64) (x6 : Int32) (x7 : Int32) (xy0 : Int32) (by1 : Bool) (M : nf_M) : Prop :=
 P_R_add by1 xy0 M (fun _ M2 =>
    k97 b1 v2 b3 x4 x6 (x7 + (-1 : Int32)) M2)
def B_P_fill_97 (post : Unit → nf_M → Prop) : Nat → Bool → Fin 9 → Bool → Int64 → Int32 → Int32 → nf_M → Prop
  | 0, _, _, _, _, _, _, _ => False
  | n + 1, b1, v2, b3, x4, x6, x7, M =>
    (x7 < ((mg_S M v2) - x6) → P_R_addPart b3 b1 (mg_I M 7 1) (mg_N M b1) M (fun _ M2 =>
    post () M2)) ∧
    (¬ x7 < ((mg_S M v2) - x6) → (x7 < 0 → B_P_fill_127 (fun b1 v2 b3 x4 x6 x7 z => B_P_fill_97 post n b1 v2 b3 x4 x6 x7 z) post b1 v2 b3 x4 x6 x7 (48 : Int32) b3 M) ∧
    (¬ x7 < 0 → P_F_digitAt x4 x7 M (fun r3 M4 =>
    B_P_fill_127 (fun b1 v2 b3 x4 x6 x7 z => B_P_fill_97 post n b1 v2 b3 x4 x6 x7 z) post b1 v2 b3 x4 x6 x7 r3 b3 M4)))
def B_P_fill_89 (post : Unit → nf_M → Prop) (b1 : Bool) (v2 : Fin 9) (b3 : Bool) (x4 : Int64) (x6 : Int32) (M : nf_M) : Prop :=
 ∀ t1 : Int32, t1 = (mg_S M v2) - (1 : Int32) → (∃ n9 : Nat, B_P_fill_97 post n9 b1 v2 b3 x4 x6 t1 M)
def B_P_fill_74 (post : Unit → nf_M → Prop) (b1 : Bool) (v2 : Fin 9) (b3 : Bool) (x4 : Int64) (x6 : Int32) (xy0 : Int32) (xy1 : Int64) (M : nf_M) : Prop :=
 P_P_fillWhole xy1 xy0 b3 M (fun _ M2 =>
    (0 < x6 → P_R_add b3 (46 : Int32) M2 (fun _ M4 =>
    B_P_fill_89 post b1 v2 b3 x4 x6 M4)) ∧
    (¬ 0 < x6 → B_P_fill_89 post b1 v2 b3 x4 x6 M2))
def B_P_fill_41 (post : Unit → nf_M → Prop) (b1 : Bool) (v2 : Fin 9) (b3 : Bool) (x4 : Int64) (x6 : Int32) (M : nf_M) : Prop :=
 P_R_addPart b3 b1 (0 : Int32) (mg_I M 7 0) M (fun _ M2 =>
    P_F_power (mg_S M2 v2) M2 (fun r3 M4 =>
    P_F_over x4 r3 M4 (fun r5 M6 =>
    (x6 = 0 → B_P_fill_74 post b1 v2 b3 x4 x6 (1 : Int32) r5 M6) ∧
    (¬ x6 = 0 → B_P_fill_74 post b1 v2 b3 x4 x6 (0 : Int32) r5 M6))))
def P_P_fill (b1 : Bool) (v2 : Fin 9) (b3 : Bool) (M : nf_M) (post : Unit → nf_M → Prop) : Prop :=
 P_JM_abs_JJ (mg_U M v2) M (fun r1 M2 =>
    P_JM_max (mg_I M2 7 5) (mg_S M2 v2) M2 (fun r3 M4 =>
    P_R_clear b3 M4 (fun _ M6 =>
    ((mg_U M6 v2) < (0 : Int64) → P_R_add b3 (45 : Int32) M6 (fun _ M8 =>
    B_P_fill_41 post b1 v2 b3 r1 r3 M8)) ∧
    (¬ (mg_U M6 v2) < (0 : Int64) → B_P_fill_41 post b1 v2 b3 r1 r3 M6))))
/-- NumberForge.picture(I)I -/
def B_F_picture_107 (post : Int32 → nf_M → Prop) (ex : Nat → nf_M → Prop) (M : nf_M) : Prop :=
 P_F_roundAnswer ((mg_I M 7 5) + (mg_I M 7 6)) M (fun _ M2 =>
    P_P_fill false (0 : Fin 9) true M2 (fun _ M4 =>
    post (mg_N M4 true) M4)) ex
def B_F_picture_97 (post : Int32 → nf_M → Prop) (ex : Nat → nf_M → Prop) (xy0 : Int32) (xy1 : Int32) (vy2 : Fin 9) (M : nf_M) : Prop :=
 P_W_settle vy2 xy1 xy0 (mg_S M (0 : Fin 9)) M (fun _ M2 =>
    B_F_picture_107 post ex  M2) ex
def P_F_picture (x1 : Int32) (M : nf_M) (post : Int32 → nf_M → Prop) (ex : Nat → nf_M → Prop) : Prop :=
 P_F_register x1 M (fun r1 M2 =>
    P_F_checkFull r1 M2 (fun _ M4 =>
    P_P_parse false M4 (fun r5 M6 =>
    (r5 = 0 → ex 1 M6) ∧
    (¬ r5 = 0 → P_F_castIntoAnswer r1 (0 : Int32) M6 (fun _ M8 =>
    ((mg_I M8 7 7) = 0 → B_F_picture_107 post ex  M8) ∧
    (¬ (mg_I M8 7 7) = 0 → P_JM_abs_JJ (mg_U M8 (0 : Fin 9)) M8 (fun r9 M10 =>
    P_W_become (r9 * (100 : Int64)) M10 (fun _ M12 =>
    ((mg_U M12 (0 : Fin 9)) < (0 : Int64) → B_F_picture_97 post ex (1 : Int32) (0 : Int32) (0 : Fin 9) M12) ∧
    (¬ (mg_U M12 (0 : Fin 9)) < (0 : Int64) → B_F_picture_97 post ex (0 : Int32) (0 : Int32) (0 : Fin 9) M12))))) ex))) ex) ex
/-- NumberForge.addRomanLetter(IZ)V -/
def B_F_addRomanLetter_52 (post : Unit → nf_M → Prop) (M : nf_M) : Prop :=
 post () M
def B_F_addRomanLetter_49 (post : Unit → nf_M → Prop) (xy0 : Int32) (by1 : Bool) (M : nf_M) : Prop :=
 P_R_add by1 xy0 M (fun _ M2 =>
    B_F_addRomanLetter_52 post  M2)
def B_F_addRomanLetter_22 (post : Unit → nf_M → Prop) (x2 : Int32) (xy0 : Int32) (M : nf_M) : Prop :=
 (xy0 = (32 : Int32) → B_F_addRomanLetter_52 post  M) ∧
    (¬ xy0 = (32 : Int32) → (x2 = 0 → B_F_addRomanLetter_49 post xy0 true M) ∧
    (¬ x2 = 0 → B_F_addRomanLetter_49 post ((((xy0 - (97 : Int32)) + (65 : Int32)).toUInt32 % 65536).toInt32) true M))
def P_F_addRomanLetter (x1 : Int32) (x2 : Int32) (M : nf_M) (post : Unit → nf_M → Prop) : Prop :=
 P_JS_length (4 : Fin 5) M (fun r1 M2 =>
    (x1 < r1 → P_JS_charAt (4 : Fin 5) x1 M2 (fun r3 M4 =>
    B_F_addRomanLetter_22 post x2 r3 M4)) ∧
    (¬ x1 < r1 → B_F_addRomanLetter_22 post x2 (32 : Int32) M2))
/-- NumberForge.writeRoman(JZ)V -/
def B_F_writeRoman_82 (k13 : Int32 → Int64 → Int32 → nf_M → Prop) (post : Unit → nf_M → Prop) (x3 : Int32) (x4 : Int64) (x6 : Int32) (M : nf_M) : Prop :=
 k13 x3 x4 (x6 + (1 : Int32)) M
def B_F_writeRoman_25 (k13 : Int32 → Int64 → Int32 → nf_M → Prop) (post : Unit → nf_M → Prop) : Nat → Int32 → Int64 → Int32 → Int32 → nf_M → Prop
  | 0, _, _, _, _, _ => False
  | n + 1, x3, x4, x6, x7, M =>
    (x7 < (3 : Int32) → (vp_in x6 13) ∧
    ((x4 < ((nf_ROM.getD x6.toNatClampNeg 0).toInt64) → B_F_writeRoman_82 k13 post x3 x4 x6 M) ∧
    (¬ x4 < ((nf_ROM.getD x6.toNatClampNeg 0).toInt64) → P_F_addRomanLetter ((2 : Int32) * x6) x3 M (fun _ M3 =>
    P_F_addRomanLetter (((2 : Int32) * x6) + (1 : Int32)) x3 M3 (fun _ M5 =>
    (vp_in x6 13) ∧
    (∀ t7 : Int64, t7 = x4 - ((nf_ROM.getD x6.toNatClampNeg 0).toInt64) → (B_F_writeRoman_25 k13 post n x3 t7 x6 (x7 + (1 : Int32)) M5))))))) ∧
    (¬ x7 < (3 : Int32) → B_F_writeRoman_82 k13 post x3 x4 x6 M)
def B_F_writeRoman_13 (post : Unit → nf_M → Prop) : Nat → Int32 → Int64 → Int32 → nf_M → Prop
  | 0, _, _, _, _ => False
  | n + 1, x3, x4, x6, M =>
    (x6 < (13 : Int32) → ∃ n9 : Nat, B_F_writeRoman_25 (fun x3 x4 x6 z => B_F_writeRoman_13 post n x3 x4 x6 z) post n9 x3 x4 x6 (0 : Int32) M) ∧
    (¬ x6 < (13 : Int32) → post () M)
def P_F_writeRoman (x1 : Int64) (x3 : Int32) (M : nf_M) (post : Unit → nf_M → Prop) : Prop :=
 P_R_clear true M (fun _ M2 =>
    ∃ n9 : Nat, B_F_writeRoman_13 post n9 x3 x1 (0 : Int32) M2)
/-- NumberForge$Row.turn()V -/
def B_R_turn_58 (post : Unit → nf_M → Prop) (M : nf_M) : Prop :=
 post () M
def B_R_turn_9 (post : Unit → nf_M → Prop) : Nat → Bool → Int32 → Int32 → nf_M → Prop
  | 0, _, _, _, _ => False
  | n + 1, b0, x1, x2, M =>
    (x1 < x2 → (x2 < (nI (nf_cap b0)) → (vp_in x1 (nf_cap b0)) ∧
    (∀ t2 : Int32, t2 = mg_C M b0 x1.toNatClampNeg → ((vp_in x2 (nf_cap b0)) ∧
    (∀ t4 : Int32, t4 = mg_C M b0 x2.toNatClampNeg → ((vp_in x1 (nf_cap b0)) ∧
    (∀ M6 : nf_M, M6 = ms_C M b0 x1.toNatClampNeg (vp_nar .char t4) → ((vp_in x2 (nf_cap b0)) ∧
    (∀ M8 : nf_M, M8 = ms_C M6 b0 x2.toNatClampNeg (vp_nar .char t2) → (B_R_turn_9 post n b0 (x1 + (1 : Int32)) (x2 + (-1 : Int32)) M8))))))))) ∧
    (¬ x2 < (nI (nf_cap b0)) → B_R_turn_58 post  M)) ∧
    (¬ x1 < x2 → B_R_turn_58 post  M)
def P_R_turn (b0 : Bool) (M : nf_M) (post : Unit → nf_M → Prop) : Prop :=
 ∀ t1 : Int32, t1 = (mg_N M b0) - (1 : Int32) → (∃ n9 : Nat, B_R_turn_9 post n9 b0 (0 : Int32) t1 M)
/-- NumberForge.writeAlphabet(JZ)V -/
def B_F_writeAlphabet_44 (k10 : Int32 → Int64 → nf_M → Prop) (post : Unit → nf_M → Prop) (x3 : Int32) (x4 : Int64) (xy0 : Int32) (by1 : Bool) (M : nf_M) : Prop :=
 P_R_add by1 (((((xy0.toInt64) + ((x4 - (1 : Int64)) - (x4 - (1 : Int64)) / (26 : Int64) * (26 : Int64))).toInt32).toUInt32 % 65536).toInt32) M (fun _ M2 =>
    ∀ t3 : Int64, t3 = (x4 - (1 : Int64)) / (26 : Int64) → (k10 x3 t3 M2))
def B_F_writeAlphabet_72 (post : Unit → nf_M → Prop) (M : nf_M) : Prop :=
 P_R_turn true M (fun _ M2 =>
    post () M2)
def B_F_writeAlphabet_10 (post : Unit → nf_M → Prop) : Nat → Int32 → Int64 → nf_M → Prop
  | 0, _, _, _ => False
  | n + 1, x3, x4, M =>
    ((0 : Int64) < x4 → ((mg_N M true) < (15 : Int32) → (x3 = 0 → B_F_writeAlphabet_44 (fun x3 x4 z => B_F_writeAlphabet_10 post n x3 x4 z) post x3 x4 (97 : Int32) true M) ∧
    (¬ x3 = 0 → B_F_writeAlphabet_44 (fun x3 x4 z => B_F_writeAlphabet_10 post n x3 x4 z) post x3 x4 (65 : Int32) true M)) ∧
    (¬ (mg_N M true) < (15 : Int32) → B_F_writeAlphabet_72 post  M)) ∧
    (¬ (0 : Int64) < x4 → B_F_writeAlphabet_72 post  M)
def P_F_writeAlphabet (x1 : Int64) (x3 : Int32) (M : nf_M) (post : Unit → nf_M → Prop) : Prop :=
 P_R_clear true M (fun _ M2 =>
    ∃ n9 : Nat, B_F_writeAlphabet_10 post n9 x3 x1 M2)
/-- NumberForge.letters(II)I -/
def B_F_letters_25 (post : Int32 → nf_M → Prop) (ex : Nat → nf_M → Prop) (M : nf_M) : Prop :=
 ex 2 M
def B_F_letters_127 (post : Int32 → nf_M → Prop) (ex : Nat → nf_M → Prop) (M : nf_M) : Prop :=
 post (mg_N M true) M
def B_F_letters_122 (post : Int32 → nf_M → Prop) (ex : Nat → nf_M → Prop) (v3 : Fin 9) (M : nf_M) : Prop :=
 P_F_writeUnits v3 M (fun _ M2 =>
    B_F_letters_127 post ex  M2)
def B_F_letters_100 (post : Int32 → nf_M → Prop) (ex : Nat → nf_M → Prop) (v3 : Fin 9) (x4 : Int32) (M : nf_M) : Prop :=
 ((mg_U M v3) < (1 : Int64) → B_F_letters_122 post ex v3 M) ∧
    (¬ (mg_U M v3) < (1 : Int64) → P_F_writeAlphabet (mg_U M v3) x4 M (fun _ M2 =>
    B_F_letters_127 post ex  M2))
def B_F_letters_90 (post : Int32 → nf_M → Prop) (ex : Nat → nf_M → Prop) (x2 : Int32) (v3 : Fin 9) (x4 : Int32) (M : nf_M) : Prop :=
 (x2 = (1 : Int32) → B_F_letters_100 post ex v3 x4 M) ∧
    (¬ x2 = (1 : Int32) → (x2 = (2 : Int32) → B_F_letters_100 post ex v3 x4 M) ∧
    (¬ x2 = (2 : Int32) → B_F_letters_122 post ex v3 M))
def B_F_letters_50 (post : Int32 → nf_M → Prop) (ex : Nat → nf_M → Prop) (x2 : Int32) (v3 : Fin 9) (xy0 : Int32) (M : nf_M) : Prop :=
 (x2 < (3 : Int32) → B_F_letters_90 post ex x2 v3 xy0 M) ∧
    (¬ x2 < (3 : Int32) → ((mg_U M v3) < (1 : Int64) → B_F_letters_90 post ex x2 v3 xy0 M) ∧
    (¬ (mg_U M v3) < (1 : Int64) → ((3999 : Int64) < (mg_U M v3) → B_F_letters_90 post ex x2 v3 xy0 M) ∧
    (¬ (3999 : Int64) < (mg_U M v3) → P_F_writeRoman (mg_U M v3) xy0 M (fun _ M2 =>
    B_F_letters_127 post ex  M2))))
def B_F_letters_45 (post : Int32 → nf_M → Prop) (ex : Nat → nf_M → Prop) (x2 : Int32) (v3 : Fin 9) (M : nf_M) : Prop :=
 B_F_letters_50 post ex x2 v3 (1 : Int32) M
def P_F_letters (x1 : Int32) (x2 : Int32) (M : nf_M) (post : Int32 → nf_M → Prop) (ex : Nat → nf_M → Prop) : Prop :=
 P_F_register x1 M (fun r1 M2 =>
    P_F_checkIndex x2 (5 : Int32) M2 (fun _ M4 =>
    P_V_holdsUnits r1 M4 (fun r5 M6 =>
    (r5 = 0 → B_F_letters_25 post ex  M6) ∧
    (¬ r5 = 0 → ((mg_T M6 r1) = 0 → B_F_letters_25 post ex  M6) ∧
    (¬ (mg_T M6 r1) = 0 → (x2 = (2 : Int32) → B_F_letters_45 post ex x2 r1 M6) ∧
    (¬ x2 = (2 : Int32) → (x2 = (4 : Int32) → B_F_letters_45 post ex x2 r1 M6) ∧
    (¬ x2 = (4 : Int32) → B_F_letters_50 post ex x2 r1 (0 : Int32) M6)))))) ex) ex
/-- NumberForgeModel.thrown()I -/
def P_M_thrown (M : nf_M) (post : Int32 → nf_M → Prop) : Prop :=
 post (mg_I M 19 0) M
/-- NumberForgeModel.type(J)Z -/
def B_M_type_58 (post : Int32 → nf_M → Prop) (M : nf_M) : Prop :=
 post (0 : Int32) M
def B_M_type_76 (k14 : Int64 → Int32 → Int32 → nf_M → Prop) (post : Int32 → nf_M → Prop) (x1 : Int64) (x3 : Int32) (x4 : Int32) (M : nf_M) : Prop :=
 k14 x1 x3 (x4 + (-1 : Int32)) M
def B_M_type_60 (k14 : Int64 → Int32 → Int32 → nf_M → Prop) (post : Int32 → nf_M → Prop) (x1 : Int64) (x3 : Int32) (x4 : Int32) (x5 : Int32) (M : nf_M) : Prop :=
 (x5 = 0 → B_M_type_76 k14 post x1 x3 x4 M) ∧
    (¬ x5 = 0 → (vp_in x3 40) ∧
    (∀ M2 : nf_M, M2 = ms_I M 20 x3.toNatClampNeg x5 → (B_M_type_76 k14 post x1 (x3 + (1 : Int32)) x4 M2)))
def B_M_type_14 (post : Int32 → nf_M → Prop) : Nat → Int64 → Int32 → Int32 → nf_M → Prop
  | 0, _, _, _, _ => False
  | n + 1, x1, x3, x4, M =>
    (x4 < 0 → ∀ M1 : nf_M, M1 = ms_I M 19 1 x3 → (post (1 : Int32) M1)) ∧
    (¬ x4 < 0 → ∀ t2 : Int32, t2 = ((x1 >>> (((8 : Int32) * x4).toInt64 &&& 63)).toInt32) &&& (255 : Int32) → ((t2 = 0 → B_M_type_60 (fun x1 x3 x4 z => B_M_type_14 post n x1 x3 x4 z) post x1 x3 x4 t2 M) ∧
    (¬ t2 = 0 → (t2 < (32 : Int32) → B_M_type_58 post  M) ∧
    (¬ t2 < (32 : Int32) → ((126 : Int32) < t2 → B_M_type_58 post  M) ∧
    (¬ (126 : Int32) < t2 → (x3 = (40 : Int32) → B_M_type_58 post  M) ∧
    (¬ x3 = (40 : Int32) → B_M_type_60 (fun x1 x3 x4 z => B_M_type_14 post n x1 x3 x4 z) post x1 x3 x4 t2 M))))))
def P_M_type (x1 : Int64) (M : nf_M) (post : Int32 → nf_M → Prop) : Prop :=
 ∀ M1 : nf_M, M1 = ms_I M 19 0 (0 : Int32) → (∀ t2 : Int32, t2 = mg_I M1 19 1 → (∃ n9 : Nat, B_M_type_14 post n9 x1 t2 (7 : Int32) M1))
/-- NumberForgeModel.wipe()V -/
def P_M_wipe (M : nf_M) (post : Unit → nf_M → Prop) : Prop :=
 ∀ M1 : nf_M, M1 = ms_I M 19 0 (0 : Int32) → (∀ M2 : nf_M, M2 = ms_I M1 19 1 (0 : Int32) → (post () M2))
/-- NumberForgeModel.isRegister(I)Z -/
def B_M_isRegister_15 (post : Int32 → nf_M → Prop) (xy0 : Int32) (M : nf_M) : Prop :=
 (narrow .boolean (.int xy0) = .int xy0) ∧ post xy0 M
def B_M_isRegister_14 (post : Int32 → nf_M → Prop) (M : nf_M) : Prop :=
 B_M_isRegister_15 post (0 : Int32) M
def P_M_isRegister (x0 : Int32) (M : nf_M) (post : Int32 → nf_M → Prop) : Prop :=
 (x0 < 0 → B_M_isRegister_14 post  M) ∧
    (¬ x0 < 0 → (x0 < (8 : Int32) → B_M_isRegister_15 post (1 : Int32) M) ∧
    (¬ x0 < (8 : Int32) → B_M_isRegister_14 post  M))
/-- NumberForgeModel.isExact(I)Z -/
def B_M_isExact_15 (post : Int32 → nf_M → Prop) (xy0 : Int32) (M : nf_M) : Prop :=
 (narrow .boolean (.int xy0) = .int xy0) ∧ post xy0 M
def B_M_isExact_14 (post : Int32 → nf_M → Prop) (M : nf_M) : Prop :=
 B_M_isExact_15 post (0 : Int32) M
def P_M_isExact (x0 : Int32) (M : nf_M) (post : Int32 → nf_M → Prop) : Prop :=
 (x0 < 0 → B_M_isExact_14 post  M) ∧
    (¬ x0 < 0 → (x0 < (8 : Int32) → B_M_isExact_15 post (1 : Int32) M) ∧
    (¬ x0 < (8 : Int32) → B_M_isExact_14 post  M))
/-- NumberForgeModel.here()I -/
def B_M_here_24 (post : Int32 → nf_M → Prop) (xy0 : Int32) (M : nf_M) : Prop :=
 post xy0 M
def P_M_here (M : nf_M) (post : Int32 → nf_M → Prop) : Prop :=
 ((mg_I M 19 15) < (mg_I M 19 16) → (vp_in (mg_I M 19 15) 40) ∧
    (B_M_here_24 post (mg_I M 20 (mg_I M 19 15).toNatClampNeg) M)) ∧
    (¬ (mg_I M 19 15) < (mg_I M 19 16) → B_M_here_24 post (0 : Int32) M)
/-- NumberForgeModel.isDigit(I)Z -/
def B_M_isDigit_17 (post : Int32 → nf_M → Prop) (xy0 : Int32) (M : nf_M) : Prop :=
 (narrow .boolean (.int xy0) = .int xy0) ∧ post xy0 M
def B_M_isDigit_16 (post : Int32 → nf_M → Prop) (M : nf_M) : Prop :=
 B_M_isDigit_17 post (0 : Int32) M
def P_M_isDigit (x0 : Int32) (M : nf_M) (post : Int32 → nf_M → Prop) : Prop :=
 (x0 < (48 : Int32) → B_M_isDigit_16 post  M) ∧
    (¬ x0 < (48 : Int32) → ((57 : Int32) < x0 → B_M_isDigit_16 post  M) ∧
    (¬ (57 : Int32) < x0 → B_M_isDigit_17 post (1 : Int32) M))
/-- NumberForgeModel.digits(Z)I -/
def B_M_digits_94 (k7 : Int32 → Int32 → nf_M → Prop) (post : Int32 → nf_M → Prop) (x1 : Int32) (xy0 : Int32) (M : nf_M) : Prop :=
 ∀ t1 : Int32, t1 = (mg_I M 19 15) + (1 : Int32) → (∀ M2 : nf_M, M2 = ms_I M 19 15 t1 → (k7 x1 xy0 M2))
def B_M_digits_70 (k7 : Int32 → Int32 → nf_M → Prop) (post : Int32 → nf_M → Prop) (x1 : Int32) (x2 : Int32) (M : nf_M) : Prop :=
 P_M_here  M (fun r1 M2 =>
    (r1 = (46 : Int32) → B_M_digits_94 k7 post x1 (0 : Int32) M2) ∧
    (¬ r1 = (46 : Int32) → (x2 < 0 → B_M_digits_94 k7 post x1 x2 M2) ∧
    (¬ x2 < 0 → B_M_digits_94 k7 post x1 (x2 + (1 : Int32)) M2)))
def B_M_digits_34 (k7 : Int32 → Int32 → nf_M → Prop) (post : Int32 → nf_M → Prop) (x1 : Int32) (x2 : Int32) (M : nf_M) : Prop :=
 P_M_here  M (fun r1 M2 =>
    P_M_isDigit r1 M2 (fun r3 M4 =>
    (r3 = 0 → B_M_digits_70 k7 post x1 x2 M4) ∧
    (¬ r3 = 0 → P_M_here  M4 (fun r5 M6 =>
    ∀ t7 : Int32, t7 = r5 - (48 : Int32) → ((vp_in (mg_I M4 19 13) 80) ∧
    (∀ M9 : nf_M, M9 = ms_I M6 26 (mg_I M4 19 13).toNatClampNeg t7 → (∀ t10 : Int32, t10 = (mg_I M9 19 13) + (1 : Int32) → (∀ M11 : nf_M, M11 = ms_I M9 19 13 t10 → (B_M_digits_70 k7 post x1 x2 M11)))))))))
def B_M_digits_128 (post : Int32 → nf_M → Prop) (xy0 : Int32) (M : nf_M) : Prop :=
 post xy0 M
def B_M_digits_108 (post : Int32 → nf_M → Prop) (x2 : Int32) (M : nf_M) : Prop :=
 ((mg_I M 19 13) = 0 → B_M_digits_128 post (-1 : Int32) M) ∧
    (¬ (mg_I M 19 13) = 0 → (x2 < 0 → B_M_digits_128 post (0 : Int32) M) ∧
    (¬ x2 < 0 → B_M_digits_128 post x2 M))
def B_M_digits_7 (post : Int32 → nf_M → Prop) : Nat → Int32 → Int32 → nf_M → Prop
  | 0, _, _, _ => False
  | n + 1, x1, x2, M =>
    P_M_here  M (fun r1 M2 =>
    P_M_isDigit r1 M2 (fun r3 M4 =>
    (r3 = 0 → (x1 = 0 → B_M_digits_108 post x2 M4) ∧
    (¬ x1 = 0 → (x2 < 0 → P_M_here  M4 (fun r5 M6 =>
    (r5 = (46 : Int32) → B_M_digits_34 (fun x1 x2 z => B_M_digits_7 post n x1 x2 z) post x1 x2 M6) ∧
    (¬ r5 = (46 : Int32) → B_M_digits_108 post x2 M6))) ∧
    (¬ x2 < 0 → B_M_digits_108 post x2 M4))) ∧
    (¬ r3 = 0 → B_M_digits_34 (fun x1 x2 z => B_M_digits_7 post n x1 x2 z) post x1 x2 M4)))
def P_M_digits (x1 : Int32) (M : nf_M) (post : Int32 → nf_M → Prop) : Prop :=
 ∀ M1 : nf_M, M1 = ms_I M 19 13 (0 : Int32) → (∃ n9 : Nat, B_M_digits_7 post n9 x1 (-1 : Int32) M1)
/-- NumberForgeModel.gather()J -/
def B_M_gather_57 (k4 : Int64 → Int32 → nf_M → Prop) (post : Int64 → nf_M → Prop) (x3 : Int32) (xy0 : Int64) (M : nf_M) : Prop :=
 k4 xy0 (x3 + (1 : Int32)) M
def B_M_gather_29 (k4 : Int64 → Int32 → nf_M → Prop) (post : Int64 → nf_M → Prop) (x1 : Int64) (x3 : Int32) (xy0 : Int32) (M : nf_M) : Prop :=
 ∀ M1 : nf_M, M1 = ms_I M 19 9 xy0 → (((mg_I M1 19 9) = (5 : Int32) → B_M_gather_57 k4 post x3 (0 : Int64) M1) ∧
    (¬ (mg_I M1 19 9) = (5 : Int32) → (vp_in x3 80) ∧
    (B_M_gather_57 k4 post x3 (((10 : Int64) * x1) + ((mg_I M1 26 x3.toNatClampNeg).toInt64)) M1)))
def B_M_gather_4 (post : Int64 → nf_M → Prop) : Nat → Int64 → Int32 → nf_M → Prop
  | 0, _, _, _ => False
  | n + 1, x1, x3, M =>
    (x3 < (mg_I M 19 13) → (x1 < (100000000000000 : Int64) → B_M_gather_29 (fun x1 x3 z => B_M_gather_4 post n x1 x3 z) post x1 x3 (mg_I M 19 9) M) ∧
    (¬ x1 < (100000000000000 : Int64) → B_M_gather_29 (fun x1 x3 z => B_M_gather_4 post n x1 x3 z) post x1 x3 (5 : Int32) M)) ∧
    (¬ x3 < (mg_I M 19 13) → post x1 M)
def P_M_gather (M : nf_M) (post : Int64 → nf_M → Prop) : Prop :=
 ∃ n9 : Nat, B_M_gather_4 post n9 (0 : Int64) (0 : Int32) M
/-- NumberForgeModel.settle(ZII)V -/
def B_M_settle_72 (k6 : Int32 → Int32 → Int32 → nf_M → Prop) (post : Unit → nf_M → Prop) (x1 : Int32) (x5 : Int32) (xy0 : Int32) (M : nf_M) : Prop :=
 ∀ t1 : Int32, t1 = (mg_I M 19 13) - (1 : Int32) → (∀ M2 : nf_M, M2 = ms_I M 19 13 t1 → (k6 x1 xy0 (x5 + (-1 : Int32)) M2))
def B_M_settle_43 (k6 : Int32 → Int32 → Int32 → nf_M → Prop) (post : Unit → nf_M → Prop) (x1 : Int32) (x5 : Int32) (M : nf_M) : Prop :=
 B_M_settle_72 k6 post x1 x5 (3 : Int32) M
def B_M_settle_67 (k6 : Int32 → Int32 → Int32 → nf_M → Prop) (post : Unit → nf_M → Prop) (x1 : Int32) (x5 : Int32) (M : nf_M) : Prop :=
 B_M_settle_72 k6 post x1 x5 (1 : Int32) M
def B_M_settle_47 (k6 : Int32 → Int32 → Int32 → nf_M → Prop) (post : Unit → nf_M → Prop) (x1 : Int32) (x4 : Int32) (x5 : Int32) (x6 : Int32) (M : nf_M) : Prop :=
 (x6 = (5 : Int32) → B_M_settle_72 k6 post x1 x5 (2 : Int32) M) ∧
    (¬ x6 = (5 : Int32) → (0 < x6 → B_M_settle_67 k6 post x1 x5 M) ∧
    (¬ 0 < x6 → (0 < x4 → B_M_settle_67 k6 post x1 x5 M) ∧
    (¬ 0 < x4 → B_M_settle_72 k6 post x1 x5 (0 : Int32) M)))
def B_M_settle_191 (k134 : Int32 → Int32 → Int32 → Int32 → nf_M → Prop) (post : Unit → nf_M → Prop) (x1 : Int32) (x5 : Int32) (x7 : Int32) (xy0 : Int32) (M : nf_M) : Prop :=
 k134 x1 x5 xy0 (x7 + (-1 : Int32)) M
def B_M_settle_175 (k134 : Int32 → Int32 → Int32 → Int32 → nf_M → Prop) (post : Unit → nf_M → Prop) (x1 : Int32) (x5 : Int32) (x7 : Int32) (xy0 : Int32) (xy1 : Int32) (M : nf_M) : Prop :=
 (vp_in xy1 80) ∧
    (∀ M2 : nf_M, M2 = ms_I M 26 xy1.toNatClampNeg xy0 → ((vp_in x7 80) ∧
    (((mg_I M2 26 x7.toNatClampNeg) = 0 → B_M_settle_191 k134 post x1 x5 x7 (1 : Int32) M2) ∧
    (¬ (mg_I M2 26 x7.toNatClampNeg) = 0 → B_M_settle_191 k134 post x1 x5 x7 (0 : Int32) M2))))
def B_M_settle_253 (post : Unit → nf_M → Prop) (x5 : Int32) (xy0 : Int64) (M : nf_M) : Prop :=
 ∀ M1 : nf_M, M1 = ms_L M 19 10 xy0 → (∀ M2 : nf_M, M2 = ms_I M1 19 11 x5 → (post () M2))
def B_M_settle_234 (post : Unit → nf_M → Prop) (x1 : Int32) (x5 : Int32) (M : nf_M) : Prop :=
 P_M_gather  M (fun r1 M2 =>
    (x1 = 0 → B_M_settle_253 post x5 r1 M2) ∧
    (¬ x1 = 0 → B_M_settle_253 post x5 (-r1) M2))
def B_M_settle_199 (post : Unit → nf_M → Prop) : Nat → Int32 → Int32 → nf_M → Prop
  | 0, _, _, _ => False
  | n + 1, x1, x5, M =>
    (0 < x5 → (vp_in ((mg_I M 19 13) - (1 : Int32)) 80) ∧
    (((mg_I M 26 ((mg_I M 19 13) - (1 : Int32)).toNatClampNeg) = 0 → ∀ t2 : Int32, t2 = (mg_I M 19 13) - (1 : Int32) → (∀ M3 : nf_M, M3 = ms_I M 19 13 t2 → (B_M_settle_199 post n x1 (x5 + (-1 : Int32)) M3))) ∧
    (¬ (mg_I M 26 ((mg_I M 19 13) - (1 : Int32)).toNatClampNeg) = 0 → B_M_settle_234 post x1 x5 M))) ∧
    (¬ 0 < x5 → B_M_settle_234 post x1 x5 M)
def B_M_settle_134 (post : Unit → nf_M → Prop) : Nat → Int32 → Int32 → Int32 → Int32 → nf_M → Prop
  | 0, _, _, _, _, _ => False
  | n + 1, x1, x5, x6, x7, M =>
    (x7 < 0 → ∃ n9 : Nat, B_M_settle_199 post n9 x1 x5 M) ∧
    (¬ x7 < 0 → (x6 = 0 → ∃ n9 : Nat, B_M_settle_199 post n9 x1 x5 M) ∧
    (¬ x6 = 0 → (vp_in x7 80) ∧
    (((mg_I M 26 x7.toNatClampNeg) = (9 : Int32) → B_M_settle_175 (fun x1 x5 x6 x7 z => B_M_settle_134 post n x1 x5 x6 x7 z) post x1 x5 x7 (0 : Int32) x7 M) ∧
    (¬ (mg_I M 26 x7.toNatClampNeg) = (9 : Int32) → (vp_in x7 80) ∧
    (B_M_settle_175 (fun x1 x5 x6 x7 z => B_M_settle_134 post n x1 x5 x6 x7 z) post x1 x5 x7 ((mg_I M 26 x7.toNatClampNeg) + (1 : Int32)) x7 M)))))
def B_M_settle_124 (post : Unit → nf_M → Prop) (x1 : Int32) (x5 : Int32) (xy0 : Int32) (M : nf_M) : Prop :=
 ∀ t1 : Int32, t1 = (mg_I M 19 13) - (1 : Int32) → (∃ n9 : Nat, B_M_settle_134 post n9 x1 x5 xy0 t1 M)
def B_M_settle_119 (post : Unit → nf_M → Prop) (x1 : Int32) (x5 : Int32) (M : nf_M) : Prop :=
 B_M_settle_124 post x1 x5 (1 : Int32) M
def B_M_settle_123 (post : Unit → nf_M → Prop) (x1 : Int32) (x5 : Int32) (M : nf_M) : Prop :=
 B_M_settle_124 post x1 x5 (0 : Int32) M
def B_M_settle_6 (post : Unit → nf_M → Prop) : Nat → Int32 → Int32 → Int32 → nf_M → Prop
  | 0, _, _, _, _ => False
  | n + 1, x1, x4, x5, M =>
    ((6 : Int32) < x5 → (vp_in ((mg_I M 19 13) - (1 : Int32)) 80) ∧
    (∀ t2 : Int32, t2 = mg_I M 26 ((mg_I M 19 13) - (1 : Int32)).toNatClampNeg → (((5 : Int32) < t2 → B_M_settle_43 (fun x1 x4 x5 z => B_M_settle_6 post n x1 x4 x5 z) post x1 x5 M) ∧
    (¬ (5 : Int32) < t2 → (t2 = (5 : Int32) → (0 < x4 → B_M_settle_43 (fun x1 x4 x5 z => B_M_settle_6 post n x1 x4 x5 z) post x1 x5 M) ∧
    (¬ 0 < x4 → B_M_settle_47 (fun x1 x4 x5 z => B_M_settle_6 post n x1 x4 x5 z) post x1 x4 x5 t2 M)) ∧
    (¬ t2 = (5 : Int32) → B_M_settle_47 (fun x1 x4 x5 z => B_M_settle_6 post n x1 x4 x5 z) post x1 x4 x5 t2 M))))) ∧
    (¬ (6 : Int32) < x5 → (x4 = (3 : Int32) → B_M_settle_119 post x1 x5 M) ∧
    (¬ x4 = (3 : Int32) → (x4 = (2 : Int32) → (vp_in ((mg_I M 19 13) - (1 : Int32)) 80) ∧
    ((((mg_I M 26 ((mg_I M 19 13) - (1 : Int32)).toNatClampNeg) - (mg_I M 26 ((mg_I M 19 13) - (1 : Int32)).toNatClampNeg) / (2 : Int32) * (2 : Int32)) = (1 : Int32) → B_M_settle_119 post x1 x5 M) ∧
    (¬ ((mg_I M 26 ((mg_I M 19 13) - (1 : Int32)).toNatClampNeg) - (mg_I M 26 ((mg_I M 19 13) - (1 : Int32)).toNatClampNeg) / (2 : Int32) * (2 : Int32)) = (1 : Int32) → B_M_settle_123 post x1 x5 M))) ∧
    (¬ x4 = (2 : Int32) → B_M_settle_123 post x1 x5 M)))
def P_M_settle (x1 : Int32) (x2 : Int32) (x3 : Int32) (M : nf_M) (post : Unit → nf_M → Prop) : Prop :=
 ∃ n9 : Nat, B_M_settle_6 post n9 x1 x3 x2 M
/-- NumberForgeModel.fits(IJ)Z -/
def B_M_fits_115 (post : Int32 → nf_M → Prop) (xy0 : Int32) (M : nf_M) : Prop :=
 (narrow .boolean (.int xy0) = .int xy0) ∧ post xy0 M
def B_M_fits_110 (post : Int32 → nf_M → Prop) (M : nf_M) : Prop :=
 B_M_fits_115 post (1 : Int32) M
def B_M_fits_114 (post : Int32 → nf_M → Prop) (M : nf_M) : Prop :=
 B_M_fits_115 post (0 : Int32) M
def B_M_fits_90 (post : Int32 → nf_M → Prop) (x0 : Int32) (x1 : Int64) (x3 : Int64) (xy0 : Int64) (M : nf_M) : Prop :=
 (x0 < (2 : Int32) → B_M_fits_110 post  M) ∧
    (¬ x0 < (2 : Int32) → (x1 < x3 → B_M_fits_114 post  M) ∧
    (¬ x1 < x3 → (xy0 < x1 → B_M_fits_114 post  M) ∧
    (¬ xy0 < x1 → B_M_fits_110 post  M)))
def B_M_fits_44 (post : Int32 → nf_M → Prop) (x0 : Int32) (x1 : Int64) (xy0 : Int64) (M : nf_M) : Prop :=
 (x0 = (2 : Int32) → B_M_fits_90 post x0 x1 xy0 (2147483647 : Int64) M) ∧
    (¬ x0 = (2 : Int32) → (x0 = (3 : Int32) → B_M_fits_90 post x0 x1 xy0 (32767 : Int64) M) ∧
    (¬ x0 = (3 : Int32) → (x0 = (4 : Int32) → B_M_fits_90 post x0 x1 xy0 (127 : Int64) M) ∧
    (¬ x0 = (4 : Int32) → (x0 = (5 : Int32) → B_M_fits_90 post x0 x1 xy0 (255 : Int64) M) ∧
    (¬ x0 = (5 : Int32) → B_M_fits_90 post x0 x1 xy0 x1 M))))
def P_M_fits (x0 : Int32) (x1 : Int64) (M : nf_M) (post : Int32 → nf_M → Prop) : Prop :=
 (x0 = (2 : Int32) → B_M_fits_44 post x0 x1 (-2147483648 : Int64) M) ∧
    (¬ x0 = (2 : Int32) → (x0 = (3 : Int32) → B_M_fits_44 post x0 x1 (-32768 : Int64) M) ∧
    (¬ x0 = (3 : Int32) → (x0 = (4 : Int32) → B_M_fits_44 post x0 x1 (-128 : Int64) M) ∧
    (¬ x0 = (4 : Int32) → (x0 = (7 : Int32) → B_M_fits_44 post x0 x1 (1 : Int64) M) ∧
    (¬ x0 = (7 : Int32) → B_M_fits_44 post x0 x1 (0 : Int64) M))))
/-- NumberForgeModel.readExact(I)V -/
def B_M_readExact_77 (post : Unit → nf_M → Prop) (M : nf_M) : Prop :=
 ∀ M1 : nf_M, M1 = ms_I M 19 9 (3 : Int32) → (post () M1)
def B_M_readExact_166 (post : Unit → nf_M → Prop) (xy0 : Int32) (M : nf_M) : Prop :=
 ∀ M1 : nf_M, M1 = ms_I M 19 9 xy0 → (post () M1)
def B_M_readExact_162 (post : Unit → nf_M → Prop) (M : nf_M) : Prop :=
 B_M_readExact_166 post (mg_I M 19 9) M
def B_M_readExact_118 (post : Unit → nf_M → Prop) (x1 : Int32) (x3 : Int32) (x4 : Int32) (M : nf_M) : Prop :=
 ((6 : Int32) < x4 → ∀ M1 : nf_M, M1 = ms_I M 19 9 (5 : Int32) → (post () M1)) ∧
    (¬ (6 : Int32) < x4 → P_M_settle x3 x4 (0 : Int32) M (fun _ M3 =>
    ((mg_I M3 19 9) = 0 → P_M_fits x1 (mg_L M3 19 10) M3 (fun r4 M5 =>
    (r4 = 0 → B_M_readExact_166 post (3 : Int32) M5) ∧
    (¬ r4 = 0 → B_M_readExact_162 post  M5))) ∧
    (¬ (mg_I M3 19 9) = 0 → B_M_readExact_162 post  M3)))
def B_M_readExact_83 (post : Unit → nf_M → Prop) : Nat → Int32 → Int32 → Int32 → nf_M → Prop
  | 0, _, _, _, _ => False
  | n + 1, x1, x3, x4, M =>
    (0 < x4 → (vp_in ((mg_I M 19 13) - (1 : Int32)) 80) ∧
    (((mg_I M 26 ((mg_I M 19 13) - (1 : Int32)).toNatClampNeg) = 0 → ∀ t2 : Int32, t2 = (mg_I M 19 13) - (1 : Int32) → (∀ M3 : nf_M, M3 = ms_I M 19 13 t2 → (B_M_readExact_83 post n x1 x3 (x4 + (-1 : Int32)) M3))) ∧
    (¬ (mg_I M 26 ((mg_I M 19 13) - (1 : Int32)).toNatClampNeg) = 0 → B_M_readExact_118 post x1 x3 x4 M))) ∧
    (¬ 0 < x4 → B_M_readExact_118 post x1 x3 x4 M)
def B_M_readExact_56 (post : Unit → nf_M → Prop) (x1 : Int32) (x3 : Int32) (xy0 : Int32) (M : nf_M) : Prop :=
 P_M_digits xy0 M (fun r1 M2 =>
    (r1 < 0 → B_M_readExact_77 post  M2) ∧
    (¬ r1 < 0 → ((mg_I M2 19 15) < (mg_I M2 19 16) → B_M_readExact_77 post  M2) ∧
    (¬ (mg_I M2 19 15) < (mg_I M2 19 16) → ∃ n9 : Nat, B_M_readExact_83 post n9 x1 x3 r1 M2)))
def B_M_readExact_43 (post : Unit → nf_M → Prop) (x1 : Int32) (x3 : Int32) (xy0 : Int32) (M : nf_M) : Prop :=
 ∀ M1 : nf_M, M1 = ms_I M 19 15 xy0 → ((x1 = 0 → B_M_readExact_56 post x1 x3 (1 : Int32) M1) ∧
    (¬ x1 = 0 → B_M_readExact_56 post x1 x3 (0 : Int32) M1))
def B_M_readExact_30 (post : Unit → nf_M → Prop) (x1 : Int32) (x3 : Int32) (M : nf_M) : Prop :=
 B_M_readExact_43 post x1 x3 ((mg_I M 19 15) + (1 : Int32)) M
def B_M_readExact_16 (post : Unit → nf_M → Prop) (x1 : Int32) (x2 : Int32) (xy0 : Int32) (M : nf_M) : Prop :=
 (x2 = (45 : Int32) → B_M_readExact_30 post x1 xy0 M) ∧
    (¬ x2 = (45 : Int32) → (x2 = (43 : Int32) → B_M_readExact_30 post x1 xy0 M) ∧
    (¬ x2 = (43 : Int32) → B_M_readExact_43 post x1 xy0 (mg_I M 19 15) M))
def P_M_readExact (x1 : Int32) (M : nf_M) (post : Unit → nf_M → Prop) : Prop :=
 P_M_here  M (fun r1 M2 =>
    (r1 = (45 : Int32) → B_M_readExact_16 post x1 r1 (1 : Int32) M2) ∧
    (¬ r1 = (45 : Int32) → B_M_readExact_16 post x1 r1 (0 : Int32) M2))
/-- NumberForgeModel.isWord(IIII)Z -/
def B_M_isWord_50 (post : Int32 → nf_M → Prop) (xy0 : Int32) (M : nf_M) : Prop :=
 (narrow .boolean (.int xy0) = .int xy0) ∧ post xy0 M
def B_M_isWord_49 (post : Int32 → nf_M → Prop) (M : nf_M) : Prop :=
 B_M_isWord_50 post (0 : Int32) M
def P_M_isWord (x1 : Int32) (x2 : Int32) (x3 : Int32) (x4 : Int32) (M : nf_M) (post : Int32 → nf_M → Prop) : Prop :=
 (((mg_I M 19 16) - x1) = (3 : Int32) → (vp_in x1 40) ∧
    (((mg_I M 20 x1.toNatClampNeg) = x2 → (vp_in (x1 + (1 : Int32)) 40) ∧
    (((mg_I M 20 (x1 + (1 : Int32)).toNatClampNeg) = x3 → (vp_in (x1 + (2 : Int32)) 40) ∧
    (((mg_I M 20 (x1 + (2 : Int32)).toNatClampNeg) = x4 → B_M_isWord_50 post (1 : Int32) M) ∧
    (¬ (mg_I M 20 (x1 + (2 : Int32)).toNatClampNeg) = x4 → B_M_isWord_49 post  M))) ∧
    (¬ (mg_I M 20 (x1 + (1 : Int32)).toNatClampNeg) = x3 → B_M_isWord_49 post  M))) ∧
    (¬ (mg_I M 20 x1.toNatClampNeg) = x2 → B_M_isWord_49 post  M))) ∧
    (¬ ((mg_I M 19 16) - x1) = (3 : Int32) → B_M_isWord_49 post  M)
/-- NumberForgeModel.exponent()I -/
def B_M_exponent_36 (post : Int32 → nf_M → Prop) (xy0 : Int32) (M : nf_M) : Prop :=
 post xy0 M
def B_M_exponent_175 (post : Int32 → nf_M → Prop) (xy0 : Int32) (M : nf_M) : Prop :=
 post xy0 M
def B_M_exponent_159 (post : Int32 → nf_M → Prop) (M : nf_M) : Prop :=
 B_M_exponent_175 post (9999 : Int32) M
def B_M_exponent_143 (post : Int32 → nf_M → Prop) (x2 : Int32) (x3 : Int32) (x4 : Int32) (M : nf_M) : Prop :=
 (x4 = 0 → B_M_exponent_159 post  M) ∧
    (¬ x4 = 0 → ((mg_I M 19 15) < (mg_I M 19 16) → B_M_exponent_159 post  M) ∧
    (¬ (mg_I M 19 15) < (mg_I M 19 16) → (x2 = 0 → B_M_exponent_175 post x3 M) ∧
    (¬ x2 = 0 → B_M_exponent_175 post (-x3) M)))
def B_M_exponent_98 (post : Int32 → nf_M → Prop) : Nat → Int32 → Int32 → Int32 → nf_M → Prop
  | 0, _, _, _, _ => False
  | n + 1, x2, x3, x4, M =>
    P_M_here  M (fun r1 M2 =>
    P_M_isDigit r1 M2 (fun r3 M4 =>
    (r3 = 0 → B_M_exponent_143 post x2 x3 x4 M4) ∧
    (¬ r3 = 0 → (x4 < (3 : Int32) → P_M_here  M4 (fun r5 M6 =>
    ∀ t7 : Int32, t7 = (((10 : Int32) * x3) + r5) - (48 : Int32) → (∀ t8 : Int32, t8 = (mg_I M6 19 15) + (1 : Int32) → (∀ M9 : nf_M, M9 = ms_I M6 19 15 t8 → (B_M_exponent_98 post n x2 t7 (x4 + (1 : Int32)) M9))))) ∧
    (¬ x4 < (3 : Int32) → B_M_exponent_143 post x2 x3 x4 M4))))
def B_M_exponent_90 (post : Int32 → nf_M → Prop) (x2 : Int32) (xy0 : Int32) (M : nf_M) : Prop :=
 ∀ M1 : nf_M, M1 = ms_I M 19 15 xy0 → (∃ n9 : Nat, B_M_exponent_98 post n9 x2 (0 : Int32) (0 : Int32) M1)
def B_M_exponent_77 (post : Int32 → nf_M → Prop) (x2 : Int32) (M : nf_M) : Prop :=
 B_M_exponent_90 post x2 ((mg_I M 19 15) + (1 : Int32)) M
def B_M_exponent_63 (post : Int32 → nf_M → Prop) (x1 : Int32) (xy0 : Int32) (M : nf_M) : Prop :=
 (x1 = (45 : Int32) → B_M_exponent_77 post xy0 M) ∧
    (¬ x1 = (45 : Int32) → (x1 = (43 : Int32) → B_M_exponent_77 post xy0 M) ∧
    (¬ x1 = (43 : Int32) → B_M_exponent_90 post xy0 (mg_I M 19 15) M))
def B_M_exponent_37 (post : Int32 → nf_M → Prop) (M : nf_M) : Prop :=
 ∀ t1 : Int32, t1 = (mg_I M 19 15) + (1 : Int32) → (∀ M2 : nf_M, M2 = ms_I M 19 15 t1 → (P_M_here  M2 (fun r3 M4 =>
    (r3 = (45 : Int32) → B_M_exponent_63 post r3 (1 : Int32) M4) ∧
    (¬ r3 = (45 : Int32) → B_M_exponent_63 post r3 (0 : Int32) M4))))
def P_M_exponent (M : nf_M) (post : Int32 → nf_M → Prop) : Prop :=
 P_M_here  M (fun r1 M2 =>
    (r1 = (101 : Int32) → B_M_exponent_37 post  M2) ∧
    (¬ r1 = (101 : Int32) → P_M_here  M2 (fun r3 M4 =>
    (r3 = (69 : Int32) → B_M_exponent_37 post  M4) ∧
    (¬ r3 = (69 : Int32) → ((mg_I M4 19 15) = (mg_I M4 19 16) → B_M_exponent_36 post (0 : Int32) M4) ∧
    (¬ (mg_I M4 19 15) = (mg_I M4 19 16) → B_M_exponent_36 post (9999 : Int32) M4)))))
/-- NumberForgeModel.power(I)J -/
def B_M_power_27 (post : Int64 → nf_M → Prop) (x1 : Int64) (M : nf_M) : Prop :=
 post x1 M
def B_M_power_4 (post : Int64 → nf_M → Prop) : Nat → Int32 → Int64 → Int32 → nf_M → Prop
  | 0, _, _, _, _ => False
  | n + 1, x0, x1, x3, M =>
    (x3 < x0 → (x3 < (18 : Int32) → ∀ t1 : Int64, t1 = x1 * (10 : Int64) → (B_M_power_4 post n x0 t1 (x3 + (1 : Int32)) M)) ∧
    (¬ x3 < (18 : Int32) → B_M_power_27 post x1 M)) ∧
    (¬ x3 < x0 → B_M_power_27 post x1 M)
def P_M_power (x0 : Int32) (M : nf_M) (post : Int64 → nf_M → Prop) : Prop :=
 ∃ n9 : Nat, B_M_power_4 post n9 x0 (1 : Int64) (0 : Int32) M
/-- NumberForgeModel.ten(I)D -/
def B_M_ten_26 (post : UInt64 → nf_M → Prop) (xy0 : UInt64) (M : nf_M) : Prop :=
 post xy0 M
def P_M_ten (x0 : Int32) (M : nf_M) (post : UInt64 → nf_M → Prop) : Prop :=
 (x0 < (19 : Int32) → P_M_power x0 M (fun r1 M2 =>
    B_M_ten_26 post (FP.l2d r1) M2)) ∧
    (¬ x0 < (19 : Int32) → P_M_power (x0 - (11 : Int32)) M (fun r3 M4 =>
    (vf_n64 (FP.dmul (FP.l2d r3) (4771362005757984768 : UInt64))) ∧
    (B_M_ten_26 post (FP.dmul (FP.l2d r3) (4771362005757984768 : UInt64)) M4)))
/-- NumberForgeModel.readReal(I)V -/
def B_M_readReal_79 (post : Unit → nf_M → Prop) (xy0 : UInt64) (M : nf_M) : Prop :=
 ∀ M1 : nf_M, M1 = ms_D M 19 12 xy0 → (post () M1)
def B_M_readReal_321 (post : Unit → nf_M → Prop) (xy0 : UInt64) (M : nf_M) : Prop :=
 ∀ M1 : nf_M, M1 = ms_D M 19 12 xy0 → (post () M1)
def B_M_readReal_298 (post : Unit → nf_M → Prop) (x1 : Int32) (xy0 : UInt64) (M : nf_M) : Prop :=
 ∀ M1 : nf_M, M1 = ms_D M 19 12 xy0 → ((x1 = (8 : Int32) → (vf_n32 (FP.d2f (mg_D M1 19 12))) ∧
    ((vf_n64 (FP.f2d (FP.d2f (mg_D M1 19 12)))) ∧
    (B_M_readReal_321 post (FP.f2d (FP.d2f (mg_D M1 19 12))) M1))) ∧
    (¬ x1 = (8 : Int32) → B_M_readReal_321 post (mg_D M1 19 12) M1))
def B_M_readReal_283 (post : Unit → nf_M → Prop) (x1 : Int32) (x3 : Int32) (xy0 : UInt64) (M : nf_M) : Prop :=
 (x3 = 0 → B_M_readReal_298 post x1 xy0 M) ∧
    (¬ x3 = 0 → B_M_readReal_298 post x1 (FP.dneg xy0) M)
def B_M_readReal_234 (post : Unit → nf_M → Prop) (x1 : Int32) (x3 : Int32) (x7 : Int32) (x8 : Int64) (xy0 : Int32) (M : nf_M) : Prop :=
 ∀ M1 : nf_M, M1 = ms_I M 19 9 xy0 → ((0 < (mg_I M1 19 9) → post () M1) ∧
    (¬ 0 < (mg_I M1 19 9) → ((mg_I M1 19 13) = 0 → B_M_readReal_283 post x1 x3 (FP.dconst0) M1) ∧
    (¬ (mg_I M1 19 13) = 0 → (x7 < 0 → P_M_ten (-x7) M1 (fun r2 M3 =>
    (vf_n64 (FP.ddiv (FP.l2d x8) r2)) ∧
    (B_M_readReal_283 post x1 x3 (FP.ddiv (FP.l2d x8) r2) M3))) ∧
    (¬ x7 < 0 → P_M_ten x7 M1 (fun r5 M6 =>
    (vf_n64 (FP.dmul (FP.l2d x8) r5)) ∧
    (B_M_readReal_283 post x1 x3 (FP.dmul (FP.l2d x8) r5) M6))))))
def B_M_readReal_226 (post : Unit → nf_M → Prop) (x1 : Int32) (x3 : Int32) (x7 : Int32) (x8 : Int64) (M : nf_M) : Prop :=
 B_M_readReal_234 post x1 x3 x7 x8 (5 : Int32) M
def B_M_readReal_230 (post : Unit → nf_M → Prop) (x1 : Int32) (x3 : Int32) (x7 : Int32) (x8 : Int64) (M : nf_M) : Prop :=
 B_M_readReal_234 post x1 x3 x7 x8 (mg_I M 19 9) M
def B_M_readReal_198 (post : Unit → nf_M → Prop) (x1 : Int32) (x3 : Int32) (x7 : Int32) (M : nf_M) : Prop :=
 P_M_gather  M (fun r1 M2 =>
    (0 < (mg_I M2 19 13) → (x7 < (-22 : Int32) → B_M_readReal_226 post x1 x3 x7 r1 M2) ∧
    (¬ x7 < (-22 : Int32) → ((22 : Int32) < x7 → B_M_readReal_226 post x1 x3 x7 r1 M2) ∧
    (¬ (22 : Int32) < x7 → B_M_readReal_230 post x1 x3 x7 r1 M2))) ∧
    (¬ 0 < (mg_I M2 19 13) → B_M_readReal_230 post x1 x3 x7 r1 M2))
def B_M_readReal_178 (k150 : Int32 → Int32 → Int32 → nf_M → Prop) (post : Unit → nf_M → Prop) (x1 : Int32) (x3 : Int32) (x7 : Int32) (xy0 : Int32) (M : nf_M) : Prop :=
 (vp_in xy0 80) ∧
    (((mg_I M 26 xy0.toNatClampNeg) = 0 → ∀ t2 : Int32, t2 = (mg_I M 19 13) - (1 : Int32) → (∀ M3 : nf_M, M3 = ms_I M 19 13 t2 → (k150 x1 x3 (x7 + (1 : Int32)) M3))) ∧
    (¬ (mg_I M 26 xy0.toNatClampNeg) = 0 → B_M_readReal_198 post x1 x3 x7 M))
def B_M_readReal_150 (post : Unit → nf_M → Prop) : Nat → Int32 → Int32 → Int32 → nf_M → Prop
  | 0, _, _, _, _ => False
  | n + 1, x1, x3, x7, M =>
    (0 < (mg_I M 19 13) → (0 < (mg_I M 19 13) → B_M_readReal_178 (fun x1 x3 x7 z => B_M_readReal_150 post n x1 x3 x7 z) post x1 x3 x7 ((mg_I M 19 13) - (1 : Int32)) M) ∧
    (¬ 0 < (mg_I M 19 13) → B_M_readReal_178 (fun x1 x3 x7 z => B_M_readReal_150 post n x1 x3 x7 z) post x1 x3 x7 (0 : Int32) M)) ∧
    (¬ 0 < (mg_I M 19 13) → B_M_readReal_198 post x1 x3 x7 M)
def B_M_readReal_127 (post : Unit → nf_M → Prop) (x1 : Int32) (x3 : Int32) (x5 : Int32) (xy0 : Int32) (M : nf_M) : Prop :=
 (xy0 = (9999 : Int32) → ∀ M1 : nf_M, M1 = ms_I M 19 9 (3 : Int32) → (post () M1)) ∧
    (¬ xy0 = (9999 : Int32) → ∀ t2 : Int32, t2 = xy0 - x5 → (∃ n9 : Nat, B_M_readReal_150 post n9 x1 x3 t2 M))
def B_M_readReal_102 (post : Unit → nf_M → Prop) (x1 : Int32) (x3 : Int32) (xy0 : Int32) (M : nf_M) : Prop :=
 ∀ M1 : nf_M, M1 = ms_I M 19 15 xy0 → (P_M_digits (1 : Int32) M1 (fun r2 M3 =>
    (r2 < 0 → B_M_readReal_127 post x1 x3 r2 (9999 : Int32) M3) ∧
    (¬ r2 < 0 → P_M_exponent  M3 (fun r4 M5 =>
    B_M_readReal_127 post x1 x3 r2 r4 M5))))
def B_M_readReal_53 (post : Unit → nf_M → Prop) (x1 : Int32) (x3 : Int32) (x4 : Int32) (xy0 : Int32) (M : nf_M) : Prop :=
 P_M_isWord xy0 (73 : Int32) (78 : Int32) (70 : Int32) M (fun r1 M2 =>
    (r1 = 0 → (x4 = 0 → B_M_readReal_102 post x1 x3 (mg_I M2 19 15) M2) ∧
    (¬ x4 = 0 → B_M_readReal_102 post x1 x3 ((mg_I M2 19 15) + (1 : Int32)) M2)) ∧
    (¬ r1 = 0 → (x3 = 0 → B_M_readReal_79 post (9218868437227405312 : UInt64) M2) ∧
    (¬ x3 = 0 → B_M_readReal_79 post (18442240474082181120 : UInt64) M2)))
def B_M_readReal_32 (post : Unit → nf_M → Prop) (x1 : Int32) (x3 : Int32) (xy0 : Int32) (M : nf_M) : Prop :=
 (xy0 = 0 → B_M_readReal_53 post x1 x3 xy0 (mg_I M 19 15) M) ∧
    (¬ xy0 = 0 → B_M_readReal_53 post x1 x3 xy0 ((mg_I M 19 15) + (1 : Int32)) M)
def B_M_readReal_27 (post : Unit → nf_M → Prop) (x1 : Int32) (x3 : Int32) (M : nf_M) : Prop :=
 B_M_readReal_32 post x1 x3 (1 : Int32) M
def B_M_readReal_16 (post : Unit → nf_M → Prop) (x1 : Int32) (x2 : Int32) (xy0 : Int32) (M : nf_M) : Prop :=
 (xy0 = 0 → (x2 = (43 : Int32) → B_M_readReal_27 post x1 xy0 M) ∧
    (¬ x2 = (43 : Int32) → B_M_readReal_32 post x1 xy0 (0 : Int32) M)) ∧
    (¬ xy0 = 0 → B_M_readReal_27 post x1 xy0 M)
def P_M_readReal (x1 : Int32) (M : nf_M) (post : Unit → nf_M → Prop) : Prop :=
 P_M_here  M (fun r1 M2 =>
    (r1 = (45 : Int32) → B_M_readReal_16 post x1 r1 (1 : Int32) M2) ∧
    (¬ r1 = (45 : Int32) → B_M_readReal_16 post x1 r1 (0 : Int32) M2))
/-- NumberForgeModel.store(II)V -/
def B_M_store_69 (post : Unit → nf_M → Prop) (xy0 : UInt64) (xy1 : Int32) (M : nf_M) : Prop :=
 (vp_in xy1 8) ∧
    (∀ M2 : nf_M, M2 = ms_D M 25 xy1.toNatClampNeg xy0 → (post () M2))
def B_M_store_48 (post : Unit → nf_M → Prop) (x1 : Int32) (x2 : Int32) (xy0 : Int32) (xy1 : Int32) (M : nf_M) : Prop :=
 (vp_in xy1 8) ∧
    (∀ M2 : nf_M, M2 = ms_I M 24 xy1.toNatClampNeg xy0 → (P_M_isExact x2 M2 (fun r3 M4 =>
    (r3 = 0 → B_M_store_69 post (mg_D M4 19 12) x1 M4) ∧
    (¬ r3 = 0 → B_M_store_69 post (FP.dconst0) x1 M4))))
def B_M_store_27 (post : Unit → nf_M → Prop) (x1 : Int32) (x2 : Int32) (xy0 : Int64) (xy1 : Int32) (M : nf_M) : Prop :=
 (vp_in xy1 8) ∧
    (∀ M2 : nf_M, M2 = ms_L M 23 xy1.toNatClampNeg xy0 → (P_M_isExact x2 M2 (fun r3 M4 =>
    (r3 = 0 → B_M_store_48 post x1 x2 (0 : Int32) x1 M4) ∧
    (¬ r3 = 0 → B_M_store_48 post x1 x2 (mg_I M4 19 11) x1 M4))))
def P_M_store (x1 : Int32) (x2 : Int32) (M : nf_M) (post : Unit → nf_M → Prop) : Prop :=
 (vp_in x1 8) ∧
    (∀ M2 : nf_M, M2 = ms_I M 22 x1.toNatClampNeg x2 → (P_M_isExact x2 M2 (fun r3 M4 =>
    (r3 = 0 → B_M_store_27 post x1 x2 (0 : Int64) x1 M4) ∧
    (¬ r3 = 0 → B_M_store_27 post x1 x2 (mg_L M4 19 10) x1 M4))))
/-- NumberForgeModel.read(II)V -/
def B_M_read_227 (post : Unit → nf_M → Prop) (M : nf_M) : Prop :=
 post () M
def B_M_read_206 (post : Unit → nf_M → Prop) (x1 : Int32) (x2 : Int32) (xy0 : Int32) (M : nf_M) : Prop :=
 ∀ M1 : nf_M, M1 = ms_I M 19 0 xy0 → (((mg_I M1 19 0) = 0 → P_M_store x1 x2 M1 (fun _ M3 =>
    ∀ M4 : nf_M, M4 = ms_I M3 19 1 (0 : Int32) → (B_M_read_227 post  M4))) ∧
    (¬ (mg_I M1 19 0) = 0 → B_M_read_227 post  M1))
def B_M_read_180 (post : Unit → nf_M → Prop) (x1 : Int32) (x2 : Int32) (M : nf_M) : Prop :=
 ((mg_I M 19 9) = (3 : Int32) → B_M_read_206 post x1 x2 (2 : Int32) M) ∧
    (¬ (mg_I M 19 9) = (3 : Int32) → ((mg_I M 19 9) = (5 : Int32) → B_M_read_206 post x1 x2 (3 : Int32) M) ∧
    (¬ (mg_I M 19 9) = (5 : Int32) → B_M_read_206 post x1 x2 (0 : Int32) M))
def B_M_read_155 (post : Unit → nf_M → Prop) (x1 : Int32) (x2 : Int32) (M : nf_M) : Prop :=
 ∀ M1 : nf_M, M1 = ms_I M 19 9 (0 : Int32) → (P_M_isExact x2 M1 (fun r2 M3 =>
    (r2 = 0 → P_M_readReal x2 M3 (fun _ M5 =>
    B_M_read_180 post x1 x2 M5)) ∧
    (¬ r2 = 0 → P_M_readExact x2 M3 (fun _ M7 =>
    B_M_read_180 post x1 x2 M7))))
def B_M_read_136 (k100 : Int32 → Int32 → nf_M → Prop) (post : Unit → nf_M → Prop) (x1 : Int32) (x2 : Int32) (xy0 : Int32) (M : nf_M) : Prop :=
 (vp_in xy0 40) ∧
    (((mg_I M 20 xy0.toNatClampNeg) = (32 : Int32) → ∀ t2 : Int32, t2 = (mg_I M 19 16) - (1 : Int32) → (∀ M3 : nf_M, M3 = ms_I M 19 16 t2 → (k100 x1 x2 M3))) ∧
    (¬ (mg_I M 20 xy0.toNatClampNeg) = (32 : Int32) → B_M_read_155 post x1 x2 M))
def B_M_read_100 (post : Unit → nf_M → Prop) : Nat → Int32 → Int32 → nf_M → Prop
  | 0, _, _, _ => False
  | n + 1, x1, x2, M =>
    ((mg_I M 19 15) < (mg_I M 19 16) → ((mg_I M 19 15) < (mg_I M 19 16) → B_M_read_136 (fun x1 x2 z => B_M_read_100 post n x1 x2 z) post x1 x2 ((mg_I M 19 16) - (1 : Int32)) M) ∧
    (¬ (mg_I M 19 15) < (mg_I M 19 16) → B_M_read_136 (fun x1 x2 z => B_M_read_100 post n x1 x2 z) post x1 x2 (0 : Int32) M)) ∧
    (¬ (mg_I M 19 15) < (mg_I M 19 16) → B_M_read_155 post x1 x2 M)
def B_M_read_81 (k47 : Int32 → Int32 → nf_M → Prop) (post : Unit → nf_M → Prop) (x1 : Int32) (x2 : Int32) (xy0 : Int32) (M : nf_M) : Prop :=
 (vp_in xy0 40) ∧
    (((mg_I M 20 xy0.toNatClampNeg) = (32 : Int32) → ∀ t2 : Int32, t2 = (mg_I M 19 15) + (1 : Int32) → (∀ M3 : nf_M, M3 = ms_I M 19 15 t2 → (k47 x1 x2 M3))) ∧
    (¬ (mg_I M 20 xy0.toNatClampNeg) = (32 : Int32) → ∃ n9 : Nat, B_M_read_100 post n9 x1 x2 M))
def B_M_read_47 (post : Unit → nf_M → Prop) : Nat → Int32 → Int32 → nf_M → Prop
  | 0, _, _, _ => False
  | n + 1, x1, x2, M =>
    ((mg_I M 19 15) < (mg_I M 19 16) → ((mg_I M 19 15) < (mg_I M 19 16) → B_M_read_81 (fun x1 x2 z => B_M_read_47 post n x1 x2 z) post x1 x2 (mg_I M 19 15) M) ∧
    (¬ (mg_I M 19 15) < (mg_I M 19 16) → B_M_read_81 (fun x1 x2 z => B_M_read_47 post n x1 x2 z) post x1 x2 (0 : Int32) M)) ∧
    (¬ (mg_I M 19 15) < (mg_I M 19 16) → ∃ n9 : Nat, B_M_read_100 post n9 x1 x2 M)
def B_M_read_23 (post : Unit → nf_M → Prop) (x1 : Int32) (x2 : Int32) (xy0 : Int32) (M : nf_M) : Prop :=
 ∀ M1 : nf_M, M1 = ms_I M 19 0 xy0 → ((0 < (mg_I M1 19 0) → post () M1) ∧
    (¬ 0 < (mg_I M1 19 0) → ∀ M2 : nf_M, M2 = ms_I M1 19 15 (0 : Int32) → (∀ t3 : Int32, t3 = mg_I M2 19 1 → (∀ M4 : nf_M, M4 = ms_I M2 19 16 t3 → (∃ n9 : Nat, B_M_read_47 post n9 x1 x2 M4)))))
def B_M_read_18 (post : Unit → nf_M → Prop) (x1 : Int32) (x2 : Int32) (M : nf_M) : Prop :=
 B_M_read_23 post x1 x2 (1 : Int32) M
def P_M_read (x1 : Int32) (x2 : Int32) (M : nf_M) (post : Unit → nf_M → Prop) : Prop :=
 P_M_isRegister x1 M (fun r1 M2 =>
    (r1 = 0 → B_M_read_18 post x1 x2 M2) ∧
    (¬ r1 = 0 → (x2 < 0 → B_M_read_18 post x1 x2 M2) ∧
    (¬ x2 < 0 → ((9 : Int32) < x2 → B_M_read_18 post x1 x2 M2) ∧
    (¬ (9 : Int32) < x2 → B_M_read_23 post x1 x2 (0 : Int32) M2))))
/-- NumberForgeModel.put(IDZ)V -/
def B_M_put_56 (post : Unit → nf_M → Prop) (M : nf_M) : Prop :=
 post () M
def B_M_put_53 (post : Unit → nf_M → Prop) (xy0 : Int32) (xy1 : Int32) (M : nf_M) : Prop :=
 P_M_store xy1 xy0 M (fun _ M2 =>
    B_M_put_56 post  M2)
def B_M_put_36 (post : Unit → nf_M → Prop) (x1 : Int32) (x4 : Int32) (xy0 : UInt64) (M : nf_M) : Prop :=
 ∀ M1 : nf_M, M1 = ms_D M 19 12 xy0 → ((x4 = 0 → B_M_put_53 post (9 : Int32) x1 M1) ∧
    (¬ x4 = 0 → B_M_put_53 post (8 : Int32) x1 M1))
def B_M_put_13 (post : Unit → nf_M → Prop) (x1 : Int32) (x2 : UInt64) (x4 : Int32) (xy0 : Int32) (M : nf_M) : Prop :=
 ∀ M1 : nf_M, M1 = ms_I M 19 0 xy0 → (((mg_I M1 19 0) = 0 → (x4 = 0 → B_M_put_36 post x1 x4 x2 M1) ∧
    (¬ x4 = 0 → (vf_n32 (FP.d2f x2)) ∧
    ((vf_n64 (FP.f2d (FP.d2f x2))) ∧
    (B_M_put_36 post x1 x4 (FP.f2d (FP.d2f x2)) M1)))) ∧
    (¬ (mg_I M1 19 0) = 0 → B_M_put_56 post  M1))
def P_M_put (x1 : Int32) (x2 : UInt64) (x4 : Int32) (M : nf_M) (post : Unit → nf_M → Prop) : Prop :=
 P_M_isRegister x1 M (fun r1 M2 =>
    (r1 = 0 → B_M_put_13 post x1 x2 x4 (1 : Int32) M2) ∧
    (¬ r1 = 0 → B_M_put_13 post x1 x2 x4 (0 : Int32) M2))
/-- NumberForgeModel.common(II)I -/
def B_M_common_64 (post : Int32 → nf_M → Prop) (xy0 : Int32) (M : nf_M) : Prop :=
 post xy0 M
def B_M_common_63 (post : Int32 → nf_M → Prop) (M : nf_M) : Prop :=
 B_M_common_64 post (0 : Int32) M
def B_M_common_30 (post : Int32 → nf_M → Prop) (x1 : Int32) (x2 : Int32) (xy0 : Int32) (M : nf_M) : Prop :=
 ((7 : Int32) < xy0 → B_M_common_64 post xy0 M) ∧
    (¬ (7 : Int32) < xy0 → (vp_in x1 8) ∧
    ((0 < (mg_I M 22 x1.toNatClampNeg) → (vp_in x2 8) ∧
    ((0 < (mg_I M 22 x2.toNatClampNeg) → B_M_common_64 post (1 : Int32) M) ∧
    (¬ 0 < (mg_I M 22 x2.toNatClampNeg) → B_M_common_63 post  M))) ∧
    (¬ 0 < (mg_I M 22 x1.toNatClampNeg) → B_M_common_63 post  M)))
def P_M_common (x1 : Int32) (x2 : Int32) (M : nf_M) (post : Int32 → nf_M → Prop) : Prop :=
 (vp_in x1 8) ∧
    ((vp_in x2 8) ∧
    (((mg_I M 22 x2.toNatClampNeg) < (mg_I M 22 x1.toNatClampNeg) → (vp_in x1 8) ∧
    (B_M_common_30 post x1 x2 (mg_I M 22 x1.toNatClampNeg) M)) ∧
    (¬ (mg_I M 22 x2.toNatClampNeg) < (mg_I M 22 x1.toNatClampNeg) → (vp_in x2 8) ∧
    (B_M_common_30 post x1 x2 (mg_I M 22 x2.toNatClampNeg) M))))
/-- NumberForgeModel.asDouble(I)D -/
def B_M_asDouble_38 (post : UInt64 → nf_M → Prop) (xy0 : UInt64) (M : nf_M) : Prop :=
 post xy0 M
def P_M_asDouble (x1 : Int32) (M : nf_M) (post : UInt64 → nf_M → Prop) : Prop :=
 (vp_in x1 8) ∧
    (P_M_isExact (mg_I M 22 x1.toNatClampNeg) M (fun r2 M3 =>
    (r2 = 0 → (vp_in x1 8) ∧
    (B_M_asDouble_38 post (mg_D M3 25 x1.toNatClampNeg) M3)) ∧
    (¬ r2 = 0 → (vp_in x1 8) ∧
    ((vp_in x1 8) ∧
    (P_M_ten (mg_I M3 24 x1.toNatClampNeg) M3 (fun r7 M8 =>
    (vf_n64 (FP.ddiv (FP.l2d (mg_L M3 23 x1.toNatClampNeg)) r7)) ∧
    (B_M_asDouble_38 post (FP.ddiv (FP.l2d (mg_L M3 23 x1.toNatClampNeg)) r7) M8)))))))
/-- NumberForgeModel.isInfinite(D)Z -/
def B_M_isInfinite_21 (post : Int32 → nf_M → Prop) (xy0 : Int32) (M : nf_M) : Prop :=
 (narrow .boolean (.int xy0) = .int xy0) ∧ post xy0 M
def B_M_isInfinite_16 (post : Int32 → nf_M → Prop) (M : nf_M) : Prop :=
 B_M_isInfinite_21 post (1 : Int32) M
def P_M_isInfinite (x0 : UInt64) (M : nf_M) (post : Int32 → nf_M → Prop) : Prop :=
 (nf_dgt x0 (9218868437227405311 : UInt64) → B_M_isInfinite_16 post  M) ∧
    (¬ nf_dgt x0 (9218868437227405311 : UInt64) → (nf_dlt x0 (18442240474082181119 : UInt64) → B_M_isInfinite_16 post  M) ∧
    (¬ nf_dlt x0 (18442240474082181119 : UInt64) → B_M_isInfinite_21 post (0 : Int32) M))
/-- NumberForgeModel.isOdd(IDD)Z -/
def B_M_isOdd_182 (post : Int32 → nf_M → Prop) (xy0 : Int32) (M : nf_M) : Prop :=
 (narrow .boolean (.int xy0) = .int xy0) ∧ post xy0 M
def B_M_isOdd_115 (post : Int32 → nf_M → Prop) (M : nf_M) : Prop :=
 B_M_isOdd_182 post (0 : Int32) M
def B_M_isOdd_108 (post : Int32 → nf_M → Prop) (xy0 : Int32) (xy1 : Int32) (M : nf_M) : Prop :=
 (xy1 = xy0 → B_M_isOdd_182 post (1 : Int32) M) ∧
    (¬ xy1 = xy0 → B_M_isOdd_115 post  M)
def B_M_isOdd_147 (post : Int32 → nf_M → Prop) (M : nf_M) : Prop :=
 B_M_isOdd_182 post (1 : Int32) M
def B_M_isOdd_177 (post : Int32 → nf_M → Prop) (M : nf_M) : Prop :=
 B_M_isOdd_182 post (1 : Int32) M
def B_M_isOdd_181 (post : Int32 → nf_M → Prop) (M : nf_M) : Prop :=
 B_M_isOdd_182 post (0 : Int32) M
def B_M_isOdd_84 (post : Int32 → nf_M → Prop) (x0 : Int32) (x1 : UInt64) (x3 : UInt64) (x5 : Int32) (x6 : Int32) (xy0 : Int32) (M : nf_M) : Prop :=
 (x0 < (2 : Int32) → (x5 = 0 → B_M_isOdd_115 post  M) ∧
    (¬ x5 = 0 → (x0 = (1 : Int32) → B_M_isOdd_108 post (1 : Int32) x6 M) ∧
    (¬ x0 = (1 : Int32) → B_M_isOdd_108 post (0 : Int32) x6 M))) ∧
    (¬ x0 < (2 : Int32) → (x0 = (2 : Int32) → B_M_isOdd_182 post xy0 M) ∧
    (¬ x0 = (2 : Int32) → (x0 = (5 : Int32) → (nf_deq x3 (FP.dconst0) → B_M_isOdd_147 post  M) ∧
    (¬ nf_deq x3 (FP.dconst0) → P_M_isInfinite x1 M (fun r1 M2 =>
    (r1 = 0 → B_M_isOdd_182 post (0 : Int32) M2) ∧
    (¬ r1 = 0 → B_M_isOdd_147 post  M2)))) ∧
    (¬ x0 = (5 : Int32) → (x5 = 0 → (nf_deq x3 (FP.dconst0) → (nf_deq x1 (FP.dconst0) → B_M_isOdd_177 post  M) ∧
    (¬ nf_deq x1 (FP.dconst0) → (x0 = (4 : Int32) → B_M_isOdd_177 post  M) ∧
    (¬ x0 = (4 : Int32) → B_M_isOdd_181 post  M))) ∧
    (¬ nf_deq x3 (FP.dconst0) → B_M_isOdd_181 post  M)) ∧
    (¬ x5 = 0 → B_M_isOdd_177 post  M))))
def B_M_isOdd_79 (post : Int32 → nf_M → Prop) (x0 : Int32) (x1 : UInt64) (x3 : UInt64) (x5 : Int32) (x6 : Int32) (M : nf_M) : Prop :=
 B_M_isOdd_84 post x0 x1 x3 x5 x6 (1 : Int32) M
def B_M_isOdd_83 (post : Int32 → nf_M → Prop) (x0 : Int32) (x1 : UInt64) (x3 : UInt64) (x5 : Int32) (x6 : Int32) (M : nf_M) : Prop :=
 B_M_isOdd_84 post x0 x1 x3 x5 x6 (0 : Int32) M
def B_M_isOdd_66 (post : Int32 → nf_M → Prop) (x0 : Int32) (x1 : UInt64) (x3 : UInt64) (x5 : Int32) (x6 : Int32) (M : nf_M) : Prop :=
 P_M_isInfinite x1 M (fun r1 M2 =>
    (r1 = 0 → B_M_isOdd_83 post x0 x1 x3 x5 x6 M2) ∧
    (¬ r1 = 0 → (nf_deq x3 (FP.dconst0) → B_M_isOdd_79 post x0 x1 x3 x5 x6 M2) ∧
    (¬ nf_deq x3 (FP.dconst0) → B_M_isOdd_83 post x0 x1 x3 x5 x6 M2)))
def B_M_isOdd_51 (post : Int32 → nf_M → Prop) (x0 : Int32) (x1 : UInt64) (x3 : UInt64) (x5 : Int32) (xy0 : Int32) (M : nf_M) : Prop :=
 (nf_deq x1 (FP.dconst0) → P_M_isInfinite x3 M (fun r1 M2 =>
    (r1 = 0 → B_M_isOdd_66 post x0 x1 x3 x5 xy0 M2) ∧
    (¬ r1 = 0 → B_M_isOdd_79 post x0 x1 x3 x5 xy0 M2))) ∧
    (¬ nf_deq x1 (FP.dconst0) → B_M_isOdd_66 post x0 x1 x3 x5 xy0 M)
def B_M_isOdd_43 (post : Int32 → nf_M → Prop) (x0 : Int32) (x1 : UInt64) (x3 : UInt64) (x5 : Int32) (xy0 : Int32) (xy1 : Int32) (M : nf_M) : Prop :=
 (xy1 = xy0 → B_M_isOdd_51 post x0 x1 x3 x5 (1 : Int32) M) ∧
    (¬ xy1 = xy0 → B_M_isOdd_51 post x0 x1 x3 x5 (0 : Int32) M)
def B_M_isOdd_32 (post : Int32 → nf_M → Prop) (x0 : Int32) (x1 : UInt64) (x3 : UInt64) (x5 : Int32) (xy0 : Int32) (M : nf_M) : Prop :=
 (nf_dgt x3 (FP.dconst0) → B_M_isOdd_43 post x0 x1 x3 x5 (1 : Int32) xy0 M) ∧
    (¬ nf_dgt x3 (FP.dconst0) → B_M_isOdd_43 post x0 x1 x3 x5 (0 : Int32) xy0 M)
def B_M_isOdd_19 (post : Int32 → nf_M → Prop) (x0 : Int32) (x1 : UInt64) (x3 : UInt64) (xy0 : Int32) (M : nf_M) : Prop :=
 (nf_dgt x1 (FP.dconst0) → B_M_isOdd_32 post x0 x1 x3 xy0 (1 : Int32) M) ∧
    (¬ nf_dgt x1 (FP.dconst0) → B_M_isOdd_32 post x0 x1 x3 xy0 (0 : Int32) M)
def B_M_isOdd_18 (post : Int32 → nf_M → Prop) (x0 : Int32) (x1 : UInt64) (x3 : UInt64) (M : nf_M) : Prop :=
 B_M_isOdd_19 post x0 x1 x3 (0 : Int32) M
def P_M_isOdd (x0 : Int32) (x1 : UInt64) (x3 : UInt64) (M : nf_M) (post : Int32 → nf_M → Prop) : Prop :=
 P_M_isInfinite x1 M (fun r1 M2 =>
    (r1 = 0 → B_M_isOdd_18 post x0 x1 x3 M2) ∧
    (¬ r1 = 0 → P_M_isInfinite x3 M2 (fun r3 M4 =>
    (r3 = 0 → B_M_isOdd_18 post x0 x1 x3 M4) ∧
    (¬ r3 = 0 → B_M_isOdd_19 post x0 x1 x3 (1 : Int32) M4))))
/-- NumberForgeModel.wholePart(D)V -/
def B_M_wholePart_50 (post : Unit → nf_M → Prop) (M : nf_M) : Prop :=
 post () M
def B_M_wholePart_31 (post : Unit → nf_M → Prop) (M : nf_M) : Prop :=
 ∀ M1 : nf_M, M1 = ms_I M 19 9 (5 : Int32) → (B_M_wholePart_50 post  M1)
def P_M_wholePart (x1 : UInt64) (M : nf_M) (post : Unit → nf_M → Prop) : Prop :=
 P_M_isInfinite x1 M (fun r1 M2 =>
    (r1 = 0 → (nf_dge x1 (4831355200913801216 : UInt64) → B_M_wholePart_31 post  M2) ∧
    (¬ nf_dge x1 (4831355200913801216 : UInt64) → (nf_dle x1 (14054727237768577024 : UInt64) → B_M_wholePart_31 post  M2) ∧
    (¬ nf_dle x1 (14054727237768577024 : UInt64) → ∀ t3 : Int64, t3 = FP.d2l x1 → (∀ M4 : nf_M, M4 = ms_L M2 19 10 t3 → (∀ M5 : nf_M, M5 = ms_I M4 19 11 (0 : Int32) → (B_M_wholePart_50 post  M5)))))) ∧
    (¬ r1 = 0 → ∀ M6 : nf_M, M6 = ms_I M2 19 9 (4 : Int32) → (B_M_wholePart_50 post  M6)))
/-- NumberForgeModel.reckonDouble(IDD)V -/
def B_M_reckonDouble_89 (post : Unit → nf_M → Prop) (M : nf_M) : Prop :=
 post () M
def B_M_reckonDouble_86 (post : Unit → nf_M → Prop) (xy0 : UInt64) (M : nf_M) : Prop :=
 ∀ M1 : nf_M, M1 = ms_D M 19 12 xy0 → (B_M_reckonDouble_89 post  M1)
def P_M_reckonDouble (x1 : Int32) (x2 : UInt64) (x4 : UInt64) (M : nf_M) (post : Unit → nf_M → Prop) : Prop :=
 P_M_isOdd x1 x2 x4 M (fun r1 M2 =>
    (r1 = 0 → (x1 = (4 : Int32) → (vf_n64 (FP.ddiv x2 x4)) ∧
    (P_M_wholePart (FP.ddiv x2 x4) M2 (fun _ M5 =>
    B_M_reckonDouble_89 post  M5))) ∧
    (¬ x1 = (4 : Int32) → (x1 = 0 → (vf_n64 (FP.dadd x2 x4)) ∧
    (B_M_reckonDouble_86 post (FP.dadd x2 x4) M2)) ∧
    (¬ x1 = 0 → (x1 = (1 : Int32) → (vf_n64 (FP.dsub x2 x4)) ∧
    (B_M_reckonDouble_86 post (FP.dsub x2 x4) M2)) ∧
    (¬ x1 = (1 : Int32) → (x1 = (2 : Int32) → (vf_n64 (FP.dmul x2 x4)) ∧
    (B_M_reckonDouble_86 post (FP.dmul x2 x4) M2)) ∧
    (¬ x1 = (2 : Int32) → (x1 = (3 : Int32) → (vf_n64 (FP.ddiv x2 x4)) ∧
    (B_M_reckonDouble_86 post (FP.ddiv x2 x4) M2)) ∧
    (¬ x1 = (3 : Int32) → (vf_n64 (FP.drem x2 x4)) ∧
    (B_M_reckonDouble_86 post (FP.drem x2 x4) M2))))))) ∧
    (¬ r1 = 0 → ∀ M11 : nf_M, M11 = ms_I M2 19 9 (4 : Int32) → (B_M_reckonDouble_89 post  M11)))
/-- NumberForgeModel.reckonFloat(IFF)V -/
def B_M_reckonFloat_94 (post : Unit → nf_M → Prop) (M : nf_M) : Prop :=
 post () M
def B_M_reckonFloat_85 (post : Unit → nf_M → Prop) (xy0 : UInt32) (M : nf_M) : Prop :=
 (vf_n64 (FP.f2d xy0)) ∧
    (∀ t2 : UInt64, t2 = FP.f2d xy0 → (∀ M3 : nf_M, M3 = ms_D M 19 12 t2 → (B_M_reckonFloat_94 post  M3)))
def P_M_reckonFloat (x1 : Int32) (x2 : UInt32) (x3 : UInt32) (M : nf_M) (post : Unit → nf_M → Prop) : Prop :=
 (vf_n64 (FP.f2d x2)) ∧
    ((vf_n64 (FP.f2d x3)) ∧
    (P_M_isOdd x1 (FP.f2d x2) (FP.f2d x3) M (fun r3 M4 =>
    (r3 = 0 → (x1 = (4 : Int32) → (vf_n32 (FP.fdiv x2 x3)) ∧
    (∀ t6 : UInt32, t6 = FP.fdiv x2 x3 → ((vf_n64 (FP.f2d t6)) ∧
    (P_M_wholePart (FP.f2d t6) M4 (fun _ M9 =>
    B_M_reckonFloat_94 post  M9))))) ∧
    (¬ x1 = (4 : Int32) → (x1 = 0 → (vf_n32 (FP.fadd x2 x3)) ∧
    (B_M_reckonFloat_85 post (FP.fadd x2 x3) M4)) ∧
    (¬ x1 = 0 → (x1 = (1 : Int32) → (vf_n32 (FP.fsub x2 x3)) ∧
    (B_M_reckonFloat_85 post (FP.fsub x2 x3) M4)) ∧
    (¬ x1 = (1 : Int32) → (x1 = (2 : Int32) → (vf_n32 (FP.fmul x2 x3)) ∧
    (B_M_reckonFloat_85 post (FP.fmul x2 x3) M4)) ∧
    (¬ x1 = (2 : Int32) → (x1 = (3 : Int32) → (vf_n32 (FP.fdiv x2 x3)) ∧
    (B_M_reckonFloat_85 post (FP.fdiv x2 x3) M4)) ∧
    (¬ x1 = (3 : Int32) → (vf_n32 (FP.frem x2 x3)) ∧
    (B_M_reckonFloat_85 post (FP.frem x2 x3) M4))))))) ∧
    (¬ r3 = 0 → ∀ M15 : nf_M, M15 = ms_I M4 19 9 (4 : Int32) → (B_M_reckonFloat_94 post  M15)))))
/-- NumberForgeModel.millionths(JI)J -/
def P_M_millionths (x0 : Int64) (x2 : Int32) (M : nf_M) (post : Int64 → nf_M → Prop) : Prop :=
 P_M_power x2 M (fun r1 M2 =>
    (¬ r1 = 0) ∧
    (P_M_power ((6 : Int32) - x2) M2 (fun r4 M5 =>
    post ((x0 - x0 / r1 * r1) * r4) M5)))
/-- NumberForgeModel.amount(J)J -/
def B_M_amount_12 (post : Int64 → nf_M → Prop) (xy0 : Int64) (M : nf_M) : Prop :=
 post xy0 M
def P_M_amount (x0 : Int64) (M : nf_M) (post : Int64 → nf_M → Prop) : Prop :=
 (x0 < (0 : Int64) → B_M_amount_12 post (-x0) M) ∧
    (¬ x0 < (0 : Int64) → B_M_amount_12 post x0 M)
/-- NumberForgeModel.addDigits(JI)V -/
def B_M_addDigits_5 (post : Unit → nf_M → Prop) : Nat → Int64 → Int32 → nf_M → Prop
  | 0, _, _, _ => False
  | n + 1, x1, x4, M =>
    (x4 < 0 → post () M) ∧
    (¬ x4 < 0 → P_M_power x4 M (fun r1 M2 =>
    (¬ r1 = 0) ∧
    (∀ t4 : Int32, t4 = ((x1 / r1) - (x1 / r1) / (10 : Int64) * (10 : Int64)).toInt32 → ((vp_in (mg_I M 19 13) 80) ∧
    (∀ M6 : nf_M, M6 = ms_I M2 26 (mg_I M 19 13).toNatClampNeg t4 → (∀ t7 : Int32, t7 = (mg_I M6 19 13) + (1 : Int32) → (∀ M8 : nf_M, M8 = ms_I M6 19 13 t7 → (B_M_addDigits_5 post n x1 (x4 + (-1 : Int32)) M8))))))))
def P_M_addDigits (x1 : Int64) (x3 : Int32) (M : nf_M) (post : Unit → nf_M → Prop) : Prop :=
 ∀ t1 : Int32, t1 = x3 - (1 : Int32) → (∃ n9 : Nat, B_M_addDigits_5 post n9 x1 t1 M)
/-- NumberForgeModel.sum(JIJI)V -/
def B_M_sum_157 (post : Unit → nf_M → Prop) (xy0 : Int32) (M : nf_M) : Prop :=
 P_M_settle xy0 (6 : Int32) (0 : Int32) M (fun _ M2 =>
    post () M2)
def B_M_sum_152 (post : Unit → nf_M → Prop) (M : nf_M) : Prop :=
 B_M_sum_157 post (1 : Int32) M
def B_M_sum_110 (post : Unit → nf_M → Prop) (x7 : Int64) (x9 : Int64) (M : nf_M) : Prop :=
 ∀ M1 : nf_M, M1 = ms_I M 19 13 (0 : Int32) → (P_M_amount x7 M1 (fun r2 M3 =>
    P_M_addDigits r2 (19 : Int32) M3 (fun _ M5 =>
    P_M_amount x9 M5 (fun r6 M7 =>
    P_M_addDigits r6 (6 : Int32) M7 (fun _ M9 =>
    (x7 < (0 : Int64) → B_M_sum_152 post  M9) ∧
    (¬ x7 < (0 : Int64) → (x9 < (0 : Int64) → B_M_sum_152 post  M9) ∧
    (¬ x9 < (0 : Int64) → B_M_sum_157 post (0 : Int32) M9)))))))
def B_M_sum_82 (post : Unit → nf_M → Prop) (x7 : Int64) (x9 : Int64) (M : nf_M) : Prop :=
 (x7 < (0 : Int64) → ((0 : Int64) < x9 → ∀ t1 : Int64, t1 = x7 + (1 : Int64) → (∀ t2 : Int64, t2 = x9 - (1000000 : Int64) → (B_M_sum_110 post t1 t2 M))) ∧
    (¬ (0 : Int64) < x9 → B_M_sum_110 post x7 x9 M)) ∧
    (¬ x7 < (0 : Int64) → B_M_sum_110 post x7 x9 M)
def P_M_sum (x1 : Int64) (x3 : Int32) (x4 : Int64) (x6 : Int32) (M : nf_M) (post : Unit → nf_M → Prop) : Prop :=
 P_M_power x3 M (fun r1 M2 =>
    (¬ r1 = 0) ∧
    (P_M_power x6 M2 (fun r4 M5 =>
    (¬ r4 = 0) ∧
    (∀ t7 : Int64, t7 = (x1 / r1) + (x4 / r4) → (P_M_millionths x1 x3 M5 (fun r8 M9 =>
    P_M_millionths x4 x6 M9 (fun r10 M11 =>
    ∀ t12 : Int64, t12 = r8 + r10 → (∀ t13 : Int64, t13 = t7 + (t12 / (1000000 : Int64)) → (∀ t14 : Int64, t14 = t12 - t12 / (1000000 : Int64) * (1000000 : Int64) → (((0 : Int64) < t13 → (t14 < (0 : Int64) → ∀ t15 : Int64, t15 = t13 - (1 : Int64) → (∀ t16 : Int64, t16 = t14 + (1000000 : Int64) → (B_M_sum_110 post t15 t16 M11))) ∧
    (¬ t14 < (0 : Int64) → B_M_sum_82 post t13 t14 M11)) ∧
    (¬ (0 : Int64) < t13 → B_M_sum_82 post t13 t14 M11)))))))))))
/-- NumberForgeModel.product(JIJI)V -/
def B_M_product_155 (post : Unit → nf_M → Prop) (x3 : Int32) (x6 : Int32) (xy0 : Int32) (M : nf_M) : Prop :=
 P_M_settle xy0 (x3 + x6) (0 : Int32) M (fun _ M2 =>
    post () M2)
def B_M_product_147 (post : Unit → nf_M → Prop) (x3 : Int32) (x6 : Int32) (xy0 : Int32) (xy1 : Int32) (M : nf_M) : Prop :=
 (xy1 = xy0 → B_M_product_155 post x3 x6 (0 : Int32) M) ∧
    (¬ xy1 = xy0 → B_M_product_155 post x3 x6 (1 : Int32) M)
def B_M_product_135 (post : Unit → nf_M → Prop) (x3 : Int32) (x4 : Int64) (x6 : Int32) (xy0 : Int32) (M : nf_M) : Prop :=
 (x4 < (0 : Int64) → B_M_product_147 post x3 x6 (1 : Int32) xy0 M) ∧
    (¬ x4 < (0 : Int64) → B_M_product_147 post x3 x6 (0 : Int32) xy0 M)
def P_M_product (x1 : Int64) (x3 : Int32) (x4 : Int64) (x6 : Int32) (M : nf_M) (post : Unit → nf_M → Prop) : Prop :=
 P_M_amount x1 M (fun r1 M2 =>
    P_M_amount x4 M2 (fun r3 M4 =>
    ∀ t5 : Int64, t5 = r1 - r1 / (100000000 : Int64) * (100000000 : Int64) → (∀ t6 : Int64, t6 = r1 / (100000000 : Int64) → (∀ t7 : Int64, t7 = r3 - r3 / (100000000 : Int64) * (100000000 : Int64) → (∀ t8 : Int64, t8 = r3 / (100000000 : Int64) → (∀ t9 : Int64, t9 = t5 * t7 → (∀ t10 : Int64, t10 = ((t5 * t8) + (t6 * t7)) + (t9 / (100000000 : Int64)) → (∀ t11 : Int64, t11 = (t6 * t8) + (t10 / (100000000 : Int64)) → (∀ M12 : nf_M, M12 = ms_I M4 19 13 (0 : Int32) → (P_M_addDigits t11 (19 : Int32) M12 (fun _ M14 =>
    P_M_addDigits (t10 - t10 / (100000000 : Int64) * (100000000 : Int64)) (8 : Int32) M14 (fun _ M16 =>
    P_M_addDigits (t9 - t9 / (100000000 : Int64) * (100000000 : Int64)) (8 : Int32) M16 (fun _ M18 =>
    (x1 < (0 : Int64) → B_M_product_135 post x3 x4 x6 (1 : Int32) M18) ∧
    (¬ x1 < (0 : Int64) → B_M_product_135 post x3 x4 x6 (0 : Int32) M18))))))))))))))
/-- NumberForgeModel.quotient(JIJIZ)V -/
def B_M_quotient_231 (post : Unit → nf_M → Prop) (xy0 : Int32) (xy1 : Int32) (xy2 : Int32) (M : nf_M) : Prop :=
 P_M_settle xy2 xy1 xy0 M (fun _ M2 =>
    post () M2)
def B_M_quotient_220 (post : Unit → nf_M → Prop) (x7 : Int32) (x15 : Int32) (xy0 : Int32) (xy1 : Int32) (M : nf_M) : Prop :=
 (x7 = 0 → B_M_quotient_231 post (0 : Int32) xy0 xy1 M) ∧
    (¬ x7 = 0 → B_M_quotient_231 post x15 xy0 xy1 M)
def B_M_quotient_209 (post : Unit → nf_M → Prop) (x7 : Int32) (x15 : Int32) (xy0 : Int32) (M : nf_M) : Prop :=
 (x7 = 0 → B_M_quotient_220 post x7 x15 (0 : Int32) xy0 M) ∧
    (¬ x7 = 0 → B_M_quotient_220 post x7 x15 (6 : Int32) xy0 M)
def B_M_quotient_201 (post : Unit → nf_M → Prop) (x7 : Int32) (x15 : Int32) (xy0 : Int32) (xy1 : Int32) (M : nf_M) : Prop :=
 (xy1 = xy0 → B_M_quotient_209 post x7 x15 (0 : Int32) M) ∧
    (¬ xy1 = xy0 → B_M_quotient_209 post x7 x15 (1 : Int32) M)
def B_M_quotient_189 (post : Unit → nf_M → Prop) (x4 : Int64) (x7 : Int32) (x15 : Int32) (xy0 : Int32) (M : nf_M) : Prop :=
 (x4 < (0 : Int64) → B_M_quotient_201 post x7 x15 (1 : Int32) xy0 M) ∧
    (¬ x4 < (0 : Int64) → B_M_quotient_201 post x7 x15 (0 : Int32) xy0 M)
def B_M_quotient_175 (post : Unit → nf_M → Prop) (x1 : Int64) (x4 : Int64) (x7 : Int32) (xy0 : Int32) (M : nf_M) : Prop :=
 (x1 < (0 : Int64) → B_M_quotient_189 post x4 x7 xy0 (1 : Int32) M) ∧
    (¬ x1 < (0 : Int64) → B_M_quotient_189 post x4 x7 xy0 (0 : Int32) M)
def B_M_quotient_130 (post : Unit → nf_M → Prop) (x1 : Int64) (x4 : Int64) (x7 : Int32) (x10 : Int64) (x12 : Int64) (xy0 : Int32) (M : nf_M) : Prop :=
 ∀ M1 : nf_M, M1 = ms_I M 19 13 xy0 → ((x12 = (0 : Int64) → B_M_quotient_175 post x1 x4 x7 (0 : Int32) M1) ∧
    (¬ x12 = (0 : Int64) → ((x10 - x12) < x12 → B_M_quotient_175 post x1 x4 x7 (3 : Int32) M1) ∧
    (¬ (x10 - x12) < x12 → (x12 = (x10 - x12) → B_M_quotient_175 post x1 x4 x7 (2 : Int32) M1) ∧
    (¬ x12 = (x10 - x12) → B_M_quotient_175 post x1 x4 x7 (1 : Int32) M1))))
def B_M_quotient_57 (post : Unit → nf_M → Prop) : Nat → Int64 → Int64 → Int32 → Int64 → Int64 → Int32 → Int32 → nf_M → Prop
  | 0, _, _, _, _, _, _, _, _ => False
  | n + 1, x1, x4, x7, x10, x12, x14, x15, M =>
    (x15 < x14 → ∀ t1 : Int64, t1 = x12 * (10 : Int64) → ((¬ x10 = 0) ∧
    (∀ t3 : Int32, t3 = (t1 / x10).toInt32 → ((vp_in (mg_I M 19 13) 80) ∧
    (∀ M5 : nf_M, M5 = ms_I M 26 (mg_I M 19 13).toNatClampNeg t3 → ((¬ x10 = 0) ∧
    (∀ t7 : Int64, t7 = t1 - t1 / x10 * x10 → (∀ t8 : Int32, t8 = (mg_I M5 19 13) + (1 : Int32) → (∀ M9 : nf_M, M9 = ms_I M5 19 13 t8 → (B_M_quotient_57 post n x1 x4 x7 x10 t7 x14 (x15 + (1 : Int32)) M9)))))))))) ∧
    (¬ x15 < x14 → (x14 < 0 → B_M_quotient_130 post x1 x4 x7 x10 x12 ((mg_I M 19 13) + x14) M) ∧
    (¬ x14 < 0 → B_M_quotient_130 post x1 x4 x7 x10 x12 (mg_I M 19 13) M))
def B_M_quotient_51 (post : Unit → nf_M → Prop) (x1 : Int64) (x4 : Int64) (x7 : Int32) (x10 : Int64) (x12 : Int64) (xy0 : Int32) (xy1 : Int32) (M : nf_M) : Prop :=
 ∀ t1 : Int32, t1 = xy1 + xy0 → (∃ n9 : Nat, B_M_quotient_57 post n9 x1 x4 x7 x10 x12 t1 (0 : Int32) M)
def P_M_quotient (x1 : Int64) (x3 : Int32) (x4 : Int64) (x6 : Int32) (x7 : Int32) (M : nf_M) (post : Unit → nf_M → Prop) : Prop :=
 P_M_amount x1 M (fun r1 M2 =>
    P_M_amount x4 M2 (fun r3 M4 =>
    ∀ M5 : nf_M, M5 = ms_I M4 19 13 (0 : Int32) → ((¬ r3 = 0) ∧
    (P_M_addDigits (r1 / r3) (19 : Int32) M5 (fun _ M8 =>
    (¬ r3 = 0) ∧
    (∀ t10 : Int64, t10 = r1 - r1 / r3 * r3 → ((x7 = 0 → B_M_quotient_51 post x1 x4 x7 r3 t10 (0 : Int32) (x6 - x3) M8) ∧
    (¬ x7 = 0 → B_M_quotient_51 post x1 x4 x7 r3 t10 (6 : Int32) (x6 - x3) M8))))))))
/-- NumberForgeModel.keep(JI)V -/
def B_M_keep_27 (post : Unit → nf_M → Prop) (x3 : Int32) (xy0 : Int32) (M : nf_M) : Prop :=
 P_M_settle xy0 x3 (0 : Int32) M (fun _ M2 =>
    post () M2)
def P_M_keep (x1 : Int64) (x3 : Int32) (M : nf_M) (post : Unit → nf_M → Prop) : Prop :=
 ∀ M1 : nf_M, M1 = ms_I M 19 13 (0 : Int32) → (P_M_amount x1 M1 (fun r2 M3 =>
    P_M_addDigits r2 (19 : Int32) M3 (fun _ M5 =>
    (x1 < (0 : Int64) → B_M_keep_27 post x3 (1 : Int32) M5) ∧
    (¬ x1 < (0 : Int64) → B_M_keep_27 post x3 (0 : Int32) M5))))
/-- NumberForgeModel.left(JIJI)V -/
def B_M_left_117 (post : Unit → nf_M → Prop) (xy0 : Int32) (xy1 : Int64) (M : nf_M) : Prop :=
 P_M_keep xy1 xy0 M (fun _ M2 =>
    post () M2)
def B_M_left_105 (post : Unit → nf_M → Prop) (x3 : Int32) (x6 : Int32) (xy0 : Int64) (M : nf_M) : Prop :=
 (x3 < x6 → B_M_left_117 post x6 xy0 M) ∧
    (¬ x3 < x6 → B_M_left_117 post x3 xy0 M)
def B_M_left_66 (post : Unit → nf_M → Prop) : Nat → Int64 → Int32 → Int32 → Int64 → Int64 → Int32 → nf_M → Prop
  | 0, _, _, _, _, _, _, _ => False
  | n + 1, x1, x3, x6, x9, x11, x13, M =>
    (x13 < x6 → (¬ x9 = 0) ∧
    (∀ t2 : Int64, t2 = (x11 * (10 : Int64)) - (x11 * (10 : Int64)) / x9 * x9 → (B_M_left_66 post n x1 x3 x6 x9 t2 (x13 + (1 : Int32)) M))) ∧
    (¬ x13 < x6 → (x1 < (0 : Int64) → B_M_left_105 post x3 x6 (-x11) M) ∧
    (¬ x1 < (0 : Int64) → B_M_left_105 post x3 x6 x11 M))
def B_M_left_61 (post : Unit → nf_M → Prop) (x1 : Int64) (x3 : Int32) (x6 : Int32) (x9 : Int64) (xy0 : Int64) (M : nf_M) : Prop :=
 ∃ n9 : Nat, B_M_left_66 post n9 x1 x3 x6 x9 xy0 x3 M
def P_M_left (x1 : Int64) (x3 : Int32) (x4 : Int64) (x6 : Int32) (M : nf_M) (post : Unit → nf_M → Prop) : Prop :=
 P_M_amount x1 M (fun r1 M2 =>
    P_M_amount x4 M2 (fun r3 M4 =>
    (x6 < x3 → P_M_power (x3 - x6) M4 (fun r5 M6 =>
    (¬ r5 = 0) ∧
    (((r1 / r5) < r3 → B_M_left_61 post x1 x3 x6 r3 r1 M6) ∧
    (¬ (r1 / r5) < r3 → P_M_power (x3 - x6) M6 (fun r8 M9 =>
    (¬ (r3 * r8) = 0) ∧
    (B_M_left_61 post x1 x3 x6 r3 (r1 - r1 / (r3 * r8) * (r3 * r8)) M9)))))) ∧
    (¬ x6 < x3 → (¬ r3 = 0) ∧
    (B_M_left_61 post x1 x3 x6 r3 (r1 - r1 / r3 * r3) M4))))
/-- NumberForgeModel.reckonExact(III)V -/
def B_M_reckonExact_144 (post : Unit → nf_M → Prop) (M : nf_M) : Prop :=
 post () M
def B_M_reckonExact_74 (post : Unit → nf_M → Prop) (x9 : Int32) (xy0 : Int64) (xy1 : Int32) (xy2 : Int64) (M : nf_M) : Prop :=
 P_M_sum xy2 xy1 xy0 x9 M (fun _ M2 =>
    B_M_reckonExact_144 post  M2)
def B_M_reckonExact_126 (post : Unit → nf_M → Prop) (xy0 : Int32) (xy1 : Int32) (xy2 : Int64) (xy3 : Int32) (xy4 : Int64) (M : nf_M) : Prop :=
 P_M_quotient xy4 xy3 xy2 xy1 xy0 M (fun _ M2 =>
    B_M_reckonExact_144 post  M2)
def B_M_reckonExact_52 (post : Unit → nf_M → Prop) (x1 : Int32) (x4 : Int64) (x6 : Int64) (x8 : Int32) (x9 : Int32) (M : nf_M) : Prop :=
 (x1 < (2 : Int32) → (x1 = 0 → B_M_reckonExact_74 post x9 x6 x8 x4 M) ∧
    (¬ x1 = 0 → B_M_reckonExact_74 post x9 (-x6) x8 x4 M)) ∧
    (¬ x1 < (2 : Int32) → (x1 = (2 : Int32) → P_M_product x4 x8 x6 x9 M (fun _ M2 =>
    B_M_reckonExact_144 post  M2)) ∧
    (¬ x1 = (2 : Int32) → (x1 < (5 : Int32) → (x1 = (3 : Int32) → B_M_reckonExact_126 post (1 : Int32) x9 x6 x8 x4 M) ∧
    (¬ x1 = (3 : Int32) → B_M_reckonExact_126 post (0 : Int32) x9 x6 x8 x4 M)) ∧
    (¬ x1 < (5 : Int32) → P_M_left x4 x8 x6 x9 M (fun _ M4 =>
    B_M_reckonExact_144 post  M4))))
def P_M_reckonExact (x1 : Int32) (x2 : Int32) (x3 : Int32) (M : nf_M) (post : Unit → nf_M → Prop) : Prop :=
 (vp_in x2 8) ∧
    (∀ t2 : Int64, t2 = mg_L M 23 x2.toNatClampNeg → ((vp_in x3 8) ∧
    (∀ t4 : Int64, t4 = mg_L M 23 x3.toNatClampNeg → ((vp_in x2 8) ∧
    (∀ t6 : Int32, t6 = mg_I M 24 x2.toNatClampNeg → ((vp_in x3 8) ∧
    (∀ t8 : Int32, t8 = mg_I M 24 x3.toNatClampNeg → (((2 : Int32) < x1 → (t4 = (0 : Int64) → ∀ M9 : nf_M, M9 = ms_I M 19 9 (4 : Int32) → (B_M_reckonExact_144 post  M9)) ∧
    (¬ t4 = (0 : Int64) → B_M_reckonExact_52 post x1 t2 t4 t6 t8 M)) ∧
    (¬ (2 : Int32) < x1 → B_M_reckonExact_52 post x1 t2 t4 t6 t8 M)))))))))
/-- NumberForgeModel.reckon(IIII)V -/
def B_M_reckon_210 (post : Unit → nf_M → Prop) (M : nf_M) : Prop :=
 post () M
def B_M_reckon_207 (post : Unit → nf_M → Prop) (xy0 : Int32) (xy1 : Int32) (M : nf_M) : Prop :=
 P_M_store xy1 xy0 M (fun _ M2 =>
    B_M_reckon_210 post  M2)
def B_M_reckon_205 (post : Unit → nf_M → Prop) (x5 : Int32) (xy0 : Int32) (M : nf_M) : Prop :=
 B_M_reckon_207 post x5 xy0 M
def B_M_reckon_168 (post : Unit → nf_M → Prop) (x1 : Int32) (x4 : Int32) (x5 : Int32) (xy0 : Int32) (M : nf_M) : Prop :=
 ∀ M1 : nf_M, M1 = ms_I M 19 0 xy0 → (((mg_I M1 19 0) = 0 → (x1 = (4 : Int32) → B_M_reckon_207 post (1 : Int32) x4 M1) ∧
    (¬ x1 = (4 : Int32) → (x1 = (3 : Int32) → (x5 < (2 : Int32) → B_M_reckon_207 post (0 : Int32) x4 M1) ∧
    (¬ x5 < (2 : Int32) → B_M_reckon_205 post x5 x4 M1)) ∧
    (¬ x1 = (3 : Int32) → B_M_reckon_205 post x5 x4 M1))) ∧
    (¬ (mg_I M1 19 0) = 0 → B_M_reckon_210 post  M1))
def B_M_reckon_142 (post : Unit → nf_M → Prop) (x1 : Int32) (x4 : Int32) (x5 : Int32) (M : nf_M) : Prop :=
 ((mg_I M 19 9) = (4 : Int32) → B_M_reckon_168 post x1 x4 x5 (3 : Int32) M) ∧
    (¬ (mg_I M 19 9) = (4 : Int32) → ((mg_I M 19 9) = (5 : Int32) → B_M_reckon_168 post x1 x4 x5 (4 : Int32) M) ∧
    (¬ (mg_I M 19 9) = (5 : Int32) → B_M_reckon_168 post x1 x4 x5 (0 : Int32) M))
def B_M_reckon_59 (post : Unit → nf_M → Prop) (x1 : Int32) (x2 : Int32) (x3 : Int32) (x4 : Int32) (xy0 : Int32) (M : nf_M) : Prop :=
 ∀ M1 : nf_M, M1 = ms_I M 19 0 xy0 → ((0 < (mg_I M1 19 0) → post () M1) ∧
    (¬ 0 < (mg_I M1 19 0) → ∀ M2 : nf_M, M2 = ms_I M1 19 9 (0 : Int32) → (P_M_common x2 x3 M2 (fun r3 M4 =>
    (r3 = (9 : Int32) → P_M_asDouble x2 M4 (fun r5 M6 =>
    P_M_asDouble x3 M6 (fun r7 M8 =>
    P_M_reckonDouble x1 r5 r7 M8 (fun _ M10 =>
    B_M_reckon_142 post x1 x4 r3 M10)))) ∧
    (¬ r3 = (9 : Int32) → (r3 = (8 : Int32) → P_M_asDouble x2 M4 (fun r11 M12 =>
    (vf_n32 (FP.d2f r11)) ∧
    (P_M_asDouble x3 M12 (fun r14 M15 =>
    (vf_n32 (FP.d2f r14)) ∧
    (P_M_reckonFloat x1 (FP.d2f r11) (FP.d2f r14) M15 (fun _ M18 =>
    B_M_reckon_142 post x1 x4 r3 M18)))))) ∧
    (¬ r3 = (8 : Int32) → P_M_reckonExact x1 x2 x3 M4 (fun _ M20 =>
    B_M_reckon_142 post x1 x4 r3 M20)))))))
def B_M_reckon_32 (post : Unit → nf_M → Prop) (x1 : Int32) (x2 : Int32) (x3 : Int32) (x4 : Int32) (M : nf_M) : Prop :=
 B_M_reckon_59 post x1 x2 x3 x4 (1 : Int32) M
def B_M_reckon_54 (post : Unit → nf_M → Prop) (x1 : Int32) (x2 : Int32) (x3 : Int32) (x4 : Int32) (M : nf_M) : Prop :=
 B_M_reckon_59 post x1 x2 x3 x4 (2 : Int32) M
def P_M_reckon (x1 : Int32) (x2 : Int32) (x3 : Int32) (x4 : Int32) (M : nf_M) (post : Unit → nf_M → Prop) : Prop :=
 P_M_isRegister x2 M (fun r1 M2 =>
    (r1 = 0 → B_M_reckon_32 post x1 x2 x3 x4 M2) ∧
    (¬ r1 = 0 → P_M_isRegister x3 M2 (fun r3 M4 =>
    (r3 = 0 → B_M_reckon_32 post x1 x2 x3 x4 M4) ∧
    (¬ r3 = 0 → P_M_isRegister x4 M4 (fun r5 M6 =>
    (r5 = 0 → B_M_reckon_32 post x1 x2 x3 x4 M6) ∧
    (¬ r5 = 0 → (x1 < 0 → B_M_reckon_32 post x1 x2 x3 x4 M6) ∧
    (¬ x1 < 0 → ((5 : Int32) < x1 → B_M_reckon_32 post x1 x2 x3 x4 M6) ∧
    (¬ (5 : Int32) < x1 → (vp_in x2 8) ∧
    (((mg_I M6 22 x2.toNatClampNeg) < 0 → B_M_reckon_54 post x1 x2 x3 x4 M6) ∧
    (¬ (mg_I M6 22 x2.toNatClampNeg) < 0 → (vp_in x3 8) ∧
    (((mg_I M6 22 x3.toNatClampNeg) < 0 → B_M_reckon_54 post x1 x2 x3 x4 M6) ∧
    (¬ (mg_I M6 22 x3.toNatClampNeg) < 0 → B_M_reckon_59 post x1 x2 x3 x4 (0 : Int32) M6))))))))))))
/-- NumberForgeModel.oneExact(IJI)V -/
def B_M_oneExact_203 (post : Unit → nf_M → Prop) (xy0 : Int32) (M : nf_M) : Prop :=
 ∀ M1 : nf_M, M1 = ms_I M 19 11 xy0 → (post () M1)
def B_M_oneExact_188 (post : Unit → nf_M → Prop) (x1 : Int32) (x4 : Int32) (xy0 : Int64) (M : nf_M) : Prop :=
 ∀ M1 : nf_M, M1 = ms_L M 19 10 xy0 → ((x1 < (2 : Int32) → B_M_oneExact_203 post x4 M1) ∧
    (¬ x1 < (2 : Int32) → B_M_oneExact_203 post (0 : Int32) M1))
def B_M_oneExact_150 (post : Unit → nf_M → Prop) (x1 : Int32) (x2 : Int64) (x4 : Int32) (x5 : Int64) (xy0 : Int32) (M : nf_M) : Prop :=
 (x1 = 0 → B_M_oneExact_188 post x1 x4 (-x2) M) ∧
    (¬ x1 = 0 → (x1 = (1 : Int32) → P_M_amount x2 M (fun r1 M2 =>
    B_M_oneExact_188 post x1 x4 r1 M2)) ∧
    (¬ x1 = (1 : Int32) → (xy0 = 0 → B_M_oneExact_188 post x1 x4 x5 M) ∧
    (¬ xy0 = 0 → B_M_oneExact_188 post x1 x4 (x5 + (1 : Int64)) M)))
def B_M_oneExact_96 (post : Unit → nf_M → Prop) (x1 : Int32) (x2 : Int64) (x4 : Int32) (x5 : Int64) (M : nf_M) : Prop :=
 B_M_oneExact_150 post x1 x2 x4 x5 (0 : Int32) M
def B_M_oneExact_145 (post : Unit → nf_M → Prop) (x1 : Int32) (x2 : Int64) (x4 : Int32) (x5 : Int64) (M : nf_M) : Prop :=
 B_M_oneExact_150 post x1 x2 x4 x5 (1 : Int32) M
def B_M_oneExact_149 (post : Unit → nf_M → Prop) (x1 : Int32) (x2 : Int64) (x4 : Int32) (x5 : Int64) (M : nf_M) : Prop :=
 B_M_oneExact_150 post x1 x2 x4 x5 (0 : Int32) M
def B_M_oneExact_41 (post : Unit → nf_M → Prop) (x1 : Int32) (x2 : Int64) (x4 : Int32) (x5 : Int64) (x7 : Int64) (M : nf_M) : Prop :=
 ∀ t1 : Int64, t1 = (2 : Int64) * x7 → ((x1 = (3 : Int32) → ((0 : Int64) < x7 → B_M_oneExact_150 post x1 x2 x4 x5 (1 : Int32) M) ∧
    (¬ (0 : Int64) < x7 → B_M_oneExact_150 post x1 x2 x4 x5 (0 : Int32) M)) ∧
    (¬ x1 = (3 : Int32) → (x1 = (4 : Int32) → ((0 : Int64) < x7 → P_M_power x4 M (fun r2 M3 =>
    (t1 < r2 → B_M_oneExact_96 post x1 x2 x4 x5 M3) ∧
    (¬ t1 < r2 → B_M_oneExact_150 post x1 x2 x4 x5 (1 : Int32) M3))) ∧
    (¬ (0 : Int64) < x7 → B_M_oneExact_96 post x1 x2 x4 x5 M)) ∧
    (¬ x1 = (4 : Int32) → (x1 = (5 : Int32) → ((0 : Int64) < x7 → P_M_power x4 M (fun r4 M5 =>
    (r4 < t1 → B_M_oneExact_145 post x1 x2 x4 x5 M5) ∧
    (¬ r4 < t1 → P_M_power x4 M5 (fun r6 M7 =>
    (t1 = r6 → ((x5 - x5 / (2 : Int64) * (2 : Int64)) = (0 : Int64) → B_M_oneExact_149 post x1 x2 x4 x5 M7) ∧
    (¬ (x5 - x5 / (2 : Int64) * (2 : Int64)) = (0 : Int64) → B_M_oneExact_145 post x1 x2 x4 x5 M7)) ∧
    (¬ t1 = r6 → B_M_oneExact_149 post x1 x2 x4 x5 M7))))) ∧
    (¬ (0 : Int64) < x7 → B_M_oneExact_149 post x1 x2 x4 x5 M)) ∧
    (¬ x1 = (5 : Int32) → B_M_oneExact_149 post x1 x2 x4 x5 M))))
def P_M_oneExact (x1 : Int32) (x2 : Int64) (x4 : Int32) (M : nf_M) (post : Unit → nf_M → Prop) : Prop :=
 P_M_power x4 M (fun r1 M2 =>
    (¬ r1 = 0) ∧
    (∀ t4 : Int64, t4 = x2 / r1 → (P_M_power x4 M2 (fun r5 M6 =>
    (¬ r5 = 0) ∧
    (∀ t8 : Int64, t8 = x2 - x2 / r5 * r5 → ((t8 < (0 : Int64) → ∀ t9 : Int64, t9 = t4 - (1 : Int64) → (P_M_power x4 M6 (fun r10 M11 =>
    ∀ t12 : Int64, t12 = t8 + r10 → (B_M_oneExact_41 post x1 x2 x4 t9 t12 M11)))) ∧
    (¬ t8 < (0 : Int64) → B_M_oneExact_41 post x1 x2 x4 t4 t8 M6)))))))
/-- NumberForgeModel.floor(D)D -/
def B_M_floor_17 (post : UInt64 → nf_M → Prop) (xy0 : UInt64) (M : nf_M) : Prop :=
 post xy0 M
def P_M_floor (x0 : UInt64) (M : nf_M) (post : UInt64 → nf_M → Prop) : Prop :=
 ∀ t1 : UInt64, t1 = FP.l2d (FP.d2l x0) → ((nf_dgt t1 x0 → (vf_n64 (FP.dsub t1 (FP.dconst1))) ∧
    (B_M_floor_17 post (FP.dsub t1 (FP.dconst1)) M)) ∧
    (¬ nf_dgt t1 x0 → B_M_floor_17 post t1 M))
/-- NumberForgeModel.oneReal(IDD)V -/
def B_M_oneReal_42 (post : Unit → nf_M → Prop) (xy0 : UInt64) (M : nf_M) : Prop :=
 ∀ M1 : nf_M, M1 = ms_D M 19 12 xy0 → (post () M1)
def B_M_oneReal_236 (post : Unit → nf_M → Prop) (xy0 : UInt64) (M : nf_M) : Prop :=
 ∀ M1 : nf_M, M1 = ms_D M 19 12 xy0 → (post () M1)
def B_M_oneReal_209 (post : Unit → nf_M → Prop) (x14 : UInt64) (xy0 : Int32) (M : nf_M) : Prop :=
 (nf_deq x14 (FP.dconst0) → (xy0 = 0 → B_M_oneReal_236 post (FP.dconst0) M) ∧
    (¬ xy0 = 0 → B_M_oneReal_236 post (9223372036854775808 : UInt64) M)) ∧
    (¬ nf_deq x14 (FP.dconst0) → B_M_oneReal_236 post x14 M)
def B_M_oneReal_204 (post : Unit → nf_M → Prop) (x14 : UInt64) (M : nf_M) : Prop :=
 B_M_oneReal_209 post x14 (1 : Int32) M
def B_M_oneReal_208 (post : Unit → nf_M → Prop) (x14 : UInt64) (M : nf_M) : Prop :=
 B_M_oneReal_209 post x14 (0 : Int32) M
def B_M_oneReal_182 (post : Unit → nf_M → Prop) (x2 : UInt64) (xy0 : UInt64) (M : nf_M) : Prop :=
 (nf_dlt x2 (FP.dconst0) → B_M_oneReal_204 post xy0 M) ∧
    (¬ nf_dlt x2 (FP.dconst0) → (nf_deq x2 (FP.dconst0) → (vf_n64 (FP.ddiv (FP.dconst1) x2)) ∧
    ((nf_dlt (FP.ddiv (FP.dconst1) x2) (FP.dconst0) → B_M_oneReal_204 post xy0 M) ∧
    (¬ nf_dlt (FP.ddiv (FP.dconst1) x2) (FP.dconst0) → B_M_oneReal_208 post xy0 M))) ∧
    (¬ nf_deq x2 (FP.dconst0) → B_M_oneReal_208 post xy0 M))
def B_M_oneReal_166 (post : Unit → nf_M → Prop) (x2 : UInt64) (x8 : UInt64) (xy0 : Int32) (M : nf_M) : Prop :=
 (xy0 = 0 → B_M_oneReal_182 post x2 x8 M) ∧
    (¬ xy0 = 0 → (vf_n64 (FP.dadd x8 (FP.dconst1))) ∧
    (B_M_oneReal_182 post x2 (FP.dadd x8 (FP.dconst1)) M))
def B_M_oneReal_161 (post : Unit → nf_M → Prop) (x2 : UInt64) (x8 : UInt64) (M : nf_M) : Prop :=
 B_M_oneReal_166 post x2 x8 (1 : Int32) M
def B_M_oneReal_165 (post : Unit → nf_M → Prop) (x2 : UInt64) (x8 : UInt64) (M : nf_M) : Prop :=
 B_M_oneReal_166 post x2 x8 (0 : Int32) M
def B_M_oneReal_89 (post : Unit → nf_M → Prop) (x1 : Int32) (x2 : UInt64) (x8 : UInt64) (x10 : UInt64) (xy0 : Int32) (M : nf_M) : Prop :=
 (x1 = (3 : Int32) → (nf_dgt x10 (FP.dconst0) → B_M_oneReal_166 post x2 x8 (1 : Int32) M) ∧
    (¬ nf_dgt x10 (FP.dconst0) → B_M_oneReal_166 post x2 x8 (0 : Int32) M)) ∧
    (¬ x1 = (3 : Int32) → (x1 = (4 : Int32) → (nf_dge x10 (4602678819172646912 : UInt64) → B_M_oneReal_166 post x2 x8 (1 : Int32) M) ∧
    (¬ nf_dge x10 (4602678819172646912 : UInt64) → B_M_oneReal_166 post x2 x8 (0 : Int32) M)) ∧
    (¬ x1 = (4 : Int32) → (x1 = (5 : Int32) → (nf_dgt x10 (4602678819172646912 : UInt64) → B_M_oneReal_161 post x2 x8 M) ∧
    (¬ nf_dgt x10 (4602678819172646912 : UInt64) → (nf_deq x10 (4602678819172646912 : UInt64) → (xy0 = 0 → B_M_oneReal_165 post x2 x8 M) ∧
    (¬ xy0 = 0 → B_M_oneReal_161 post x2 x8 M)) ∧
    (¬ nf_deq x10 (4602678819172646912 : UInt64) → B_M_oneReal_165 post x2 x8 M))) ∧
    (¬ x1 = (5 : Int32) → B_M_oneReal_165 post x2 x8 M)))
def B_M_oneReal_12 (post : Unit → nf_M → Prop) (x1 : Int32) (x2 : UInt64) (x4 : UInt64) (xy0 : UInt64) (M : nf_M) : Prop :=
 (x1 < (2 : Int32) → (x1 = 0 → B_M_oneReal_42 post (FP.dneg x2) M) ∧
    (¬ x1 = 0 → (nf_dle x2 (FP.dconst0) → (vf_n64 (FP.dsub (FP.dconst0) x2)) ∧
    (B_M_oneReal_42 post (FP.dsub (FP.dconst0) x2) M)) ∧
    (¬ nf_dle x2 (FP.dconst0) → B_M_oneReal_42 post x2 M))) ∧
    (¬ x1 < (2 : Int32) → (nf_dge xy0 x4 → ∀ M2 : nf_M, M2 = ms_D M 19 12 x2 → (post () M2)) ∧
    (¬ nf_dge xy0 x4 → P_M_floor x2 M (fun r3 M4 =>
    (vf_n64 (FP.dsub x2 r3)) ∧
    (∀ t6 : UInt64, t6 = FP.dsub x2 r3 → ((((FP.d2l r3) - (FP.d2l r3) / (2 : Int64) * (2 : Int64)) = (0 : Int64) → B_M_oneReal_89 post x1 x2 r3 t6 (0 : Int32) M4) ∧
    (¬ ((FP.d2l r3) - (FP.d2l r3) / (2 : Int64) * (2 : Int64)) = (0 : Int64) → B_M_oneReal_89 post x1 x2 r3 t6 (1 : Int32) M4))))))
def P_M_oneReal (x1 : Int32) (x2 : UInt64) (x4 : UInt64) (M : nf_M) (post : Unit → nf_M → Prop) : Prop :=
 (nf_dlt x2 (FP.dconst0) → B_M_oneReal_12 post x1 x2 x4 (FP.dneg x2) M) ∧
    (¬ nf_dlt x2 (FP.dconst0) → B_M_oneReal_12 post x1 x2 x4 x2 M)
/-- NumberForgeModel.one(III)V -/
def B_M_one_138 (post : Unit → nf_M → Prop) (xy0 : Int32) (xy1 : Int32) (M : nf_M) : Prop :=
 P_M_store xy1 xy0 M (fun _ M2 =>
    post () M2)
def B_M_one_136 (post : Unit → nf_M → Prop) (x4 : Int32) (xy0 : Int32) (M : nf_M) : Prop :=
 B_M_one_138 post x4 xy0 M
def B_M_one_116 (post : Unit → nf_M → Prop) (x3 : Int32) (x4 : Int32) (M : nf_M) : Prop :=
 P_M_isExact x4 M (fun r1 M2 =>
    (r1 = 0 → B_M_one_136 post x4 x3 M2) ∧
    (¬ r1 = 0 → ((1 : Int32) < x4 → B_M_one_138 post (1 : Int32) x3 M2) ∧
    (¬ (1 : Int32) < x4 → B_M_one_136 post x4 x3 M2)))
def B_M_one_113 (post : Unit → nf_M → Prop) (x3 : Int32) (x4 : Int32) (xy0 : UInt64) (xy1 : UInt64) (xy2 : Int32) (M : nf_M) : Prop :=
 P_M_oneReal xy2 xy1 xy0 M (fun _ M2 =>
    B_M_one_116 post x3 x4 M2)
def B_M_one_42 (post : Unit → nf_M → Prop) (x1 : Int32) (x2 : Int32) (x3 : Int32) (xy0 : Int32) (M : nf_M) : Prop :=
 ∀ M1 : nf_M, M1 = ms_I M 19 0 xy0 → ((0 < (mg_I M1 19 0) → post () M1) ∧
    (¬ 0 < (mg_I M1 19 0) → (vp_in x2 8) ∧
    (∀ t3 : Int32, t3 = mg_I M1 22 x2.toNatClampNeg → (P_M_isExact t3 M1 (fun r4 M5 =>
    (r4 = 0 → (vp_in x2 8) ∧
    ((t3 = (8 : Int32) → B_M_one_113 post x3 t3 (4710765210229538816 : UInt64) (mg_D M5 25 x2.toNatClampNeg) x1 M5) ∧
    (¬ t3 = (8 : Int32) → B_M_one_113 post x3 t3 (4841369599423283200 : UInt64) (mg_D M5 25 x2.toNatClampNeg) x1 M5))) ∧
    (¬ r4 = 0 → (vp_in x2 8) ∧
    ((vp_in x2 8) ∧
    (P_M_oneExact x1 (mg_L M5 23 x2.toNatClampNeg) (mg_I M5 24 x2.toNatClampNeg) M5 (fun _ M10 =>
    B_M_one_116 post x3 t3 M10)))))))))
def B_M_one_24 (post : Unit → nf_M → Prop) (x1 : Int32) (x2 : Int32) (x3 : Int32) (M : nf_M) : Prop :=
 B_M_one_42 post x1 x2 x3 (1 : Int32) M
def P_M_one (x1 : Int32) (x2 : Int32) (x3 : Int32) (M : nf_M) (post : Unit → nf_M → Prop) : Prop :=
 P_M_isRegister x2 M (fun r1 M2 =>
    (r1 = 0 → B_M_one_24 post x1 x2 x3 M2) ∧
    (¬ r1 = 0 → P_M_isRegister x3 M2 (fun r3 M4 =>
    (r3 = 0 → B_M_one_24 post x1 x2 x3 M4) ∧
    (¬ r3 = 0 → (x1 < 0 → B_M_one_24 post x1 x2 x3 M4) ∧
    (¬ x1 < 0 → ((5 : Int32) < x1 → B_M_one_24 post x1 x2 x3 M4) ∧
    (¬ (5 : Int32) < x1 → (vp_in x2 8) ∧
    (((mg_I M4 22 x2.toNatClampNeg) < 0 → B_M_one_42 post x1 x2 x3 (2 : Int32) M4) ∧
    (¬ (mg_I M4 22 x2.toNatClampNeg) < 0 → B_M_one_42 post x1 x2 x3 (0 : Int32) M4))))))))
/-- NumberForgeModel.even(D)J -/
def B_M_even_52 (post : Int64 → nf_M → Prop) (xy0 : Int64) (M : nf_M) : Prop :=
 post xy0 M
def B_M_even_43 (post : Int64 → nf_M → Prop) (x6 : Int64) (M : nf_M) : Prop :=
 B_M_even_52 post (x6 + (1 : Int64)) M
def B_M_even_50 (post : Int64 → nf_M → Prop) (x6 : Int64) (M : nf_M) : Prop :=
 B_M_even_52 post x6 M
def P_M_even (x0 : UInt64) (M : nf_M) (post : Int64 → nf_M → Prop) : Prop :=
 P_M_floor x0 M (fun r1 M2 =>
    (vf_n64 (FP.dsub x0 r1)) ∧
    (∀ t4 : UInt64, t4 = FP.dsub x0 r1 → (∀ t5 : Int64, t5 = FP.d2l r1 → ((nf_dgt t4 (4602678819172646912 : UInt64) → B_M_even_43 post t5 M2) ∧
    (¬ nf_dgt t4 (4602678819172646912 : UInt64) → (nf_deq t4 (4602678819172646912 : UInt64) → ((t5 - t5 / (2 : Int64) * (2 : Int64)) = (0 : Int64) → B_M_even_50 post t5 M2) ∧
    (¬ (t5 - t5 / (2 : Int64) * (2 : Int64)) = (0 : Int64) → B_M_even_43 post t5 M2)) ∧
    (¬ nf_deq t4 (4602678819172646912 : UInt64) → B_M_even_50 post t5 M2))))))
/-- NumberForgeModel.castTo(II)V -/
def B_M_castTo_34 (post : Unit → nf_M → Prop) (xy0 : UInt64) (M : nf_M) : Prop :=
 ∀ M1 : nf_M, M1 = ms_D M 19 12 xy0 → (post () M1)
def B_M_castTo_197 (post : Unit → nf_M → Prop) (xy0 : Int32) (M : nf_M) : Prop :=
 ∀ M1 : nf_M, M1 = ms_I M 19 9 xy0 → (post () M1)
def B_M_castTo_193 (post : Unit → nf_M → Prop) (M : nf_M) : Prop :=
 B_M_castTo_197 post (mg_I M 19 9) M
def B_M_castTo_170 (post : Unit → nf_M → Prop) (x2 : Int32) (M : nf_M) : Prop :=
 ((mg_I M 19 9) = 0 → P_M_fits x2 (mg_L M 19 10) M (fun r1 M2 =>
    (r1 = 0 → B_M_castTo_197 post (3 : Int32) M2) ∧
    (¬ r1 = 0 → B_M_castTo_193 post  M2))) ∧
    (¬ (mg_I M 19 9) = 0 → B_M_castTo_193 post  M)
def B_M_castTo_98 (post : Unit → nf_M → Prop) (x2 : Int32) (xy0 : Int32) (M : nf_M) : Prop :=
 ∀ M1 : nf_M, M1 = ms_I M 19 11 xy0 → (B_M_castTo_170 post x2 M1)
def B_M_castTo_80 (post : Unit → nf_M → Prop) (x1 : Int32) (x2 : Int32) (xy0 : Int64) (M : nf_M) : Prop :=
 ∀ M1 : nf_M, M1 = ms_L M 19 10 xy0 → ((x2 = 0 → (vp_in x1 8) ∧
    (B_M_castTo_98 post x2 (mg_I M1 24 x1.toNatClampNeg) M1)) ∧
    (¬ x2 = 0 → B_M_castTo_98 post x2 (0 : Int32) M1))
def P_M_castTo (x1 : Int32) (x2 : Int32) (M : nf_M) (post : Unit → nf_M → Prop) : Prop :=
 ∀ M1 : nf_M, M1 = ms_I M 19 9 (0 : Int32) → (P_M_isExact x2 M1 (fun r2 M3 =>
    (r2 = 0 → (x2 = (8 : Int32) → P_M_asDouble x1 M3 (fun r4 M5 =>
    (vf_n32 (FP.d2f r4)) ∧
    ((vf_n64 (FP.f2d (FP.d2f r4))) ∧
    (B_M_castTo_34 post (FP.f2d (FP.d2f r4)) M5)))) ∧
    (¬ x2 = (8 : Int32) → P_M_asDouble x1 M3 (fun r8 M9 =>
    B_M_castTo_34 post r8 M9))) ∧
    (¬ r2 = 0 → (vp_in x1 8) ∧
    (P_M_isExact (mg_I M3 22 x1.toNatClampNeg) M3 (fun r11 M12 =>
    (r11 = 0 → (vp_in x1 8) ∧
    (P_M_wholePart (mg_D M12 25 x1.toNatClampNeg) M12 (fun _ M15 =>
    ((mg_I M15 19 9) = 0 → (x2 = 0 → (vp_in x1 8) ∧
    ((nf_dlt (mg_D M15 25 x1.toNatClampNeg) (4741671816366391296 : UInt64) → (vp_in x1 8) ∧
    ((nf_dgt (mg_D M15 25 x1.toNatClampNeg) (13965043853221167104 : UInt64) → (vp_in x1 8) ∧
    ((vf_n64 (FP.dmul (mg_D M15 25 x1.toNatClampNeg) (4696837146684686336 : UInt64))) ∧
    (P_M_even (FP.dmul (mg_D M15 25 x1.toNatClampNeg) (4696837146684686336 : UInt64)) M15 (fun r20 M21 =>
    P_M_keep r20 (6 : Int32) M21 (fun _ M23 =>
    B_M_castTo_170 post x2 M23))))) ∧
    (¬ nf_dgt (mg_D M15 25 x1.toNatClampNeg) (13965043853221167104 : UInt64) → B_M_castTo_170 post x2 M15))) ∧
    (¬ nf_dlt (mg_D M15 25 x1.toNatClampNeg) (4741671816366391296 : UInt64) → B_M_castTo_170 post x2 M15))) ∧
    (¬ x2 = 0 → B_M_castTo_170 post x2 M15)) ∧
    (¬ (mg_I M15 19 9) = 0 → B_M_castTo_170 post x2 M15)))) ∧
    (¬ r11 = 0 → (x2 = 0 → (vp_in x1 8) ∧
    (B_M_castTo_80 post x1 x2 (mg_L M12 23 x1.toNatClampNeg) M12)) ∧
    (¬ x2 = 0 → (vp_in x1 8) ∧
    ((vp_in x1 8) ∧
    (P_M_power (mg_I M12 24 x1.toNatClampNeg) M12 (fun r27 M28 =>
    (¬ r27 = 0) ∧
    (B_M_castTo_80 post x1 x2 ((mg_L M12 23 x1.toNatClampNeg) / r27) M28)))))))))))
/-- NumberForgeModel.cast(III)V -/
def B_M_cast_114 (post : Unit → nf_M → Prop) (M : nf_M) : Prop :=
 post () M
def B_M_cast_98 (post : Unit → nf_M → Prop) (x2 : Int32) (x3 : Int32) (xy0 : Int32) (M : nf_M) : Prop :=
 ∀ M1 : nf_M, M1 = ms_I M 19 0 xy0 → (((mg_I M1 19 0) = 0 → P_M_store x3 x2 M1 (fun _ M3 =>
    B_M_cast_114 post  M3)) ∧
    (¬ (mg_I M1 19 0) = 0 → B_M_cast_114 post  M1))
def B_M_cast_43 (post : Unit → nf_M → Prop) (x1 : Int32) (x2 : Int32) (x3 : Int32) (xy0 : Int32) (M : nf_M) : Prop :=
 ∀ M1 : nf_M, M1 = ms_I M 19 0 xy0 → ((0 < (mg_I M1 19 0) → post () M1) ∧
    (¬ 0 < (mg_I M1 19 0) → P_M_castTo x1 x2 M1 (fun _ M3 =>
    ((mg_I M3 19 9) = (4 : Int32) → B_M_cast_98 post x2 x3 (3 : Int32) M3) ∧
    (¬ (mg_I M3 19 9) = (4 : Int32) → ((mg_I M3 19 9) = (5 : Int32) → B_M_cast_98 post x2 x3 (4 : Int32) M3) ∧
    (¬ (mg_I M3 19 9) = (5 : Int32) → ((mg_I M3 19 9) = (3 : Int32) → B_M_cast_98 post x2 x3 (5 : Int32) M3) ∧
    (¬ (mg_I M3 19 9) = (3 : Int32) → B_M_cast_98 post x2 x3 (0 : Int32) M3))))))
def B_M_cast_25 (post : Unit → nf_M → Prop) (x1 : Int32) (x2 : Int32) (x3 : Int32) (M : nf_M) : Prop :=
 B_M_cast_43 post x1 x2 x3 (1 : Int32) M
def P_M_cast (x1 : Int32) (x2 : Int32) (x3 : Int32) (M : nf_M) (post : Unit → nf_M → Prop) : Prop :=
 P_M_isRegister x1 M (fun r1 M2 =>
    (r1 = 0 → B_M_cast_25 post x1 x2 x3 M2) ∧
    (¬ r1 = 0 → P_M_isRegister x3 M2 (fun r3 M4 =>
    (r3 = 0 → B_M_cast_25 post x1 x2 x3 M4) ∧
    (¬ r3 = 0 → (x2 < 0 → B_M_cast_25 post x1 x2 x3 M4) ∧
    (¬ x2 < 0 → ((9 : Int32) < x2 → B_M_cast_25 post x1 x2 x3 M4) ∧
    (¬ (9 : Int32) < x2 → (vp_in x1 8) ∧
    (((mg_I M4 22 x1.toNatClampNeg) < 0 → B_M_cast_43 post x1 x2 x3 (2 : Int32) M4) ∧
    (¬ (mg_I M4 22 x1.toNatClampNeg) < 0 → B_M_cast_43 post x1 x2 x3 (0 : Int32) M4))))))))
/-- NumberForgeModel.compare(II)I -/
def B_M_compare_138 (post : Int32 → nf_M → Prop) (xy0 : Int32) (M : nf_M) : Prop :=
 post xy0 M
def B_M_compare_111 (post : Int32 → nf_M → Prop) (x4 : UInt64) (xy0 : UInt64) (M : nf_M) : Prop :=
 (nf_dlt x4 xy0 → B_M_compare_138 post (-1 : Int32) M) ∧
    (¬ nf_dlt x4 xy0 → (nf_dgt x4 xy0 → B_M_compare_138 post (1 : Int32) M) ∧
    (¬ nf_dgt x4 xy0 → B_M_compare_138 post (0 : Int32) M))
def B_M_compare_88 (post : Int32 → nf_M → Prop) (x2 : Int32) (x3 : Int32) (xy0 : UInt64) (M : nf_M) : Prop :=
 (x3 = (8 : Int32) → P_M_asDouble x2 M (fun r1 M2 =>
    (vf_n32 (FP.d2f r1)) ∧
    ((vf_n64 (FP.f2d (FP.d2f r1))) ∧
    (B_M_compare_111 post xy0 (FP.f2d (FP.d2f r1)) M2)))) ∧
    (¬ x3 = (8 : Int32) → P_M_asDouble x2 M (fun r5 M6 =>
    B_M_compare_111 post xy0 r5 M6))
def B_M_compare_258 (post : Int32 → nf_M → Prop) (xy0 : Int32) (M : nf_M) : Prop :=
 post xy0 M
def B_M_compare_233 (post : Int32 → nf_M → Prop) (M : nf_M) : Prop :=
 B_M_compare_258 post (-1 : Int32) M
def B_M_compare_253 (post : Int32 → nf_M → Prop) (M : nf_M) : Prop :=
 B_M_compare_258 post (1 : Int32) M
def B_M_compare_237 (post : Int32 → nf_M → Prop) (x4 : Int64) (x6 : Int64) (x8 : Int64) (x10 : Int64) (M : nf_M) : Prop :=
 (x6 < x4 → B_M_compare_253 post  M) ∧
    (¬ x6 < x4 → (x10 < x8 → B_M_compare_253 post  M) ∧
    (¬ x10 < x8 → B_M_compare_258 post (0 : Int32) M))
def B_M_compare_42 (post : Int32 → nf_M → Prop) (x1 : Int32) (x2 : Int32) (xy0 : Int32) (M : nf_M) : Prop :=
 ∀ M1 : nf_M, M1 = ms_I M 19 0 xy0 → ((0 < (mg_I M1 19 0) → post (0 : Int32) M1) ∧
    (¬ 0 < (mg_I M1 19 0) → P_M_common x1 x2 M1 (fun r2 M3 =>
    ((7 : Int32) < r2 → (r2 = (8 : Int32) → P_M_asDouble x1 M3 (fun r4 M5 =>
    (vf_n32 (FP.d2f r4)) ∧
    ((vf_n64 (FP.f2d (FP.d2f r4))) ∧
    (B_M_compare_88 post x2 r2 (FP.f2d (FP.d2f r4)) M5)))) ∧
    (¬ r2 = (8 : Int32) → P_M_asDouble x1 M3 (fun r8 M9 =>
    B_M_compare_88 post x2 r2 r8 M9))) ∧
    (¬ (7 : Int32) < r2 → (vp_in x1 8) ∧
    ((vp_in x1 8) ∧
    (P_M_power (mg_I M3 24 x1.toNatClampNeg) M3 (fun r12 M13 =>
    (¬ r12 = 0) ∧
    (∀ t15 : Int64, t15 = (mg_L M3 23 x1.toNatClampNeg) / r12 → ((vp_in x2 8) ∧
    ((vp_in x2 8) ∧
    (P_M_power (mg_I M13 24 x2.toNatClampNeg) M13 (fun r18 M19 =>
    (¬ r18 = 0) ∧
    (∀ t21 : Int64, t21 = (mg_L M13 23 x2.toNatClampNeg) / r18 → ((vp_in x1 8) ∧
    ((vp_in x1 8) ∧
    (P_M_millionths (mg_L M19 23 x1.toNatClampNeg) (mg_I M19 24 x1.toNatClampNeg) M19 (fun r24 M25 =>
    (vp_in x2 8) ∧
    ((vp_in x2 8) ∧
    (P_M_millionths (mg_L M25 23 x2.toNatClampNeg) (mg_I M25 24 x2.toNatClampNeg) M25 (fun r28 M29 =>
    (t15 < t21 → B_M_compare_233 post  M29) ∧
    (¬ t15 < t21 → (t15 = t21 → (r24 < r28 → B_M_compare_233 post  M29) ∧
    (¬ r24 < r28 → B_M_compare_237 post t15 t21 r24 r28 M29)) ∧
    (¬ t15 = t21 → B_M_compare_237 post t15 t21 r24 r28 M29))))))))))))))))))))))
def B_M_compare_15 (post : Int32 → nf_M → Prop) (x1 : Int32) (x2 : Int32) (M : nf_M) : Prop :=
 B_M_compare_42 post x1 x2 (1 : Int32) M
def B_M_compare_37 (post : Int32 → nf_M → Prop) (x1 : Int32) (x2 : Int32) (M : nf_M) : Prop :=
 B_M_compare_42 post x1 x2 (2 : Int32) M
def P_M_compare (x1 : Int32) (x2 : Int32) (M : nf_M) (post : Int32 → nf_M → Prop) : Prop :=
 P_M_isRegister x1 M (fun r1 M2 =>
    (r1 = 0 → B_M_compare_15 post x1 x2 M2) ∧
    (¬ r1 = 0 → P_M_isRegister x2 M2 (fun r3 M4 =>
    (r3 = 0 → B_M_compare_15 post x1 x2 M4) ∧
    (¬ r3 = 0 → (vp_in x1 8) ∧
    (((mg_I M4 22 x1.toNatClampNeg) < 0 → B_M_compare_37 post x1 x2 M4) ∧
    (¬ (mg_I M4 22 x1.toNatClampNeg) < 0 → (vp_in x2 8) ∧
    (((mg_I M4 22 x2.toNatClampNeg) < 0 → B_M_compare_37 post x1 x2 M4) ∧
    (¬ (mg_I M4 22 x2.toNatClampNeg) < 0 → B_M_compare_42 post x1 x2 (0 : Int32) M4))))))))
/-- NumberForgeModel.kind(I)I -/
def B_M_kind_22 (post : Int32 → nf_M → Prop) (xy0 : Int32) (M : nf_M) : Prop :=
 post xy0 M
def P_M_kind (x1 : Int32) (M : nf_M) (post : Int32 → nf_M → Prop) : Prop :=
 ∀ M1 : nf_M, M1 = ms_I M 19 0 (0 : Int32) → (P_M_isRegister x1 M1 (fun r2 M3 =>
    (r2 = 0 → B_M_kind_22 post (-1 : Int32) M3) ∧
    (¬ r2 = 0 → (vp_in x1 8) ∧
    (B_M_kind_22 post (mg_I M3 22 x1.toNatClampNeg) M3))))
/-- NumberForgeModel.real(I)D -/
def B_M_real_45 (post : UInt64 → nf_M → Prop) (xy0 : UInt64) (M : nf_M) : Prop :=
 post xy0 M
def B_M_real_26 (post : UInt64 → nf_M → Prop) (x1 : Int32) (xy0 : Int32) (M : nf_M) : Prop :=
 ∀ M1 : nf_M, M1 = ms_I M 19 0 xy0 → ((0 < (mg_I M1 19 0) → B_M_real_45 post (FP.dconst0) M1) ∧
    (¬ 0 < (mg_I M1 19 0) → P_M_asDouble x1 M1 (fun r2 M3 =>
    B_M_real_45 post r2 M3)))
def P_M_real (x1 : Int32) (M : nf_M) (post : UInt64 → nf_M → Prop) : Prop :=
 P_M_isRegister x1 M (fun r1 M2 =>
    (r1 = 0 → B_M_real_26 post x1 (1 : Int32) M2) ∧
    (¬ r1 = 0 → (vp_in x1 8) ∧
    (((mg_I M2 22 x1.toNatClampNeg) < 0 → B_M_real_26 post x1 (2 : Int32) M2) ∧
    (¬ (mg_I M2 22 x1.toNatClampNeg) < 0 → B_M_real_26 post x1 (0 : Int32) M2))))
/-- NumberForgeModel.exact(II)J -/
def B_M_exact_45 (post : Int64 → nf_M → Prop) (xy0 : Int64) (M : nf_M) : Prop :=
 post xy0 M
def B_M_exact_21 (post : Int64 → nf_M → Prop) (M : nf_M) : Prop :=
 B_M_exact_45 post (0 : Int64) M
def P_M_exact (x1 : Int32) (x2 : Int32) (M : nf_M) (post : Int64 → nf_M → Prop) : Prop :=
 ∀ M1 : nf_M, M1 = ms_I M 19 0 (0 : Int32) → (P_M_isRegister x1 M1 (fun r2 M3 =>
    (r2 = 0 → B_M_exact_21 post  M3) ∧
    (¬ r2 = 0 → (x2 < 0 → B_M_exact_21 post  M3) ∧
    (¬ x2 < 0 → ((1 : Int32) < x2 → B_M_exact_21 post  M3) ∧
    (¬ (1 : Int32) < x2 → (x2 = 0 → (vp_in x1 8) ∧
    (B_M_exact_45 post (mg_L M3 23 x1.toNatClampNeg) M3)) ∧
    (¬ x2 = 0 → (vp_in x1 8) ∧
    (B_M_exact_45 post ((mg_I M3 24 x1.toNatClampNeg).toInt64) M3)))))))
/-- NumberForgeModel.add(I)V -/
def P_M_add (x1 : Int32) (M : nf_M) (post : Unit → nf_M → Prop) : Prop :=
 (vp_in (mg_I M 19 3) 400) ∧
    (∀ M2 : nf_M, M2 = ms_I M 21 (mg_I M 19 3).toNatClampNeg x1 → (∀ t3 : Int32, t3 = (mg_I M2 19 3) + (1 : Int32) → (∀ M4 : nf_M, M4 = ms_I M2 19 3 t3 → (post () M4))))
/-- NumberForgeModel.addNumber(JI)V -/
def B_M_addNumber_63 (k7 : Int64 → Int32 → Int32 → Int32 → nf_M → Prop) (post : Unit → nf_M → Prop) (x1 : Int64) (x3 : Int32) (x4 : Int32) (x5 : Int32) (M : nf_M) : Prop :=
 k7 x1 x3 x4 (x5 + (-1 : Int32)) M
def B_M_addNumber_47 (k7 : Int64 → Int32 → Int32 → Int32 → nf_M → Prop) (post : Unit → nf_M → Prop) (x1 : Int64) (x3 : Int32) (x5 : Int32) (x6 : Int32) (xy0 : Int32) (M : nf_M) : Prop :=
 (xy0 = 0 → B_M_addNumber_63 k7 post x1 x3 xy0 x5 M) ∧
    (¬ xy0 = 0 → P_M_add ((48 : Int32) + x6) M (fun _ M2 =>
    B_M_addNumber_63 k7 post x1 x3 xy0 x5 M2))
def B_M_addNumber_42 (k7 : Int64 → Int32 → Int32 → Int32 → nf_M → Prop) (post : Unit → nf_M → Prop) (x1 : Int64) (x3 : Int32) (x5 : Int32) (x6 : Int32) (M : nf_M) : Prop :=
 B_M_addNumber_47 k7 post x1 x3 x5 x6 (1 : Int32) M
def B_M_addNumber_7 (post : Unit → nf_M → Prop) : Nat → Int64 → Int32 → Int32 → Int32 → nf_M → Prop
  | 0, _, _, _, _, _ => False
  | n + 1, x1, x3, x4, x5, M =>
    (x5 < 0 → post () M) ∧
    (¬ x5 < 0 → P_M_power x5 M (fun r1 M2 =>
    (¬ r1 = 0) ∧
    (∀ t4 : Int32, t4 = ((x1 / r1) - (x1 / r1) / (10 : Int64) * (10 : Int64)).toInt32 → ((x4 = 0 → (0 < t4 → B_M_addNumber_42 (fun x1 x3 x4 x5 z => B_M_addNumber_7 post n x1 x3 x4 x5 z) post x1 x3 x5 t4 M2) ∧
    (¬ 0 < t4 → (x5 < x3 → B_M_addNumber_42 (fun x1 x3 x4 x5 z => B_M_addNumber_7 post n x1 x3 x4 x5 z) post x1 x3 x5 t4 M2) ∧
    (¬ x5 < x3 → B_M_addNumber_47 (fun x1 x3 x4 x5 z => B_M_addNumber_7 post n x1 x3 x4 x5 z) post x1 x3 x5 t4 (0 : Int32) M2))) ∧
    (¬ x4 = 0 → B_M_addNumber_42 (fun x1 x3 x4 x5 z => B_M_addNumber_7 post n x1 x3 x4 x5 z) post x1 x3 x5 t4 M2)))))
def P_M_addNumber (x1 : Int64) (x3 : Int32) (M : nf_M) (post : Unit → nf_M → Prop) : Prop :=
 ∃ n9 : Nat, B_M_addNumber_7 post n9 x1 x3 (0 : Int32) (18 : Int32) M
/-- NumberForgeModel.addExact(JI)V -/
def B_M_addExact_52 (post : Unit → nf_M → Prop) (M : nf_M) : Prop :=
 post () M
def B_M_addExact_12 (post : Unit → nf_M → Prop) (x1 : Int64) (x3 : Int32) (M : nf_M) : Prop :=
 P_M_amount x1 M (fun r1 M2 =>
    P_M_power x3 M2 (fun r3 M4 =>
    (¬ r3 = 0) ∧
    (P_M_addNumber (r1 / r3) (1 : Int32) M4 (fun _ M7 =>
    (0 < x3 → P_M_add (46 : Int32) M7 (fun _ M9 =>
    P_M_power x3 M9 (fun r10 M11 =>
    (¬ r10 = 0) ∧
    (P_M_addNumber (r1 - r1 / r10 * r10) x3 M11 (fun _ M14 =>
    B_M_addExact_52 post  M14))))) ∧
    (¬ 0 < x3 → B_M_addExact_52 post  M7)))))
def P_M_addExact (x1 : Int64) (x3 : Int32) (M : nf_M) (post : Unit → nf_M → Prop) : Prop :=
 (x1 < (0 : Int64) → P_M_add (45 : Int32) M (fun _ M2 =>
    B_M_addExact_12 post x1 x3 M2)) ∧
    (¬ x1 < (0 : Int64) → B_M_addExact_12 post x1 x3 M)
/-- NumberForgeModel.width(J)I -/
def B_M_width_26 (k4 : Int64 → Int32 → Int32 → nf_M → Prop) (post : Int32 → nf_M → Prop) (x0 : Int64) (x3 : Int32) (xy0 : Int32) (M : nf_M) : Prop :=
 k4 x0 xy0 (x3 + (1 : Int32)) M
def B_M_width_4 (post : Int32 → nf_M → Prop) : Nat → Int64 → Int32 → Int32 → nf_M → Prop
  | 0, _, _, _, _ => False
  | n + 1, x0, x2, x3, M =>
    (x3 < (18 : Int32) → P_M_power x3 M (fun r1 M2 =>
    (x0 < r1 → B_M_width_26 (fun x0 x2 x3 z => B_M_width_4 post n x0 x2 x3 z) post x0 x3 x2 M2) ∧
    (¬ x0 < r1 → B_M_width_26 (fun x0 x2 x3 z => B_M_width_4 post n x0 x2 x3 z) post x0 x3 (x3 + (1 : Int32)) M2))) ∧
    (¬ x3 < (18 : Int32) → post x2 M)
def P_M_width (x0 : Int64) (M : nf_M) (post : Int32 → nf_M → Prop) : Prop :=
 ∃ n9 : Nat, B_M_width_4 post n9 x0 (1 : Int32) (1 : Int32) M
/-- NumberForgeModel.addReal(JIZ)V -/
def B_M_addReal_135 (k103 : Int64 → Int32 → nf_M → Prop) (post : Unit → nf_M → Prop) (x5 : Int64) (x9 : Int32) (xy0 : Int32) (xy1 : Int32) (M : nf_M) : Prop :=
 P_M_add (xy1 + xy0) M (fun _ M2 =>
    k103 x5 (x9 + (-1 : Int32)) M2)
def B_M_addReal_243 (post : Unit → nf_M → Prop) (M : nf_M) : Prop :=
 post () M
def B_M_addReal_103 (post : Unit → nf_M → Prop) : Nat → Int64 → Int32 → nf_M → Prop
  | 0, _, _, _ => False
  | n + 1, x5, x9, M =>
    (x9 < 0 → B_M_addReal_243 post  M) ∧
    (¬ x9 < 0 → ((17 : Int32) < x9 → B_M_addReal_135 (fun x5 x9 z => B_M_addReal_103 post n x5 x9 z) post x5 x9 (0 : Int32) (48 : Int32) M) ∧
    (¬ (17 : Int32) < x9 → P_M_power x9 M (fun r1 M2 =>
    (¬ r1 = 0) ∧
    (B_M_addReal_135 (fun x5 x9 z => B_M_addReal_103 post n x5 x9 z) post x5 x9 (((x5 / r1) - (x5 / r1) / (10 : Int64) * (10 : Int64)).toInt32) (48 : Int32) M2))))
def B_M_addReal_96 (post : Unit → nf_M → Prop) (x5 : Int64) (x7 : Int32) (M : nf_M) : Prop :=
 ∀ t1 : Int32, t1 = (-x7) - (1 : Int32) → (∃ n9 : Nat, B_M_addReal_103 post n9 x5 t1 M)
def B_M_addReal_81 (post : Unit → nf_M → Prop) (x5 : Int64) (x7 : Int32) (xy0 : Int64) (M : nf_M) : Prop :=
 P_M_addNumber xy0 (1 : Int32) M (fun _ M2 =>
    (x7 < 0 → P_M_add (46 : Int32) M2 (fun _ M4 =>
    B_M_addReal_96 post x5 x7 M4)) ∧
    (¬ x7 < 0 → B_M_addReal_96 post x5 x7 M2))
def B_M_addReal_239 (post : Unit → nf_M → Prop) (xy0 : Int64) (M : nf_M) : Prop :=
 P_M_addNumber xy0 (1 : Int32) M (fun _ M2 =>
    B_M_addReal_243 post  M2)
def B_M_addReal_223 (post : Unit → nf_M → Prop) (x9 : Int32) (M : nf_M) : Prop :=
 (x9 < 0 → B_M_addReal_239 post ((-x9).toInt64) M) ∧
    (¬ x9 < 0 → B_M_addReal_239 post (x9.toInt64) M)
def B_M_addReal_194 (post : Unit → nf_M → Prop) (x7 : Int32) (x8 : Int32) (xy0 : Int32) (xy1 : Int64) (M : nf_M) : Prop :=
 P_M_addNumber xy1 xy0 M (fun _ M2 =>
    P_M_add (69 : Int32) M2 (fun _ M4 =>
    ∀ t5 : Int32, t5 = (x7 + x8) - (1 : Int32) → ((t5 < 0 → P_M_add (45 : Int32) M4 (fun _ M7 =>
    B_M_addReal_223 post t5 M7)) ∧
    (¬ t5 < 0 → B_M_addReal_223 post t5 M4))))
def B_M_addReal_6 (post : Unit → nf_M → Prop) : Nat → Int32 → Int64 → Int32 → nf_M → Prop
  | 0, _, _, _, _ => False
  | n + 1, x4, x5, x7, M =>
    ((x5 - x5 / (10 : Int64) * (10 : Int64)) = (0 : Int64) → ∀ t1 : Int64, t1 = x5 / (10 : Int64) → (B_M_addReal_6 post n x4 t1 (x7 + (1 : Int32)) M)) ∧
    (¬ (x5 - x5 / (10 : Int64) * (10 : Int64)) = (0 : Int64) → P_M_width x5 M (fun r2 M3 =>
    (x4 = 0 → P_M_power (r2 - (1 : Int32)) M3 (fun r4 M5 =>
    (¬ r4 = 0) ∧
    (P_M_addNumber (x5 / r4) (1 : Int32) M5 (fun _ M8 =>
    P_M_add (46 : Int32) M8 (fun _ M10 =>
    P_M_power (r2 - (1 : Int32)) M10 (fun r11 M12 =>
    (¬ r11 = 0) ∧
    (((1 : Int32) < r2 → B_M_addReal_194 post x7 r2 (r2 - (1 : Int32)) (x5 - x5 / r11 * r11) M12) ∧
    (¬ (1 : Int32) < r2 → B_M_addReal_194 post x7 r2 (1 : Int32) (x5 - x5 / r11 * r11) M12)))))))) ∧
    (¬ x4 = 0 → (x7 < 0 → ((-x7) < (19 : Int32) → P_M_power (-x7) M3 (fun r14 M15 =>
    (¬ r14 = 0) ∧
    (B_M_addReal_81 post x5 x7 (x5 / r14) M15))) ∧
    (¬ (-x7) < (19 : Int32) → B_M_addReal_81 post x5 x7 (0 : Int64) M3)) ∧
    (¬ x7 < 0 → P_M_power x7 M3 (fun r17 M18 =>
    B_M_addReal_81 post x5 x7 (x5 * r17) M18)))))
def P_M_addReal (x1 : Int64) (x3 : Int32) (x4 : Int32) (M : nf_M) (post : Unit → nf_M → Prop) : Prop :=
 ∃ n9 : Nat, B_M_addReal_6 post n9 x4 x1 x3 M
/-- NumberForgeModel.writeReal(DZ)V -/
def B_M_writeReal_130 (k89 : Int32 → UInt64 → Int32 → Int32 → nf_M → Prop) (post : Unit → nf_M → Prop) (x3 : Int32) (x4 : UInt64) (x7 : Int32) (xy0 : Int32) (M : nf_M) : Prop :=
 k89 x3 x4 xy0 (x7 + (1 : Int32)) M
def B_M_writeReal_117 (k89 : Int32 → UInt64 → Int32 → Int32 → nf_M → Prop) (post : Unit → nf_M → Prop) (x3 : Int32) (x4 : UInt64) (x6 : Int32) (x7 : Int32) (xy0 : UInt64) (M : nf_M) : Prop :=
 (nf_dle xy0 x4 → B_M_writeReal_130 k89 post x3 x4 x7 x7 M) ∧
    (¬ nf_dle xy0 x4 → B_M_writeReal_130 k89 post x3 x4 x7 x6 M)
def B_M_writeReal_267 (k150 : Int32 → UInt64 → Int32 → Int64 → Int32 → Int32 → Int32 → nf_M → Prop) (post : Unit → nf_M → Prop) (x3 : Int32) (x4 : UInt64) (x6 : Int32) (x7 : Int64) (x9 : Int32) (x11 : Int32) (xy0 : Int32) (M : nf_M) : Prop :=
 k150 x3 x4 x6 x7 x9 xy0 (x11 + (1 : Int32)) M
def B_M_writeReal_252 (k150 : Int32 → UInt64 → Int32 → Int64 → Int32 → Int32 → Int32 → nf_M → Prop) (post : Unit → nf_M → Prop) (x3 : Int32) (x4 : UInt64) (x6 : Int32) (x7 : Int64) (x9 : Int32) (x11 : Int32) (xy0 : UInt64) (M : nf_M) : Prop :=
 (nf_deq xy0 x4 → B_M_writeReal_267 k150 post x3 x4 x6 x7 x9 x11 (1 : Int32) M) ∧
    (¬ nf_deq xy0 x4 → B_M_writeReal_267 k150 post x3 x4 x6 x7 x9 x11 (0 : Int32) M)
def B_M_writeReal_237 (k150 : Int32 → UInt64 → Int32 → Int64 → Int32 → Int32 → Int32 → nf_M → Prop) (post : Unit → nf_M → Prop) (x3 : Int32) (x4 : UInt64) (x6 : Int32) (x7 : Int64) (x9 : Int32) (x11 : Int32) (xy0 : UInt64) (M : nf_M) : Prop :=
 (x3 = 0 → B_M_writeReal_252 k150 post x3 x4 x6 x7 x9 x11 xy0 M) ∧
    (¬ x3 = 0 → (vf_n32 (FP.d2f xy0)) ∧
    ((vf_n64 (FP.f2d (FP.d2f xy0))) ∧
    (B_M_writeReal_252 k150 post x3 x4 x6 x7 x9 x11 (FP.f2d (FP.d2f xy0)) M)))
def B_M_writeReal_205 (k150 : Int32 → UInt64 → Int32 → Int64 → Int32 → Int32 → Int32 → nf_M → Prop) (post : Unit → nf_M → Prop) (x3 : Int32) (x4 : UInt64) (x6 : Int32) (x9 : Int32) (x11 : Int32) (xy0 : UInt64) (M : nf_M) : Prop :=
 P_M_even xy0 M (fun r1 M2 =>
    (x9 < 0 → P_M_ten (-x9) M2 (fun r3 M4 =>
    (vf_n64 (FP.ddiv (FP.l2d r1) r3)) ∧
    (B_M_writeReal_237 k150 post x3 x4 x6 r1 x9 x11 (FP.ddiv (FP.l2d r1) r3) M4))) ∧
    (¬ x9 < 0 → P_M_ten x9 M2 (fun r6 M7 =>
    (vf_n64 (FP.dmul (FP.l2d r1) r6)) ∧
    (B_M_writeReal_237 k150 post x3 x4 x6 r1 x9 x11 (FP.dmul (FP.l2d r1) r6) M7))))
def B_M_writeReal_303 (post : Unit → nf_M → Prop) (xy0 : Int32) (xy1 : Int32) (xy2 : Int64) (M : nf_M) : Prop :=
 P_M_addReal xy2 xy1 xy0 M (fun _ M2 =>
    post () M2)
def B_M_writeReal_302 (post : Unit → nf_M → Prop) (xy0 : Int32) (xy1 : Int64) (M : nf_M) : Prop :=
 B_M_writeReal_303 post (0 : Int32) xy0 xy1 M
def B_M_writeReal_275 (post : Unit → nf_M → Prop) (x4 : UInt64) (x7 : Int64) (x9 : Int32) (M : nf_M) : Prop :=
 (nf_dge x4 (4517329193108106637 : UInt64) → (nf_dlt x4 (4696837146684686336 : UInt64) → B_M_writeReal_303 post (1 : Int32) x9 x7 M) ∧
    (¬ nf_dlt x4 (4696837146684686336 : UInt64) → B_M_writeReal_302 post x9 x7 M)) ∧
    (¬ nf_dge x4 (4517329193108106637 : UInt64) → B_M_writeReal_302 post x9 x7 M)
def B_M_writeReal_163 (k150 : Int32 → UInt64 → Int32 → Int64 → Int32 → Int32 → Int32 → nf_M → Prop) (post : Unit → nf_M → Prop) (x3 : Int32) (x4 : UInt64) (x6 : Int32) (x7 : Int64) (x9 : Int32) (x10 : Int32) (x11 : Int32) (xy0 : Int32) (xy1 : Int32) (M : nf_M) : Prop :=
 (xy0 < xy1 → B_M_writeReal_275 post x4 x7 x9 M) ∧
    (¬ xy0 < xy1 → (x10 = 0 → ∀ t1 : Int32, t1 = (x6 - x11) + (1 : Int32) → ((t1 < 0 → P_M_ten (-t1) M (fun r2 M3 =>
    (vf_n64 (FP.dmul x4 r2)) ∧
    (B_M_writeReal_205 k150 post x3 x4 x6 t1 x11 (FP.dmul x4 r2) M3))) ∧
    (¬ t1 < 0 → P_M_ten t1 M (fun r5 M6 =>
    (vf_n64 (FP.ddiv x4 r5)) ∧
    (B_M_writeReal_205 k150 post x3 x4 x6 t1 x11 (FP.ddiv x4 r5) M6))))) ∧
    (¬ x10 = 0 → B_M_writeReal_275 post x4 x7 x9 M))
def B_M_writeReal_150 (post : Unit → nf_M → Prop) : Nat → Int32 → UInt64 → Int32 → Int64 → Int32 → Int32 → Int32 → nf_M → Prop
  | 0, _, _, _, _, _, _, _, _ => False
  | n + 1, x3, x4, x6, x7, x9, x10, x11, M =>
    (x3 = 0 → B_M_writeReal_163 (fun x3 x4 x6 x7 x9 x10 x11 z => B_M_writeReal_150 post n x3 x4 x6 x7 x9 x10 x11 z) post x3 x4 x6 x7 x9 x10 x11 (15 : Int32) x11 M) ∧
    (¬ x3 = 0 → B_M_writeReal_163 (fun x3 x4 x6 x7 x9 x10 x11 z => B_M_writeReal_150 post n x3 x4 x6 x7 x9 x10 x11 z) post x3 x4 x6 x7 x9 x10 x11 (8 : Int32) x11 M)
def B_M_writeReal_89 (post : Unit → nf_M → Prop) : Nat → Int32 → UInt64 → Int32 → Int32 → nf_M → Prop
  | 0, _, _, _, _, _ => False
  | n + 1, x3, x4, x6, x7, M =>
    (x7 < (16 : Int32) → (x7 < 0 → P_M_ten (-x7) M (fun r1 M2 =>
    (vf_n64 (FP.ddiv (FP.dconst1) r1)) ∧
    (B_M_writeReal_117 (fun x3 x4 x6 x7 z => B_M_writeReal_89 post n x3 x4 x6 x7 z) post x3 x4 x6 x7 (FP.ddiv (FP.dconst1) r1) M2))) ∧
    (¬ x7 < 0 → P_M_ten x7 M (fun r4 M5 =>
    B_M_writeReal_117 (fun x3 x4 x6 x7 z => B_M_writeReal_89 post n x3 x4 x6 x7 z) post x3 x4 x6 x7 r4 M5))) ∧
    (¬ x7 < (16 : Int32) → ∃ n9 : Nat, B_M_writeReal_150 post n9 x3 x4 x6 (0 : Int64) (0 : Int32) (0 : Int32) (1 : Int32) M)
def B_M_writeReal_40 (post : Unit → nf_M → Prop) (x3 : Int32) (x4 : UInt64) (M : nf_M) : Prop :=
 (nf_deq x4 (FP.dconst0) → P_M_add (48 : Int32) M (fun _ M2 =>
    post () M2)) ∧
    (¬ nf_deq x4 (FP.dconst0) → P_M_isInfinite x4 M (fun r3 M4 =>
    (r3 = 0 → ∃ n9 : Nat, B_M_writeReal_89 post n9 x3 x4 (-8 : Int32) (-7 : Int32) M4) ∧
    (¬ r3 = 0 → P_M_add (73 : Int32) M4 (fun _ M6 =>
    P_M_add (78 : Int32) M6 (fun _ M8 =>
    P_M_add (70 : Int32) M8 (fun _ M10 =>
    post () M10))))))
def B_M_writeReal_34 (post : Unit → nf_M → Prop) (x3 : Int32) (x4 : UInt64) (M : nf_M) : Prop :=
 P_M_add (45 : Int32) M (fun _ M2 =>
    B_M_writeReal_40 post x3 x4 M2)
def B_M_writeReal_12 (post : Unit → nf_M → Prop) (x1 : UInt64) (x3 : Int32) (xy0 : UInt64) (M : nf_M) : Prop :=
 (nf_dlt x1 (FP.dconst0) → B_M_writeReal_34 post x3 xy0 M) ∧
    (¬ nf_dlt x1 (FP.dconst0) → (nf_deq x1 (FP.dconst0) → (vf_n64 (FP.ddiv (FP.dconst1) x1)) ∧
    ((nf_dlt (FP.ddiv (FP.dconst1) x1) (FP.dconst0) → B_M_writeReal_34 post x3 xy0 M) ∧
    (¬ nf_dlt (FP.ddiv (FP.dconst1) x1) (FP.dconst0) → B_M_writeReal_40 post x3 xy0 M))) ∧
    (¬ nf_deq x1 (FP.dconst0) → B_M_writeReal_40 post x3 xy0 M))
def P_M_writeReal (x1 : UInt64) (x3 : Int32) (M : nf_M) (post : Unit → nf_M → Prop) : Prop :=
 (nf_dlt x1 (FP.dconst0) → B_M_writeReal_12 post x1 x3 (FP.dneg x1) M) ∧
    (¬ nf_dlt x1 (FP.dconst0) → B_M_writeReal_12 post x1 x3 x1 M)
/-- NumberForgeModel.write(I)I -/
def B_M_write_189 (post : Int32 → nf_M → Prop) (xy0 : Int32) (xy1 : UInt64) (M : nf_M) : Prop :=
 P_M_writeReal xy1 xy0 M (fun _ M2 =>
    post (mg_I M2 19 3) M2)
def B_M_write_154 (post : Int32 → nf_M → Prop) (x1 : Int32) (x2 : UInt64) (xy0 : Int32) (M : nf_M) : Prop :=
 ∀ M1 : nf_M, M1 = ms_I M 19 0 xy0 → ((0 < (mg_I M1 19 0) → post (0 : Int32) M1) ∧
    (¬ 0 < (mg_I M1 19 0) → ∀ M2 : nf_M, M2 = ms_I M1 19 3 (0 : Int32) → ((vp_in x1 8) ∧
    (((mg_I M2 22 x1.toNatClampNeg) = (8 : Int32) → B_M_write_189 post (1 : Int32) x2 M2) ∧
    (¬ (mg_I M2 22 x1.toNatClampNeg) = (8 : Int32) → B_M_write_189 post (0 : Int32) x2 M2)))))
def B_M_write_149 (post : Int32 → nf_M → Prop) (x1 : Int32) (x2 : UInt64) (M : nf_M) : Prop :=
 B_M_write_154 post x1 x2 (3 : Int32) M
def B_M_write_153 (post : Int32 → nf_M → Prop) (x1 : Int32) (x2 : UInt64) (M : nf_M) : Prop :=
 B_M_write_154 post x1 x2 (0 : Int32) M
def B_M_write_117 (post : Int32 → nf_M → Prop) (x1 : Int32) (x2 : UInt64) (x4 : UInt64) (xy0 : Int32) (M : nf_M) : Prop :=
 (xy0 = 0 → P_M_ten (8 : Int32) M (fun r1 M2 =>
    (vf_n64 (FP.ddiv (FP.dconst1) r1)) ∧
    ((nf_dlt x4 (FP.ddiv (FP.dconst1) r1) → B_M_write_149 post x1 x2 M2) ∧
    (¬ nf_dlt x4 (FP.ddiv (FP.dconst1) r1) → P_M_ten (15 : Int32) M2 (fun r4 M5 =>
    (nf_dge x4 r4 → B_M_write_149 post x1 x2 M5) ∧
    (¬ nf_dge x4 r4 → B_M_write_153 post x1 x2 M5)))))) ∧
    (¬ xy0 = 0 → B_M_write_153 post x1 x2 M)
def B_M_write_112 (post : Int32 → nf_M → Prop) (x1 : Int32) (x2 : UInt64) (x4 : UInt64) (M : nf_M) : Prop :=
 B_M_write_117 post x1 x2 x4 (1 : Int32) M
def B_M_write_95 (post : Int32 → nf_M → Prop) (x1 : Int32) (x2 : UInt64) (xy0 : UInt64) (M : nf_M) : Prop :=
 (nf_deq xy0 (FP.dconst0) → B_M_write_112 post x1 x2 xy0 M) ∧
    (¬ nf_deq xy0 (FP.dconst0) → P_M_isInfinite xy0 M (fun r1 M2 =>
    (r1 = 0 → B_M_write_117 post x1 x2 xy0 (0 : Int32) M2) ∧
    (¬ r1 = 0 → B_M_write_112 post x1 x2 xy0 M2)))
def B_M_write_26 (post : Int32 → nf_M → Prop) (x1 : Int32) (xy0 : Int32) (M : nf_M) : Prop :=
 ∀ M1 : nf_M, M1 = ms_I M 19 0 xy0 → ((0 < (mg_I M1 19 0) → post (0 : Int32) M1) ∧
    (¬ 0 < (mg_I M1 19 0) → (vp_in x1 8) ∧
    (P_M_isExact (mg_I M1 22 x1.toNatClampNeg) M1 (fun r3 M4 =>
    (r3 = 0 → (vp_in x1 8) ∧
    (∀ t6 : UInt64, t6 = mg_D M4 25 x1.toNatClampNeg → ((nf_dlt t6 (FP.dconst0) → B_M_write_95 post x1 t6 (FP.dneg t6) M4) ∧
    (¬ nf_dlt t6 (FP.dconst0) → B_M_write_95 post x1 t6 t6 M4)))) ∧
    (¬ r3 = 0 → ∀ M7 : nf_M, M7 = ms_I M4 19 3 (0 : Int32) → ((vp_in x1 8) ∧
    ((vp_in x1 8) ∧
    (P_M_addExact (mg_L M7 23 x1.toNatClampNeg) (mg_I M7 24 x1.toNatClampNeg) M7 (fun _ M11 =>
    post (mg_I M11 19 3) M11)))))))))
def P_M_write (x1 : Int32) (M : nf_M) (post : Int32 → nf_M → Prop) : Prop :=
 P_M_isRegister x1 M (fun r1 M2 =>
    (r1 = 0 → B_M_write_26 post x1 (1 : Int32) M2) ∧
    (¬ r1 = 0 → (vp_in x1 8) ∧
    (((mg_I M2 22 x1.toNatClampNeg) < 0 → B_M_write_26 post x1 (2 : Int32) M2) ∧
    (¬ (mg_I M2 22 x1.toNatClampNeg) < 0 → B_M_write_26 post x1 (0 : Int32) M2))))
/-- NumberForgeModel.look(I)I -/
def B_M_look_23 (post : Int32 → nf_M → Prop) (xy0 : Int32) (M : nf_M) : Prop :=
 post xy0 M
def B_M_look_21 (post : Int32 → nf_M → Prop) (M : nf_M) : Prop :=
 B_M_look_23 post (32 : Int32) M
def P_M_look (x1 : Int32) (M : nf_M) (post : Int32 → nf_M → Prop) : Prop :=
 (x1 < 0 → B_M_look_21 post  M) ∧
    (¬ x1 < 0 → (x1 < (mg_I M 19 1) → (vp_in x1 40) ∧
    (B_M_look_23 post (mg_I M 20 x1.toNatClampNeg) M)) ∧
    (¬ x1 < (mg_I M 19 1) → B_M_look_21 post  M))
/-- NumberForgeModel.isPart(I)Z -/
def B_M_isPart_23 (post : Int32 → nf_M → Prop) (xy0 : Int32) (M : nf_M) : Prop :=
 (narrow .boolean (.int xy0) = .int xy0) ∧ post xy0 M
def B_M_isPart_18 (post : Int32 → nf_M → Prop) (M : nf_M) : Prop :=
 B_M_isPart_23 post (1 : Int32) M
def P_M_isPart (x0 : Int32) (M : nf_M) (post : Int32 → nf_M → Prop) : Prop :=
 (x0 = (35 : Int32) → B_M_isPart_18 post  M) ∧
    (¬ x0 = (35 : Int32) → (x0 = (48 : Int32) → B_M_isPart_18 post  M) ∧
    (¬ x0 = (48 : Int32) → (x0 = (44 : Int32) → B_M_isPart_18 post  M) ∧
    (¬ x0 = (44 : Int32) → B_M_isPart_23 post (0 : Int32) M)))
/-- NumberForgeModel.run(II)I -/
def B_M_run_68 (k9 : Int32 → Int32 → Int32 → nf_M → Prop) (post : Int32 → nf_M → Prop) (x2 : Int32) (x3 : Int32) (M : nf_M) : Prop :=
 P_M_look (x3 + (1 : Int32)) M (fun r1 M2 =>
    k9 x2 (x3 + (1 : Int32)) r1 M2)
def B_M_run_81 (post : Int32 → nf_M → Prop) (x3 : Int32) (M : nf_M) : Prop :=
 post x3 M
def B_M_run_9 (post : Int32 → nf_M → Prop) : Nat → Int32 → Int32 → Int32 → nf_M → Prop
  | 0, _, _, _, _ => False
  | n + 1, x2, x3, x4, M =>
    (x3 < (mg_I M 19 1) → (x2 = 0 → P_M_isPart x4 M (fun r1 M2 =>
    (r1 = 0 → (x4 = (46 : Int32) → B_M_run_81 post x3 M2) ∧
    (¬ x4 = (46 : Int32) → (x4 = (37 : Int32) → B_M_run_81 post x3 M2) ∧
    (¬ x4 = (37 : Int32) → B_M_run_68 (fun x2 x3 x4 z => B_M_run_9 post n x2 x3 x4 z) post x2 x3 M2))) ∧
    (¬ r1 = 0 → B_M_run_81 post x3 M2))) ∧
    (¬ x2 = 0 → (x2 = (1 : Int32) → P_M_isPart x4 M (fun r3 M4 =>
    (r3 = 0 → B_M_run_81 post x3 M4) ∧
    (¬ r3 = 0 → B_M_run_68 (fun x2 x3 x4 z => B_M_run_9 post n x2 x3 x4 z) post x2 x3 M4))) ∧
    (¬ x2 = (1 : Int32) → (x4 = x2 → B_M_run_68 (fun x2 x3 x4 z => B_M_run_9 post n x2 x3 x4 z) post x2 x3 M) ∧
    (¬ x4 = x2 → B_M_run_81 post x3 M)))) ∧
    (¬ x3 < (mg_I M 19 1) → B_M_run_81 post x3 M)
def P_M_run (x1 : Int32) (x2 : Int32) (M : nf_M) (post : Int32 → nf_M → Prop) : Prop :=
 P_M_look x1 M (fun r1 M2 =>
    ∃ n9 : Nat, B_M_run_9 post n9 x2 x1 r1 M2)
/-- NumberForgeModel.isWhole(II)Z -/
def B_M_isWhole_184 (k55 : Int32 → Int32 → Int32 → Int32 → Int32 → Int32 → nf_M → Prop) (post : Int32 → nf_M → Prop) (x2 : Int32) (x3 : Int32) (x5 : Int32) (x6 : Int32) (x7 : Int32) (xy0 : Int32) (xy1 : Int32) (M : nf_M) : Prop :=
 ∀ t1 : Int32, t1 = xy1 + xy0 → (k55 x2 x3 t1 x5 x6 (x7 + (1 : Int32)) M)
def B_M_isWhole_169 (k55 : Int32 → Int32 → Int32 → Int32 → Int32 → Int32 → nf_M → Prop) (post : Int32 → nf_M → Prop) (x2 : Int32) (x4 : Int32) (x5 : Int32) (x6 : Int32) (x7 : Int32) (x8 : Int32) (xy0 : Int32) (M : nf_M) : Prop :=
 (x8 = (44 : Int32) → B_M_isWhole_184 k55 post x2 xy0 x5 x6 x7 (0 : Int32) x4 M) ∧
    (¬ x8 = (44 : Int32) → B_M_isWhole_184 k55 post x2 xy0 x5 x6 x7 (1 : Int32) x4 M)
def B_M_isWhole_153 (k55 : Int32 → Int32 → Int32 → Int32 → Int32 → Int32 → nf_M → Prop) (post : Int32 → nf_M → Prop) (x2 : Int32) (x3 : Int32) (x4 : Int32) (x6 : Int32) (x7 : Int32) (x8 : Int32) (xy0 : Int32) (M : nf_M) : Prop :=
 (x8 = (44 : Int32) → B_M_isWhole_169 k55 post x2 x4 xy0 x6 x7 x8 (0 : Int32) M) ∧
    (¬ x8 = (44 : Int32) → B_M_isWhole_169 k55 post x2 x4 xy0 x6 x7 x8 (x3 + (1 : Int32)) M)
def B_M_isWhole_148 (k55 : Int32 → Int32 → Int32 → Int32 → Int32 → Int32 → nf_M → Prop) (post : Int32 → nf_M → Prop) (x2 : Int32) (x3 : Int32) (x4 : Int32) (x6 : Int32) (x7 : Int32) (x8 : Int32) (M : nf_M) : Prop :=
 B_M_isWhole_153 k55 post x2 x3 x4 x6 x7 x8 (1 : Int32) M
def B_M_isWhole_132 (k55 : Int32 → Int32 → Int32 → Int32 → Int32 → Int32 → nf_M → Prop) (post : Int32 → nf_M → Prop) (x2 : Int32) (x3 : Int32) (x4 : Int32) (x5 : Int32) (x6 : Int32) (x7 : Int32) (x8 : Int32) (xy0 : Int32) (xy1 : Int32) (M : nf_M) : Prop :=
 ∀ t1 : Int32, t1 = xy1 + xy0 → (∀ M2 : nf_M, M2 = ms_I M 19 17 t1 → ((x5 = 0 → (x8 = (44 : Int32) → B_M_isWhole_148 k55 post x2 x3 x4 x6 x7 x8 M2) ∧
    (¬ x8 = (44 : Int32) → B_M_isWhole_153 k55 post x2 x3 x4 x6 x7 x8 (0 : Int32) M2)) ∧
    (¬ x5 = 0 → B_M_isWhole_148 k55 post x2 x3 x4 x6 x7 x8 M2)))
def B_M_isWhole_113 (k55 : Int32 → Int32 → Int32 → Int32 → Int32 → Int32 → nf_M → Prop) (post : Int32 → nf_M → Prop) (x2 : Int32) (x3 : Int32) (x4 : Int32) (x5 : Int32) (x7 : Int32) (x8 : Int32) (xy0 : Int32) (M : nf_M) : Prop :=
 (x8 = (48 : Int32) → B_M_isWhole_132 k55 post x2 x3 x4 x5 xy0 x7 x8 (1 : Int32) (mg_I M 19 17) M) ∧
    (¬ x8 = (48 : Int32) → B_M_isWhole_132 k55 post x2 x3 x4 x5 xy0 x7 x8 (0 : Int32) (mg_I M 19 17) M)
def B_M_isWhole_108 (k55 : Int32 → Int32 → Int32 → Int32 → Int32 → Int32 → nf_M → Prop) (post : Int32 → nf_M → Prop) (x2 : Int32) (x3 : Int32) (x4 : Int32) (x5 : Int32) (x7 : Int32) (x8 : Int32) (M : nf_M) : Prop :=
 B_M_isWhole_113 k55 post x2 x3 x4 x5 x7 x8 (1 : Int32) M
def B_M_isWhole_112 (k55 : Int32 → Int32 → Int32 → Int32 → Int32 → Int32 → nf_M → Prop) (post : Int32 → nf_M → Prop) (x2 : Int32) (x3 : Int32) (x4 : Int32) (x5 : Int32) (x7 : Int32) (x8 : Int32) (M : nf_M) : Prop :=
 B_M_isWhole_113 k55 post x2 x3 x4 x5 x7 x8 (0 : Int32) M
def B_M_isWhole_88 (k55 : Int32 → Int32 → Int32 → Int32 → Int32 → Int32 → nf_M → Prop) (post : Int32 → nf_M → Prop) (x2 : Int32) (x3 : Int32) (x4 : Int32) (x5 : Int32) (x7 : Int32) (x8 : Int32) (M : nf_M) : Prop :=
 (x8 = (44 : Int32) → P_M_look (x7 + (1 : Int32)) M (fun r1 M2 =>
    (r1 = (44 : Int32) → B_M_isWhole_112 k55 post x2 x3 x4 x5 x7 x8 M2) ∧
    (¬ r1 = (44 : Int32) → B_M_isWhole_108 k55 post x2 x3 x4 x5 x7 x8 M2))) ∧
    (¬ x8 = (44 : Int32) → B_M_isWhole_108 k55 post x2 x3 x4 x5 x7 x8 M)
def B_M_isWhole_222 (post : Int32 → nf_M → Prop) (xy0 : Int32) (M : nf_M) : Prop :=
 (narrow .boolean (.int xy0) = .int xy0) ∧ post xy0 M
def B_M_isWhole_221 (post : Int32 → nf_M → Prop) (M : nf_M) : Prop :=
 B_M_isWhole_222 post (0 : Int32) M
def B_M_isWhole_204 (post : Int32 → nf_M → Prop) (x4 : Int32) (x6 : Int32) (xy0 : Int32) (M : nf_M) : Prop :=
 ∀ M1 : nf_M, M1 = ms_I M 19 18 xy0 → ((x6 = 0 → B_M_isWhole_221 post  M1) ∧
    (¬ x6 = 0 → (0 < x4 → B_M_isWhole_222 post (1 : Int32) M1) ∧
    (¬ 0 < x4 → B_M_isWhole_221 post  M1)))
def B_M_isWhole_55 (post : Int32 → nf_M → Prop) : Nat → Int32 → Int32 → Int32 → Int32 → Int32 → Int32 → nf_M → Prop
  | 0, _, _, _, _, _, _, _ => False
  | n + 1, x2, x3, x4, x5, x6, x7, M =>
    (x7 < x2 → P_M_look x7 M (fun r1 M2 =>
    (x6 = 0 → B_M_isWhole_112 (fun x2 x3 x4 x5 x6 x7 z => B_M_isWhole_55 post n x2 x3 x4 x5 x6 x7 z) post x2 x3 x4 x5 x7 r1 M2) ∧
    (¬ x6 = 0 → (r1 = (35 : Int32) → (0 < (mg_I M2 19 17) → B_M_isWhole_112 (fun x2 x3 x4 x5 x6 x7 z => B_M_isWhole_55 post n x2 x3 x4 x5 x6 x7 z) post x2 x3 x4 x5 x7 r1 M2) ∧
    (¬ 0 < (mg_I M2 19 17) → B_M_isWhole_88 (fun x2 x3 x4 x5 x6 x7 z => B_M_isWhole_55 post n x2 x3 x4 x5 x6 x7 z) post x2 x3 x4 x5 x7 r1 M2)) ∧
    (¬ r1 = (35 : Int32) → B_M_isWhole_88 (fun x2 x3 x4 x5 x6 x7 z => B_M_isWhole_55 post n x2 x3 x4 x5 x6 x7 z) post x2 x3 x4 x5 x7 r1 M2)))) ∧
    (¬ x7 < x2 → (x5 = 0 → B_M_isWhole_204 post x4 x6 (0 : Int32) M) ∧
    (¬ x5 = 0 → B_M_isWhole_204 post x4 x6 x3 M))
def B_M_isWhole_50 (post : Int32 → nf_M → Prop) (x1 : Int32) (x2 : Int32) (x3 : Int32) (x4 : Int32) (x5 : Int32) (xy0 : Int32) (M : nf_M) : Prop :=
 ∃ n9 : Nat, B_M_isWhole_55 post n9 x2 x3 x4 x5 xy0 x1 M
def B_M_isWhole_49 (post : Int32 → nf_M → Prop) (x1 : Int32) (x2 : Int32) (x3 : Int32) (x4 : Int32) (x5 : Int32) (M : nf_M) : Prop :=
 B_M_isWhole_50 post x1 x2 x3 x4 x5 (0 : Int32) M
def P_M_isWhole (x1 : Int32) (x2 : Int32) (M : nf_M) (post : Int32 → nf_M → Prop) : Prop :=
 ∀ M1 : nf_M, M1 = ms_I M 19 17 (0 : Int32) → (∀ M2 : nf_M, M2 = ms_I M1 19 18 (0 : Int32) → ((x1 < x2 → P_M_look x1 M2 (fun r3 M4 =>
    (r3 = (44 : Int32) → B_M_isWhole_49 post x1 x2 (0 : Int32) (0 : Int32) (0 : Int32) M4) ∧
    (¬ r3 = (44 : Int32) → P_M_look (x2 - (1 : Int32)) M4 (fun r5 M6 =>
    (r5 = (44 : Int32) → B_M_isWhole_49 post x1 x2 (0 : Int32) (0 : Int32) (0 : Int32) M6) ∧
    (¬ r5 = (44 : Int32) → B_M_isWhole_50 post x1 x2 (0 : Int32) (0 : Int32) (0 : Int32) (1 : Int32) M6))))) ∧
    (¬ x1 < x2 → B_M_isWhole_49 post x1 x2 (0 : Int32) (0 : Int32) (0 : Int32) M2)))
/-- NumberForgeModel.roundTo(I)V -/
def B_M_roundTo_102 (post : Unit → nf_M → Prop) (x1 : Int32) (xy0 : Int64) (M : nf_M) : Prop :=
 ∀ M1 : nf_M, M1 = ms_L M 19 10 xy0 → (∀ M2 : nf_M, M2 = ms_I M1 19 11 x1 → (post () M2))
def B_M_roundTo_82 (post : Unit → nf_M → Prop) (x1 : Int32) (xy0 : Int64) (M : nf_M) : Prop :=
 ((mg_L M 19 10) < (0 : Int64) → B_M_roundTo_102 post x1 (-xy0) M) ∧
    (¬ (mg_L M 19 10) < (0 : Int64) → B_M_roundTo_102 post x1 xy0 M)
def B_M_roundTo_73 (post : Unit → nf_M → Prop) (x1 : Int32) (x8 : Int64) (M : nf_M) : Prop :=
 B_M_roundTo_82 post x1 (x8 + (1 : Int64)) M
def B_M_roundTo_80 (post : Unit → nf_M → Prop) (x1 : Int32) (x8 : Int64) (M : nf_M) : Prop :=
 B_M_roundTo_82 post x1 x8 M
def P_M_roundTo (x1 : Int32) (M : nf_M) (post : Unit → nf_M → Prop) : Prop :=
 (x1 < (mg_I M 19 11) → P_M_power ((mg_I M 19 11) - x1) M (fun r1 M2 =>
    P_M_amount (mg_L M2 19 10) M2 (fun r3 M4 =>
    (¬ r1 = 0) ∧
    (∀ t6 : Int64, t6 = r3 - r3 / r1 * r1 → ((¬ r1 = 0) ∧
    (∀ t8 : Int64, t8 = r3 / r1 → ((r1 < ((2 : Int64) * t6) → B_M_roundTo_73 post x1 t8 M4) ∧
    (¬ r1 < ((2 : Int64) * t6) → (((2 : Int64) * t6) = r1 → ((t8 - t8 / (2 : Int64) * (2 : Int64)) = (0 : Int64) → B_M_roundTo_80 post x1 t8 M4) ∧
    (¬ (t8 - t8 / (2 : Int64) * (2 : Int64)) = (0 : Int64) → B_M_roundTo_73 post x1 t8 M4)) ∧
    (¬ ((2 : Int64) * t6) = r1 → B_M_roundTo_80 post x1 t8 M4))))))))) ∧
    (¬ x1 < (mg_I M 19 11) → post () M)
/-- NumberForgeModel.addWhole(JII)V -/
def B_M_addWhole_95 (k36 : Int64 → Int32 → Int32 → nf_M → Prop) (post : Unit → nf_M → Prop) (x1 : Int64) (x4 : Int32) (x6 : Int32) (M : nf_M) : Prop :=
 k36 x1 x4 (x6 + (-1 : Int32)) M
def B_M_addWhole_67 (k36 : Int64 → Int32 → Int32 → nf_M → Prop) (post : Unit → nf_M → Prop) (x1 : Int64) (x4 : Int32) (x6 : Int32) (xy0 : Int32) (xy1 : Int32) (M : nf_M) : Prop :=
 P_M_add (xy1 + xy0) M (fun _ M2 =>
    (0 < x4 → (0 < x6 → (¬ x4 = 0) ∧
    (((x6 - x6 / x4 * x4) = 0 → P_M_add (44 : Int32) M2 (fun _ M5 =>
    B_M_addWhole_95 k36 post x1 x4 x6 M5)) ∧
    (¬ (x6 - x6 / x4 * x4) = 0 → B_M_addWhole_95 k36 post x1 x4 x6 M2))) ∧
    (¬ 0 < x6 → B_M_addWhole_95 k36 post x1 x4 x6 M2)) ∧
    (¬ 0 < x4 → B_M_addWhole_95 k36 post x1 x4 x6 M2))
def B_M_addWhole_36 (post : Unit → nf_M → Prop) : Nat → Int64 → Int32 → Int32 → nf_M → Prop
  | 0, _, _, _, _ => False
  | n + 1, x1, x4, x6, M =>
    (x6 < 0 → post () M) ∧
    (¬ x6 < 0 → ((17 : Int32) < x6 → B_M_addWhole_67 (fun x1 x4 x6 z => B_M_addWhole_36 post n x1 x4 x6 z) post x1 x4 x6 (0 : Int32) (48 : Int32) M) ∧
    (¬ (17 : Int32) < x6 → P_M_power x6 M (fun r1 M2 =>
    (¬ r1 = 0) ∧
    (B_M_addWhole_67 (fun x1 x4 x6 z => B_M_addWhole_36 post n x1 x4 x6 z) post x1 x4 x6 (((x1 / r1) - (x1 / r1) / (10 : Int64) * (10 : Int64)).toInt32) (48 : Int32) M2))))
def B_M_addWhole_28 (post : Unit → nf_M → Prop) (x1 : Int64) (x4 : Int32) (xy0 : Int32) (M : nf_M) : Prop :=
 ∀ t1 : Int32, t1 = xy0 - (1 : Int32) → (∃ n9 : Nat, B_M_addWhole_36 post n9 x1 x4 t1 M)
def B_M_addWhole_14 (post : Unit → nf_M → Prop) (x1 : Int64) (x3 : Int32) (x4 : Int32) (xy0 : Int32) (M : nf_M) : Prop :=
 (xy0 < x3 → B_M_addWhole_28 post x1 x4 x3 M) ∧
    (¬ xy0 < x3 → B_M_addWhole_28 post x1 x4 xy0 M)
def P_M_addWhole (x1 : Int64) (x3 : Int32) (x4 : Int32) (M : nf_M) (post : Unit → nf_M → Prop) : Prop :=
 (x1 = (0 : Int64) → B_M_addWhole_14 post x1 x3 x4 (0 : Int32) M) ∧
    (¬ x1 = (0 : Int64) → P_M_width x1 M (fun r1 M2 =>
    B_M_addWhole_14 post x1 x3 x4 r1 M2))
/-- NumberForgeModel.draw(IIII)V -/
def B_M_draw_238 (k197 : Int32 → Int64 → Int32 → Int32 → nf_M → Prop) (post : Unit → nf_M → Prop) (x4 : Int32) (x6 : Int64) (x11 : Int32) (x14 : Int32) (xy0 : Int32) (xy1 : Int32) (M : nf_M) : Prop :=
 P_M_add (xy1 + xy0) M (fun _ M2 =>
    k197 x4 x6 x11 (x14 + (1 : Int32)) M2)
def B_M_draw_252 (post : Unit → nf_M → Prop) : Nat → Int32 → nf_M → Prop
  | 0, _, _ => False
  | n + 1, x14, M =>
    (x14 < (mg_I M 19 1) → P_M_look x14 M (fun r1 M2 =>
    P_M_add r1 M2 (fun _ M4 =>
    B_M_draw_252 post n (x14 + (1 : Int32)) M4))) ∧
    (¬ x14 < (mg_I M 19 1) → post () M)
def B_M_draw_197 (post : Unit → nf_M → Prop) : Nat → Int32 → Int64 → Int32 → Int32 → nf_M → Prop
  | 0, _, _, _, _, _ => False
  | n + 1, x4, x6, x11, x14, M =>
    (x11 < x14 → ∃ n9 : Nat, B_M_draw_252 post n9 x4 M) ∧
    (¬ x11 < x14 → ((mg_I M 19 11) < x14 → B_M_draw_238 (fun x4 x6 x11 x14 z => B_M_draw_197 post n x4 x6 x11 x14 z) post x4 x6 x11 x14 (0 : Int32) (48 : Int32) M) ∧
    (¬ (mg_I M 19 11) < x14 → P_M_power ((mg_I M 19 11) - x14) M (fun r1 M2 =>
    (¬ r1 = 0) ∧
    (B_M_draw_238 (fun x4 x6 x11 x14 z => B_M_draw_197 post n x4 x6 x11 x14 z) post x4 x6 x11 x14 (((x6 / r1) - (x6 / r1) / (10 : Int64) * (10 : Int64)).toInt32) (48 : Int32) M2))))
def B_M_draw_194 (post : Unit → nf_M → Prop) (x4 : Int32) (x6 : Int64) (x11 : Int32) (M : nf_M) : Prop :=
 ∃ n9 : Nat, B_M_draw_197 post n9 x4 x6 x11 (1 : Int32) M
def B_M_draw_176 (post : Unit → nf_M → Prop) (x4 : Int32) (x6 : Int64) (x11 : Int32) (xy0 : Int32) (xy1 : Int64) (M : nf_M) : Prop :=
 P_M_addWhole xy1 xy0 (mg_I M 19 18) M (fun _ M2 =>
    (0 < x11 → P_M_add (46 : Int32) M2 (fun _ M4 =>
    B_M_draw_194 post x4 x6 x11 M4)) ∧
    (¬ 0 < x11 → B_M_draw_194 post x4 x6 x11 M2))
def B_M_draw_172 (post : Unit → nf_M → Prop) (x4 : Int32) (x6 : Int64) (x11 : Int32) (xy0 : Int64) (M : nf_M) : Prop :=
 B_M_draw_176 post x4 x6 x11 (mg_I M 19 17) xy0 M
def B_M_draw_124 (post : Unit → nf_M → Prop) : Nat → Int32 → Int32 → Int64 → Int32 → Int64 → Int32 → nf_M → Prop
  | 0, _, _, _, _, _, _, _ => False
  | n + 1, x1, x4, x6, x11, x12, x14, M =>
    (x14 < x1 → P_M_look x14 M (fun r1 M2 =>
    P_M_add r1 M2 (fun _ M4 =>
    B_M_draw_124 post n x1 x4 x6 x11 x12 (x14 + (1 : Int32)) M4))) ∧
    (¬ x14 < x1 → (x12 = (0 : Int64) → ((mg_I M 19 17) = 0 → (x11 = 0 → B_M_draw_176 post x4 x6 x11 (1 : Int32) x12 M) ∧
    (¬ x11 = 0 → B_M_draw_172 post x4 x6 x11 x12 M)) ∧
    (¬ (mg_I M 19 17) = 0 → B_M_draw_172 post x4 x6 x11 x12 M)) ∧
    (¬ x12 = (0 : Int64) → B_M_draw_172 post x4 x6 x11 x12 M))
def B_M_draw_121 (post : Unit → nf_M → Prop) (x1 : Int32) (x4 : Int32) (x6 : Int64) (x11 : Int32) (x12 : Int64) (M : nf_M) : Prop :=
 ∃ n9 : Nat, B_M_draw_124 post n9 x1 x4 x6 x11 x12 (0 : Int32) M
def B_M_draw_87 (post : Unit → nf_M → Prop) (x1 : Int32) (x4 : Int32) (x6 : Int64) (xy0 : Int32) (M : nf_M) : Prop :=
 P_M_power (mg_I M 19 11) M (fun r1 M2 =>
    (¬ r1 = 0) ∧
    (∀ t4 : Int64, t4 = x6 / r1 → (∀ M5 : nf_M, M5 = ms_I M2 19 3 (0 : Int32) → (((mg_L M5 19 10) < (0 : Int64) → P_M_add (45 : Int32) M5 (fun _ M7 =>
    B_M_draw_121 post x1 x4 x6 xy0 t4 M7)) ∧
    (¬ (mg_L M5 19 10) < (0 : Int64) → B_M_draw_121 post x1 x4 x6 xy0 t4 M5)))))
def B_M_draw_73 (post : Unit → nf_M → Prop) (x1 : Int32) (x4 : Int32) (x5 : Int32) (x6 : Int64) (x10 : Int32) (M : nf_M) : Prop :=
 (x5 < x10 → B_M_draw_87 post x1 x4 x6 x10 M) ∧
    (¬ x5 < x10 → B_M_draw_87 post x1 x4 x6 x5 M)
def B_M_draw_43 (post : Unit → nf_M → Prop) : Nat → Int32 → Int32 → Int32 → Int64 → Int64 → Int32 → nf_M → Prop
  | 0, _, _, _, _, _, _, _ => False
  | n + 1, x1, x4, x5, x6, x8, x10, M =>
    (0 < x10 → ((x8 - x8 / (10 : Int64) * (10 : Int64)) = (0 : Int64) → ∀ t1 : Int64, t1 = x8 / (10 : Int64) → (B_M_draw_43 post n x1 x4 x5 x6 t1 (x10 + (-1 : Int32)) M)) ∧
    (¬ (x8 - x8 / (10 : Int64) * (10 : Int64)) = (0 : Int64) → B_M_draw_73 post x1 x4 x5 x6 x10 M)) ∧
    (¬ 0 < x10 → B_M_draw_73 post x1 x4 x5 x6 x10 M)
def B_M_draw_14 (post : Unit → nf_M → Prop) (x1 : Int32) (x4 : Int32) (xy0 : Int32) (M : nf_M) : Prop :=
 P_M_amount (mg_L M 19 10) M (fun r1 M2 =>
    P_M_power (mg_I M2 19 11) M2 (fun r3 M4 =>
    (¬ r3 = 0) ∧
    (∀ t6 : Int64, t6 = r1 - r1 / r3 * r3 → (∀ t7 : Int32, t7 = mg_I M4 19 11 → (∃ n9 : Nat, B_M_draw_43 post n9 x1 x4 xy0 r1 t6 t7 M4)))))
def P_M_draw (x1 : Int32) (x2 : Int32) (x3 : Int32) (x4 : Int32) (M : nf_M) (post : Unit → nf_M → Prop) : Prop :=
 (x2 < x3 → B_M_draw_14 post x1 x4 ((x3 - x2) - (1 : Int32)) M) ∧
    (¬ x2 < x3 → B_M_draw_14 post x1 x4 (0 : Int32) M)
/-- NumberForgeModel.picture(I)I -/
def B_M_picture_188 (k123 : Int32 → Int32 → Int32 → Int32 → Int32 → Int32 → Int32 → Int32 → nf_M → Prop) (post : Int32 → nf_M → Prop) (x1 : Int32) (x2 : Int32) (x3 : Int32) (x5 : Int32) (x6 : Int32) (x7 : Int32) (x9 : Int32) (xy0 : Int32) (M : nf_M) : Prop :=
 k123 x1 x2 x3 x5 x6 x7 xy0 (x9 + (1 : Int32)) M
def B_M_picture_183 (k123 : Int32 → Int32 → Int32 → Int32 → Int32 → Int32 → Int32 → Int32 → nf_M → Prop) (post : Int32 → nf_M → Prop) (x1 : Int32) (x2 : Int32) (x3 : Int32) (x5 : Int32) (x6 : Int32) (x7 : Int32) (x9 : Int32) (M : nf_M) : Prop :=
 B_M_picture_188 k123 post x1 x2 x3 x5 x6 x7 x9 (1 : Int32) M
def B_M_picture_165 (k123 : Int32 → Int32 → Int32 → Int32 → Int32 → Int32 → Int32 → Int32 → nf_M → Prop) (post : Int32 → nf_M → Prop) (x1 : Int32) (x2 : Int32) (x3 : Int32) (x5 : Int32) (x6 : Int32) (x8 : Int32) (x9 : Int32) (xy0 : Int32) (M : nf_M) : Prop :=
 (x8 = 0 → P_M_look x9 M (fun r1 M2 =>
    (r1 = (37 : Int32) → B_M_picture_183 k123 post x1 x2 x3 x5 x6 xy0 x9 M2) ∧
    (¬ r1 = (37 : Int32) → B_M_picture_188 k123 post x1 x2 x3 x5 x6 xy0 x9 (0 : Int32) M2))) ∧
    (¬ x8 = 0 → B_M_picture_183 k123 post x1 x2 x3 x5 x6 xy0 x9 M)
def B_M_picture_164 (k123 : Int32 → Int32 → Int32 → Int32 → Int32 → Int32 → Int32 → Int32 → nf_M → Prop) (post : Int32 → nf_M → Prop) (x1 : Int32) (x2 : Int32) (x3 : Int32) (x5 : Int32) (x6 : Int32) (x8 : Int32) (x9 : Int32) (M : nf_M) : Prop :=
 B_M_picture_165 k123 post x1 x2 x3 x5 x6 x8 x9 (0 : Int32) M
def B_M_picture_297 (post : Int32 → nf_M → Prop) (x2 : Int32) (x3 : Int32) (x5 : Int32) (x6 : Int32) (xy0 : Int32) (M : nf_M) : Prop :=
 P_M_roundTo xy0 M (fun _ M2 =>
    P_M_draw x2 x3 x5 x6 M2 (fun _ M4 =>
    post (mg_I M4 19 3) M4))
def B_M_picture_268 (post : Int32 → nf_M → Prop) (x2 : Int32) (x3 : Int32) (x5 : Int32) (x6 : Int32) (xy0 : Int32) (M : nf_M) : Prop :=
 ∀ M1 : nf_M, M1 = ms_I M 19 0 xy0 → ((0 < (mg_I M1 19 0) → post (0 : Int32) M1) ∧
    (¬ 0 < (mg_I M1 19 0) → (x3 < x6 → B_M_picture_297 post x2 x3 x5 x6 ((x6 - x3) - (1 : Int32)) M1) ∧
    (¬ x3 < x6 → B_M_picture_297 post x2 x3 x5 x6 (0 : Int32) M1)))
def B_M_picture_242 (post : Int32 → nf_M → Prop) (x2 : Int32) (x3 : Int32) (x5 : Int32) (x6 : Int32) (M : nf_M) : Prop :=
 ((mg_I M 19 9) = (4 : Int32) → B_M_picture_268 post x2 x3 x5 x6 (4 : Int32) M) ∧
    (¬ (mg_I M 19 9) = (4 : Int32) → ((mg_I M 19 9) = (5 : Int32) → B_M_picture_268 post x2 x3 x5 x6 (5 : Int32) M) ∧
    (¬ (mg_I M 19 9) = (5 : Int32) → B_M_picture_268 post x2 x3 x5 x6 (0 : Int32) M))
def B_M_picture_123 (post : Int32 → nf_M → Prop) : Nat → Int32 → Int32 → Int32 → Int32 → Int32 → Int32 → Int32 → Int32 → nf_M → Prop
  | 0, _, _, _, _, _, _, _, _, _ => False
  | n + 1, x1, x2, x3, x5, x6, x7, x8, x9, M =>
    (x9 < (mg_I M 19 1) → (x7 = 0 → B_M_picture_164 (fun x1 x2 x3 x5 x6 x7 x8 x9 z => B_M_picture_123 post n x1 x2 x3 x5 x6 x7 x8 x9 z) post x1 x2 x3 x5 x6 x8 x9 M) ∧
    (¬ x7 = 0 → P_M_look x9 M (fun r1 M2 =>
    P_M_isPart r1 M2 (fun r3 M4 =>
    (r3 = 0 → P_M_look x9 M4 (fun r5 M6 =>
    (r5 = (46 : Int32) → B_M_picture_164 (fun x1 x2 x3 x5 x6 x7 x8 x9 z => B_M_picture_123 post n x1 x2 x3 x5 x6 x7 x8 x9 z) post x1 x2 x3 x5 x6 x8 x9 M6) ∧
    (¬ r5 = (46 : Int32) → B_M_picture_165 (fun x1 x2 x3 x5 x6 x7 x8 x9 z => B_M_picture_123 post n x1 x2 x3 x5 x6 x7 x8 x9 z) post x1 x2 x3 x5 x6 x8 x9 (1 : Int32) M6))) ∧
    (¬ r3 = 0 → B_M_picture_164 (fun x1 x2 x3 x5 x6 x7 x8 x9 z => B_M_picture_123 post n x1 x2 x3 x5 x6 x7 x8 x9 z) post x1 x2 x3 x5 x6 x8 x9 M4))))) ∧
    (¬ x9 < (mg_I M 19 1) → (x7 = 0 → ∀ M7 : nf_M, M7 = ms_I M 19 0 (3 : Int32) → (post (0 : Int32) M7)) ∧
    (¬ x7 = 0 → P_M_castTo x1 (0 : Int32) M (fun _ M9 =>
    ((mg_I M9 19 9) = 0 → (x8 = 0 → B_M_picture_242 post x2 x3 x5 x6 M9) ∧
    (¬ x8 = 0 → P_M_product (mg_L M9 19 10) (mg_I M9 19 11) (100 : Int64) (0 : Int32) M9 (fun _ M11 =>
    B_M_picture_242 post x2 x3 x5 x6 M11))) ∧
    (¬ (mg_I M9 19 9) = 0 → B_M_picture_242 post x2 x3 x5 x6 M9))))
def B_M_picture_106 (post : Int32 → nf_M → Prop) (x1 : Int32) (x2 : Int32) (x3 : Int32) (x5 : Int32) (xy0 : Int32) (M : nf_M) : Prop :=
 P_M_isWhole x2 x3 M (fun r1 M2 =>
    ∃ n9 : Nat, B_M_picture_123 post n9 x1 x2 x3 x5 xy0 r1 (0 : Int32) xy0 M2)
def B_M_picture_87 (post : Int32 → nf_M → Prop) (x1 : Int32) (x2 : Int32) (x3 : Int32) (x4 : Int32) (xy0 : Int32) (M : nf_M) : Prop :=
 (x4 = 0 → B_M_picture_106 post x1 x2 x3 xy0 x3 M) ∧
    (¬ x4 = 0 → P_M_run xy0 (35 : Int32) M (fun r1 M2 =>
    B_M_picture_106 post x1 x2 x3 xy0 r1 M2))
def B_M_picture_67 (post : Int32 → nf_M → Prop) (x1 : Int32) (x2 : Int32) (x3 : Int32) (xy0 : Int32) (M : nf_M) : Prop :=
 (xy0 = 0 → B_M_picture_87 post x1 x2 x3 xy0 x3 M) ∧
    (¬ xy0 = 0 → P_M_run (x3 + (1 : Int32)) (48 : Int32) M (fun r1 M2 =>
    B_M_picture_87 post x1 x2 x3 xy0 r1 M2))
def B_M_picture_26 (post : Int32 → nf_M → Prop) (x1 : Int32) (xy0 : Int32) (M : nf_M) : Prop :=
 ∀ M1 : nf_M, M1 = ms_I M 19 0 xy0 → ((0 < (mg_I M1 19 0) → post (0 : Int32) M1) ∧
    (¬ 0 < (mg_I M1 19 0) → P_M_run (0 : Int32) (0 : Int32) M1 (fun r2 M3 =>
    P_M_run r2 (1 : Int32) M3 (fun r4 M5 =>
    P_M_look r4 M5 (fun r6 M7 =>
    (r6 = (46 : Int32) → B_M_picture_67 post x1 r2 r4 (1 : Int32) M7) ∧
    (¬ r6 = (46 : Int32) → B_M_picture_67 post x1 r2 r4 (0 : Int32) M7))))))
def P_M_picture (x1 : Int32) (M : nf_M) (post : Int32 → nf_M → Prop) : Prop :=
 P_M_isRegister x1 M (fun r1 M2 =>
    (r1 = 0 → B_M_picture_26 post x1 (1 : Int32) M2) ∧
    (¬ r1 = 0 → (vp_in x1 8) ∧
    (((mg_I M2 22 x1.toNatClampNeg) < 0 → B_M_picture_26 post x1 (2 : Int32) M2) ∧
    (¬ (mg_I M2 22 x1.toNatClampNeg) < 0 → B_M_picture_26 post x1 (0 : Int32) M2))))
/-- NumberForgeModel.addLetters(JI)V -/
def B_M_addLetters_64 (post : Unit → nf_M → Prop) : Nat → Int32 → Int32 → nf_M → Prop
  | 0, _, _, _ => False
  | n + 1, x3, x6, M =>
    (x6 < 0 → post () M) ∧
    (¬ x6 < 0 → (vp_in x6 80) ∧
    (P_M_add (x3 + (mg_I M 26 x6.toNatClampNeg)) M (fun _ M3 =>
    B_M_addLetters_64 post n x3 (x6 + (-1 : Int32)) M3)))
def B_M_addLetters_8 (post : Unit → nf_M → Prop) : Nat → Int32 → Int64 → nf_M → Prop
  | 0, _, _, _ => False
  | n + 1, x3, x4, M =>
    ((0 : Int64) < x4 → ∀ t1 : Int32, t1 = ((x4 - (1 : Int64)) - (x4 - (1 : Int64)) / (26 : Int64) * (26 : Int64)).toInt32 → ((vp_in (mg_I M 19 13) 80) ∧
    (∀ M3 : nf_M, M3 = ms_I M 26 (mg_I M 19 13).toNatClampNeg t1 → (∀ t4 : Int64, t4 = (x4 - (1 : Int64)) / (26 : Int64) → (∀ t5 : Int32, t5 = (mg_I M3 19 13) + (1 : Int32) → (∀ M6 : nf_M, M6 = ms_I M3 19 13 t5 → (B_M_addLetters_8 post n x3 t4 M6))))))) ∧
    (¬ (0 : Int64) < x4 → ∀ t7 : Int32, t7 = (mg_I M 19 13) - (1 : Int32) → (∃ n9 : Nat, B_M_addLetters_64 post n9 x3 t7 M))
def P_M_addLetters (x1 : Int64) (x3 : Int32) (M : nf_M) (post : Unit → nf_M → Prop) : Prop :=
 ∀ M1 : nf_M, M1 = ms_I M 19 13 (0 : Int32) → (∃ n9 : Nat, B_M_addLetters_8 post n9 x3 x1 M1)
/-- NumberForgeModel.roman(IZ)I -/
def B_M_roman_26 (post : Int32 → nf_M → Prop) (xy0 : Int32) (M : nf_M) : Prop :=
 post xy0 M
def P_M_roman (x0 : Int32) (x1 : Int32) (M : nf_M) (post : Int32 → nf_M → Prop) : Prop :=
 ∀ t1 : Int32, t1 = (((30791150645835369 : Int64) >>> (((8 : Int32) * x0).toInt64 &&& 63)).toInt32) &&& (255 : Int32) → ((x1 = 0 → B_M_roman_26 post t1 M) ∧
    (¬ x1 = 0 → B_M_roman_26 post (t1 - (32 : Int32)) M))
/-- NumberForgeModel.addRoman(IZ)V -/
def B_M_addRoman_121 (k2 : Int32 → Int32 → Int32 → nf_M → Prop) (post : Unit → nf_M → Prop) (x1 : Int32) (x2 : Int32) (x3 : Int32) (M : nf_M) : Prop :=
 k2 x1 x2 (x3 + (-1 : Int32)) M
def B_M_addRoman_65 (k2 : Int32 → Int32 → Int32 → nf_M → Prop) (post : Unit → nf_M → Prop) (x1 : Int32) (x2 : Int32) (x3 : Int32) (xy0 : Int32) (M : nf_M) : Prop :=
 P_M_roman xy0 x2 M (fun r1 M2 =>
    P_M_add r1 M2 (fun _ M4 =>
    B_M_addRoman_121 k2 post x1 x2 x3 M4))
def B_M_addRoman_36 (k2 : Int32 → Int32 → Int32 → nf_M → Prop) (post : Unit → nf_M → Prop) (x1 : Int32) (x2 : Int32) (x3 : Int32) (x4 : Int32) (x5 : Int32) (M : nf_M) : Prop :=
 P_M_roman x5 x2 M (fun r1 M2 =>
    P_M_add r1 M2 (fun _ M4 =>
    (x4 = (9 : Int32) → B_M_addRoman_65 k2 post x1 x2 x3 (x5 + (2 : Int32)) M4) ∧
    (¬ x4 = (9 : Int32) → B_M_addRoman_65 k2 post x1 x2 x3 (x5 + (1 : Int32)) M4)))
def B_M_addRoman_96 (k2 : Int32 → Int32 → Int32 → nf_M → Prop) (post : Unit → nf_M → Prop) : Nat → Int32 → Int32 → Int32 → Int32 → Int32 → Int32 → nf_M → Prop
  | 0, _, _, _, _, _, _, _ => False
  | n + 1, x1, x2, x3, x4, x5, x6, M =>
    (x6 < (x4 - x4 / (5 : Int32) * (5 : Int32)) → P_M_roman x5 x2 M (fun r1 M2 =>
    P_M_add r1 M2 (fun _ M4 =>
    B_M_addRoman_96 k2 post n x1 x2 x3 x4 x5 (x6 + (1 : Int32)) M4))) ∧
    (¬ x6 < (x4 - x4 / (5 : Int32) * (5 : Int32)) → B_M_addRoman_121 k2 post x1 x2 x3 M)
def B_M_addRoman_93 (k2 : Int32 → Int32 → Int32 → nf_M → Prop) (post : Unit → nf_M → Prop) (x1 : Int32) (x2 : Int32) (x3 : Int32) (x4 : Int32) (x5 : Int32) (M : nf_M) : Prop :=
 ∃ n9 : Nat, B_M_addRoman_96 k2 post n9 x1 x2 x3 x4 x5 (0 : Int32) M
def B_M_addRoman_2 (post : Unit → nf_M → Prop) : Nat → Int32 → Int32 → Int32 → nf_M → Prop
  | 0, _, _, _, _ => False
  | n + 1, x1, x2, x3, M =>
    (x3 < 0 → post () M) ∧
    (¬ x3 < 0 → P_M_power x3 M (fun r1 M2 =>
    (¬ (r1.toInt32) = 0) ∧
    (∀ t4 : Int32, t4 = (x1 / (r1.toInt32)) - (x1 / (r1.toInt32)) / (10 : Int32) * (10 : Int32) → (∀ t5 : Int32, t5 = (2 : Int32) * x3 → ((t4 = (9 : Int32) → B_M_addRoman_36 (fun x1 x2 x3 z => B_M_addRoman_2 post n x1 x2 x3 z) post x1 x2 x3 t4 t5 M2) ∧
    (¬ t4 = (9 : Int32) → (t4 = (4 : Int32) → B_M_addRoman_36 (fun x1 x2 x3 z => B_M_addRoman_2 post n x1 x2 x3 z) post x1 x2 x3 t4 t5 M2) ∧
    (¬ t4 = (4 : Int32) → ((4 : Int32) < t4 → P_M_roman (t5 + (1 : Int32)) x2 M2 (fun r6 M7 =>
    P_M_add r6 M7 (fun _ M9 =>
    B_M_addRoman_93 (fun x1 x2 x3 z => B_M_addRoman_2 post n x1 x2 x3 z) post x1 x2 x3 t4 t5 M9))) ∧
    (¬ (4 : Int32) < t4 → B_M_addRoman_93 (fun x1 x2 x3 z => B_M_addRoman_2 post n x1 x2 x3 z) post x1 x2 x3 t4 t5 M2))))))))
def P_M_addRoman (x1 : Int32) (x2 : Int32) (M : nf_M) (post : Unit → nf_M → Prop) : Prop :=
 ∃ n9 : Nat, B_M_addRoman_2 post n9 x1 x2 (3 : Int32) M
/-- NumberForgeModel.letters(II)I -/
def B_M_letters_150 (post : Int32 → nf_M → Prop) (M : nf_M) : Prop :=
 post (mg_I M 19 3) M
def B_M_letters_100 (post : Int32 → nf_M → Prop) (xy0 : Int32) (xy1 : Int64) (M : nf_M) : Prop :=
 P_M_addLetters xy1 xy0 M (fun _ M2 =>
    B_M_letters_150 post  M2)
def B_M_letters_138 (post : Int32 → nf_M → Prop) (xy0 : Int32) (xy1 : Int32) (M : nf_M) : Prop :=
 P_M_addRoman xy1 xy0 M (fun _ M2 =>
    B_M_letters_150 post  M2)
def B_M_letters_144 (post : Int32 → nf_M → Prop) (x3 : Int64) (M : nf_M) : Prop :=
 P_M_addExact x3 (0 : Int32) M (fun _ M2 =>
    B_M_letters_150 post  M2)
def B_M_letters_106 (post : Int32 → nf_M → Prop) (x2 : Int32) (x3 : Int64) (M : nf_M) : Prop :=
 ((2 : Int32) < x2 → ((0 : Int64) < x3 → (x3 < (4000 : Int64) → (x2 = (4 : Int32) → B_M_letters_138 post (1 : Int32) (x3.toInt32) M) ∧
    (¬ x2 = (4 : Int32) → B_M_letters_138 post (0 : Int32) (x3.toInt32) M)) ∧
    (¬ x3 < (4000 : Int64) → B_M_letters_144 post x3 M)) ∧
    (¬ (0 : Int64) < x3 → B_M_letters_144 post x3 M)) ∧
    (¬ (2 : Int32) < x2 → B_M_letters_144 post x3 M)
def B_M_letters_47 (post : Int32 → nf_M → Prop) (x1 : Int32) (x2 : Int32) (xy0 : Int32) (M : nf_M) : Prop :=
 ∀ M1 : nf_M, M1 = ms_I M 19 0 xy0 → ((0 < (mg_I M1 19 0) → post (0 : Int32) M1) ∧
    (¬ 0 < (mg_I M1 19 0) → (vp_in x1 8) ∧
    (∀ t3 : Int64, t3 = mg_L M1 23 x1.toNatClampNeg → (∀ M4 : nf_M, M4 = ms_I M1 19 3 (0 : Int32) → ((0 < x2 → (x2 < (3 : Int32) → ((0 : Int64) < t3 → (x2 = (1 : Int32) → B_M_letters_100 post (97 : Int32) t3 M4) ∧
    (¬ x2 = (1 : Int32) → B_M_letters_100 post (65 : Int32) t3 M4)) ∧
    (¬ (0 : Int64) < t3 → B_M_letters_106 post x2 t3 M4)) ∧
    (¬ x2 < (3 : Int32) → B_M_letters_106 post x2 t3 M4)) ∧
    (¬ 0 < x2 → B_M_letters_106 post x2 t3 M4))))))
def B_M_letters_17 (post : Int32 → nf_M → Prop) (x1 : Int32) (x2 : Int32) (M : nf_M) : Prop :=
 B_M_letters_47 post x1 x2 (1 : Int32) M
def B_M_letters_42 (post : Int32 → nf_M → Prop) (x1 : Int32) (x2 : Int32) (M : nf_M) : Prop :=
 B_M_letters_47 post x1 x2 (2 : Int32) M
def P_M_letters (x1 : Int32) (x2 : Int32) (M : nf_M) (post : Int32 → nf_M → Prop) : Prop :=
 P_M_isRegister x1 M (fun r1 M2 =>
    (r1 = 0 → B_M_letters_17 post x1 x2 M2) ∧
    (¬ r1 = 0 → (x2 < 0 → B_M_letters_17 post x1 x2 M2) ∧
    (¬ x2 < 0 → ((4 : Int32) < x2 → B_M_letters_17 post x1 x2 M2) ∧
    (¬ (4 : Int32) < x2 → (vp_in x1 8) ∧
    (((mg_I M2 22 x1.toNatClampNeg) < (1 : Int32) → B_M_letters_42 post x1 x2 M2) ∧
    (¬ (mg_I M2 22 x1.toNatClampNeg) < (1 : Int32) → (vp_in x1 8) ∧
    (((7 : Int32) < (mg_I M2 22 x1.toNatClampNeg) → B_M_letters_42 post x1 x2 M2) ∧
    (¬ (7 : Int32) < (mg_I M2 22 x1.toNatClampNeg) → B_M_letters_47 post x1 x2 (0 : Int32) M2))))))))
/-- NumberForgeModel.output(I)I -/
def B_M_output_39 (post : Int32 → nf_M → Prop) (xy0 : Int32) (M : nf_M) : Prop :=
 post xy0 M
def B_M_output_29 (post : Int32 → nf_M → Prop) (M : nf_M) : Prop :=
 B_M_output_39 post (-1 : Int32) M
def P_M_output (x1 : Int32) (M : nf_M) (post : Int32 → nf_M → Prop) : Prop :=
 ∀ M1 : nf_M, M1 = ms_I M 19 0 (0 : Int32) → ((x1 = (-1 : Int32) → B_M_output_39 post (mg_I M1 19 3) M1) ∧
    (¬ x1 = (-1 : Int32) → (x1 < 0 → B_M_output_29 post  M1) ∧
    (¬ x1 < 0 → (x1 < (mg_I M1 19 3) → (vp_in x1 400) ∧
    (B_M_output_39 post (mg_I M1 21 x1.toNatClampNeg) M1)) ∧
    (¬ x1 < (mg_I M1 19 3) → B_M_output_29 post  M1))))
