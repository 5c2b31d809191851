/-! numbers of 32 and 64 bits as integers -/
def zI (z : Int) : Int32 := Int32.ofInt z
def zL (z : Int) : Int64 := Int64.ofInt z
theorem zI_to (x : Int32) : zI x.toInt = x := Int32.ofInt_toInt x
theorem zL_to (x : Int64) : zL x.toInt = x := Int64.ofInt_toInt x
theorem zI_ti {z : Int} (h1 : -2147483648 ≤ z) (h2 : z < 2147483648) : (zI z).toInt = z := by
  unfold zI
  exact Int32.toInt_ofInt_of_le h1 h2
theorem zL_ti {z : Int} (h1 : -9223372036854775808 ≤ z) (h2 : z < 9223372036854775808) : (zL z).toInt = z := by
  unfold zL
  exact Int64.toInt_ofInt_of_le h1 h2
theorem zI_add (a b : Int) : zI a + zI b = zI (a + b) := (Int32.ofInt_add ..).symm
theorem zI_sub (a b : Int) : zI a - zI b = zI (a - b) := (Int32.ofInt_sub ..).symm
theorem zI_mul (a b : Int) : zI a * zI b = zI (a * b) := (Int32.ofInt_mul ..).symm
theorem zI_neg (a : Int) : -zI a = zI (-a) := (Int32.ofInt_neg ..).symm
theorem zL_add (a b : Int) : zL a + zL b = zL (a + b) := (Int64.ofInt_add ..).symm
theorem zL_sub (a b : Int) : zL a - zL b = zL (a - b) := (Int64.ofInt_sub ..).symm
theorem zL_mul (a b : Int) : zL a * zL b = zL (a * b) := (Int64.ofInt_mul ..).symm
theorem zL_neg (a : Int) : -zL a = zL (-a) := (Int64.ofInt_neg ..).symm
theorem zI_lt {a b : Int} (h1 : -2147483648 ≤ a) (h2 : a < 2147483648) (h3 : -2147483648 ≤ b) (h4 : b < 2147483648) : zI a < zI b ↔ a < b := by rw [Int32.lt_iff_toInt_lt, zI_ti h1 h2, zI_ti h3 h4]
theorem zI_eq {a b : Int} (h1 : -2147483648 ≤ a) (h2 : a < 2147483648) (h3 : -2147483648 ≤ b) (h4 : b < 2147483648) : zI a = zI b ↔ a = b := by rw [← Int32.toInt_inj, zI_ti h1 h2, zI_ti h3 h4]
theorem zL_lt {a b : Int} (h1 : -9223372036854775808 ≤ a) (h2 : a < 9223372036854775808) (h3 : -9223372036854775808 ≤ b) (h4 : b < 9223372036854775808) : zL a < zL b ↔ a < b := by rw [Int64.lt_iff_toInt_lt, zL_ti h1 h2, zL_ti h3 h4]
theorem zL_eq {a b : Int} (h1 : -9223372036854775808 ≤ a) (h2 : a < 9223372036854775808) (h3 : -9223372036854775808 ≤ b) (h4 : b < 9223372036854775808) : zL a = zL b ↔ a = b := by rw [← Int64.toInt_inj, zL_ti h1 h2, zL_ti h3 h4]
theorem zL_div {a b : Int} (h1 : -9223372036854775808 ≤ a) (h2 : a < 9223372036854775808) (h3 : -9223372036854775808 ≤ b) (h4 : b < 9223372036854775808) : zL a / zL b = zL (a.tdiv b) := by
  rw [← Int64.toInt_inj, Int64.toInt_div, zL_ti h1 h2, zL_ti h3 h4]
  unfold zL
  rw [Int64.toInt_ofInt]
theorem zI_div {a b : Int} (h1 : -2147483648 ≤ a) (h2 : a < 2147483648) (h3 : -2147483648 ≤ b) (h4 : b < 2147483648) : zI a / zI b = zI (a.tdiv b) := by
  rw [← Int32.toInt_inj, Int32.toInt_div, zI_ti h1 h2, zI_ti h3 h4]
  unfold zI
  rw [Int32.toInt_ofInt]
theorem zI_l {a : Int} (h1 : -2147483648 ≤ a) (h2 : a < 2147483648) : (zI a).toInt64 = zL a := by
  rw [← Int64.toInt_inj, Int32.toInt_toInt64, zI_ti h1 h2, zL_ti (by omega) (by omega)]
theorem zL_i {a : Int} (h1 : -2147483648 ≤ a) (h2 : a < 2147483648) : (zL a).toInt32 = zI a := by
  rw [← Int32.toInt_inj, Int64.toInt_toInt32, zL_ti (by omega) (by omega), zI_ti h1 h2, Int.bmod_def]
  split <;> omega
theorem nI_z (n : Nat) : nI n = zI n := by unfold nI zI; exact (Int32.ofInt_eq_ofNat ..).symm
theorem lN_z (n : Nat) : lN n = zL n := by unfold lN zL; exact (Int64.ofInt_eq_ofNat ..).symm
