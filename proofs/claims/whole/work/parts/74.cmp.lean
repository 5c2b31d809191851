/-! floating compares as compares of integers -/
def zv (a : UInt64) : Int := FP.Core.zval FP.Core.b64 (FP.Core.val64 a)
theorem dcmp_z {a b : UInt64} (ha : okD a) (hb : okD b) : FP.Core.dcmp a b = some (compare (zv a) (zv b)) := FP.Core.dcmp_zval (okD_val.mp ha) (okD_val.mp hb)
theorem dlt_z {a b : UInt64} (ha : okD a) (hb : okD b) : nf_dlt a b ↔ zv a < zv b := by
  unfold nf_dlt
  have h := dcmp_z ha hb
  rw [show FP.dcmp a b = FP.Core.dcmp a b from rfl, h]
  rw [Option.some.injEq, Int.compare_eq_lt]
theorem dgt_z {a b : UInt64} (ha : okD a) (hb : okD b) : nf_dgt a b ↔ zv b < zv a := by
  unfold nf_dgt
  have h := dcmp_z ha hb
  rw [show FP.dcmp a b = FP.Core.dcmp a b from rfl, h]
  rw [Option.some.injEq, Int.compare_eq_gt]
theorem deq_z {a b : UInt64} (ha : okD a) (hb : okD b) : nf_deq a b ↔ zv a = zv b := by
  unfold nf_deq
  have h := dcmp_z ha hb
  rw [show FP.dcmp a b = FP.Core.dcmp a b from rfl, h]
  rw [Option.some.injEq, Int.compare_eq_eq]
theorem dle_z {a b : UInt64} (ha : okD a) (hb : okD b) : nf_dle a b ↔ zv a ≤ zv b := by
  have h1 := dlt_z ha hb
  have h2 := deq_z ha hb
  unfold nf_dlt at h1
  unfold nf_deq at h2
  unfold nf_dle
  rw [h1, h2]
  omega
theorem dge_z {a b : UInt64} (ha : okD a) (hb : okD b) : nf_dge a b ↔ zv b ≤ zv a := by
  have h1 := dgt_z ha hb
  have h2 := deq_z ha hb
  unfold nf_dgt at h1
  unfold nf_deq at h2
  unfold nf_dge
  rw [h1, h2]
  omega
