/-! the end of an arm: code and answer are compared; compare -/
def endL (r1 : Int32) (r3 : Int32) (M4 : nf_M) : Prop := P_M_thrown M4 (fun r5 M6 =>
    (r5 = r1 → (r1 = 0 → (vp_in (0 : Int32) 1) ∧
    (((mg_L M6 27 (0 : Int32).toNatClampNeg) = (r3.toInt64) → iv_I M6) ∧
    (¬ (mg_L M6 27 (0 : Int32).toNatClampNeg) = (r3.toInt64) → False))) ∧
    (¬ r1 = 0 → iv_I M6)) ∧
    (¬ r5 = r1 → False))
theorem end_thr {r1 r3 : Int32} {M4 : nf_M} (h : iv_I M4) (e : mg_I M4 19 0 = r1) (hn : ¬ r1 = 0) : endL r1 r3 M4 := by
  unfold endL P_M_thrown
  rw [e]
  exact ⟨fun _ => ⟨fun z => absurd z hn, fun _ => h⟩, fun z => z rfl⟩
theorem end_ok {r3 : Int32} {M4 : nf_M} (h : iv_I M4) (e : mg_I M4 19 0 = 0) (ho : mg_L M4 27 0 = r3.toInt64) : endL 0 r3 M4 := by
  unfold endL P_M_thrown
  rw [e]
  have hv0 : vp_in (0 : Int32) 1 := by rw [vp_in_iff]; decide
  have e8 : (0 : Int32).toNatClampNeg = 0 := by decide
  rw [e8]
  exact ⟨fun _ => ⟨fun _ => ⟨hv0, fun _ => h, fun z => z ho⟩, fun z => absurd rfl z⟩, fun z => z rfl⟩
theorem nf_arm7 (x1 x2 : Int32) (M : nf_M) (h : iv_I M) : P_arm7 x1 x2 M iv_I := by
  obtain ⟨n, tx, m, ou, rg, hI⟩ := h
  have hv0 : vp_in (0 : Int32) 1 := by rw [vp_in_iff]; decide
  show P_L_compare x1 x2 M (fun r1 M2 => P_M_compare x1 x2 M2 (fun r3 M4 => endL r1 r3 M4))
  have hfin : ∀ (M0 : nf_M) (v : Int32), iv_1 M0 n tx m ou rg → iv_I (ms_I M0 19 0 v) := fun M0 v h0 => ⟨n, tx, m, ou, rg, iv_scr h0 v⟩
  unfold P_L_compare
  refine s_F_compare (iv_cv hI) (iv_ok hI) (fun z => c_0 0 rfl ?_) (fun a b ha hb ea eb z => c_0 1 rfl ?_) (fun a b ha hb ea eb fa fb t3 e3 => ⟨hv0, fun M5 e5 => ?_⟩)
  · rw [nI_z]
    refine s_M_compare (iv_mv hI) (iv_ok hI) (fun _ => end_thr (hfin M 1 hI) (show (1 : Int32) = zI (0 + 1 : Nat) by decide) (by decide)) (fun a b ha hb ea eb z2 => ?_) (fun a b ha hb ea eb _ _ => ?_)
    · rcases z with z | z
      · exact absurd (by rw [ea]; exact in_z ha) z
      · exact absurd (by rw [eb]; exact in_z hb) z
    · rcases z with z | z
      · exact absurd (by rw [ea]; exact in_z ha) z
      · exact absurd (by rw [eb]; exact in_z hb) z
  · rw [nI_z]
    refine s_M_compare (iv_mv hI) (iv_ok hI) (fun z2 => ?_) (fun a b ha hb ea eb z2 => end_thr (hfin M 2 hI) (show (2 : Int32) = zI (1 + 1 : Nat) by decide) (by decide)) (fun a' b' ha' hb' ea' eb' fa fb => ?_)
    · rcases z2 with z2 | z2
      · exact absurd (by rw [ea]; exact in_z ha) z2
      · exact absurd (by rw [eb]; exact in_z hb) z2
    · have q1 := z_inj ha ha' ea ea'
      have q2 := z_inj hb hb' eb eb'
      subst q1 q2
      omega
  · have hI5 : iv_1 M5 n tx m ou rg := by rw [e5]; exact iv_outL hI _ _
    refine s_M_compare (iv_mv hI5) (iv_ok hI5) (fun z2 => ?_) (fun a' b' ha' hb' ea' eb' z2 => ?_) (fun a' b' ha' hb' ea' eb' _ _ => end_ok (hfin M5 0 hI5) rfl ?_)
    · rcases z2 with z2 | z2
      · exact absurd (by rw [ea]; exact in_z ha) z2
      · exact absurd (by rw [eb]; exact in_z hb) z2
    · have q1 := z_inj ha ha' ea ea'
      have q2 := z_inj hb hb' eb eb'
      subst q1 q2
      omega
    · have q1 := z_inj ha ha' ea ea'
      have q2 := z_inj hb hb' eb eb'
      subst q1 q2
      rw [e5, e3]
      rfl
