/-! all arms together -/
theorem nf_all : ∃ Inv : nf_M → Prop, Inv nf_M0 ∧ nf_step Inv :=
  ⟨iv_I, nf_inv0, fun x1 x2 x3 x4 M h => ⟨nf_arm0 x1 x2 M h, nf_arm1 M h, nf_arm2 x1 x2 M h, nf_arm3 x1 x2 x3 M h, nf_arm4 x1 x2 x3 x4 M h, nf_arm5 x1 x2 x3 M h, nf_arm6 x1 x2 x3 M h, nf_arm7 x1 x2 M h, nf_arm8 x1 M h, nf_arm9 x1 M h, nf_arm10 x1 x2 M h, nf_arm11 x1 M h, nf_arm12 x1 M h, nf_arm13 x1 x2 M h, nf_arm14 x1 M h⟩⟩
theorem i_vc : Claimed_1_1 ∧ Claimed_1_2 := nf_ivc nf_all
