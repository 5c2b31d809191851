/-! the words that a throw asks for -/
theorem na_F_243 : ∀ w ∈ Jvm.Bundle.ownAtoms "NumberForge" 243 "java/lang/IndexOutOfBoundsException" nf_chain, nf_inT w = true := by decide +kernel
theorem na_N_78 : ∀ w ∈ Jvm.Bundle.ownAtoms "NumberForge$Numeral" 78 "java/lang/UnsupportedOperationException" nf_chain, nf_inT w = true := by decide +kernel
theorem na_F_87 : ∀ w ∈ Jvm.Bundle.ownAtoms "NumberForge" 87 "java/lang/IllegalArgumentException" nf_chain, nf_inT w = true := by decide +kernel
theorem na_F_225 : ∀ w ∈ Jvm.Bundle.ownAtoms "NumberForge" 225 "java/lang/IllegalStateException" nf_chain, nf_inT w = true := by decide +kernel
theorem na_F_342 : ∀ w ∈ Jvm.Bundle.ownAtoms "NumberForge" 342 "java/lang/UnsupportedOperationException" nf_chain, nf_inT w = true := by decide +kernel
theorem na_F_309 : ∀ w ∈ Jvm.Bundle.ownAtoms "NumberForge" 309 "java/lang/ArithmeticException" nf_chain, nf_inT w = true := by decide +kernel
theorem na_W_68 : ∀ w ∈ Jvm.Bundle.ownAtoms "NumberForge$Wide" 68 "java/lang/UnsupportedOperationException" nf_chain, nf_inT w = true := by decide +kernel
theorem na_D_17 : ∀ w ∈ Jvm.Bundle.ownAtoms "NumberForge$Digits" 17 "java/lang/UnsupportedOperationException" nf_chain, nf_inT w = true := by decide +kernel
