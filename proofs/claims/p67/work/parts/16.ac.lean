/-! ===== words of System.arraycopy ===== -/
theorem ac_X5 : Cond.methodLink RX5 35 arraycopyName ∈ GT := mT 654 (by decide +kernel) rfl
theorem ac_X1 : Cond.methodLink RX1 28 arraycopyName ∈ GT := mT 661 (by decide +kernel) rfl
theorem ac_X9 : Cond.methodLink RX9 25 arraycopyName ∈ GT := mT 666 (by decide +kernel) rfl
theorem ac_st : Cond.static arraycopyName ∈ GT := mT 655 (by decide +kernel) rfl
theorem ac_na : Cond.native arraycopyName ∈ GT := mT 656 (by decide +kernel) rfl
theorem ac_in : Cond.initialized "java/lang/System" ∈ GT := mT 23 (by decide +kernel) rfl
theorem cpy0 {f g : Nat → Int32} {N j : Nat} (hj : j < N) {m : Int32} (hm : m.toNatClampNeg = N) : va_cpy f g (0 : Int32).toNatClampNeg (0 : Int32).toNatClampNeg m.toNatClampNeg j = f j := by
  rw [hm]
  exact sb_cpy0 hj
