/-! ===== ints of 32 bits by their numbers ===== -/
theorem qj_add (a b : Int) : qj a + qj b = qj (a + b) := by unfold qj; rw [Int32.ofInt_add]
theorem qj_sub (a b : Int) : qj a - qj b = qj (a - b) := by unfold qj; rw [Int32.ofInt_sub]
theorem qj_mul (a b : Int) : qj a * qj b = qj (a * b) := by unfold qj; rw [Int32.ofInt_mul]
theorem qj_neg (a : Int) : -qj a = qj (-a) := by unfold qj; rw [Int32.ofInt_neg]
