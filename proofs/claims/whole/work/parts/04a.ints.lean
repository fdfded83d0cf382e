/-! Words of 32 and 64 bits, as whole numbers. -/
theorem sI_of {x : Int} (h : sI x) : (Int32.ofInt x).toInt = x := Int32.toInt_ofInt_of_le (by have := h.1; omega) (by have := h.2; omega)
theorem sJ_of {x : Int} (h : sJ x) : (Int64.ofInt x).toInt = x := Int64.toInt_ofInt_of_le (by have := h.1; omega) (by have := h.2; omega)
theorem oI_enc (f : Int32 → Int32 → Int32) (x y : Int) : Int32.ofInt (oI f x y) = f (Int32.ofInt x) (Int32.ofInt y) := by unfold oI; exact Int32.ofInt_toInt _
