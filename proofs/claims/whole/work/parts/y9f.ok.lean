theorem okL15 : ([194, 195, 196, 197, 198, 199, 200, 201, 202] : List Nat).all okM = true := by decide +kernel
theorem okL16 : ([203] : List Nat).all okM = true := by decide +kernel
theorem okL17 : ([204, 205, 206, 207, 208] : List Nat).all okM = true := by decide +kernel
