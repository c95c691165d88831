theorem okL24 : ([225, 226, 227, 228, 229, 230, 231, 232] : List Nat).all okM = true := by decide +kernel
theorem okL25 : ([233, 234, 235] : List Nat).all okM = true := by decide +kernel
theorem okL26 : ([236, 237, 238, 239] : List Nat).all okM = true := by decide +kernel
