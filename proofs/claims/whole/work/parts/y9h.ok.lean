theorem okL21 : ([221, 222] : List Nat).all okM = true := by decide +kernel
theorem okL22 : ([223] : List Nat).all okM = true := by decide +kernel
theorem okL23 : ([224] : List Nat).all okM = true := by decide +kernel
