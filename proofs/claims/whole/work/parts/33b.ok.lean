theorem okL2 : ([32, 33, 34, 35, 36, 37, 38, 39, 40, 41] : List Nat).all okM = true := by decide +kernel
theorem okL3 : ([42, 43, 44, 45, 46, 47, 48, 49, 50] : List Nat).all okM = true := by decide +kernel
