theorem okL16 : ([204, 205, 206, 207, 208, 209, 210, 211, 212, 213] : List Nat).all okM = true := by decide +kernel
theorem okL17 : ([214, 215, 216, 217, 218, 219, 220, 221] : List Nat).all okM = true := by decide +kernel
