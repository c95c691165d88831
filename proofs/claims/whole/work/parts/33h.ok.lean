theorem okL14 : ([193] : List Nat).all okM = true := by decide +kernel
theorem okL15 : ([194, 195, 196, 197, 198, 199, 200, 201, 202, 203] : List Nat).all okM = true := by decide +kernel
