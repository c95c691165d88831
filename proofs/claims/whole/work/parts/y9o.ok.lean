theorem okL42 : ([324, 325, 326, 327] : List Nat).all okM = true := by decide +kernel
theorem okL43 : ([328, 329, 330, 331, 332] : List Nat).all okM = true := by decide +kernel
theorem okL44 : ([333, 334, 335, 336, 337, 338] : List Nat).all okM = true := by decide +kernel
