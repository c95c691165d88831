theorem okL30 : ([263, 264, 265, 266, 267] : List Nat).all okM = true := by decide +kernel
theorem okL31 : ([268, 269, 270, 271, 272, 273, 274, 275] : List Nat).all okM = true := by decide +kernel
theorem okL32 : ([276, 277, 278, 279, 280, 281, 282] : List Nat).all okM = true := by decide +kernel
