theorem okL18 : ([222, 223, 224, 225, 226] : List Nat).all okM = true := by decide +kernel
theorem okL19 : ([227, 228, 229, 230, 231, 232, 233, 234, 235, 236, 237] : List Nat).all okM = true := by decide +kernel
