theorem okL24 : ([291, 292, 293, 294, 295, 296, 297] : List Nat).all okM = true := by decide +kernel
theorem okL25 : ([298, 299, 300, 301, 302, 303, 304, 305, 306, 307, 308, 309] : List Nat).all okM = true := by decide +kernel
