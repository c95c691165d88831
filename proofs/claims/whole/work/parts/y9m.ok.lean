theorem okL36 : ([295, 296] : List Nat).all okM = true := by decide +kernel
theorem okL37 : ([297, 298, 299, 300, 301, 302] : List Nat).all okM = true := by decide +kernel
theorem okL38 : ([303, 304, 305, 306, 307, 308] : List Nat).all okM = true := by decide +kernel
