theorem okL39 : ([309, 310, 311] : List Nat).all okM = true := by decide +kernel
theorem okL40 : ([312, 313, 314, 315, 316] : List Nat).all okM = true := by decide +kernel
theorem okL41 : ([317, 318, 319, 320, 321, 322, 323] : List Nat).all okM = true := by decide +kernel
