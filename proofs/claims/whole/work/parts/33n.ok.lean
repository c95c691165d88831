theorem okL26 : ([310, 311, 312, 313, 314, 315, 316, 317] : List Nat).all okM = true := by decide +kernel
theorem okL27 : ([318, 319, 320, 321, 322, 323, 324, 325, 326, 327, 328, 329] : List Nat).all okM = true := by decide +kernel
