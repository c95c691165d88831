theorem okL20 : ([238, 239, 240, 241, 242, 243, 244, 245, 246, 247, 248, 249, 250, 251, 252, 253] : List Nat).all okM = true := by decide +kernel
theorem okL21 : ([254, 255, 256, 257, 258, 259, 260, 261, 262, 263, 264, 265, 266] : List Nat).all okM = true := by decide +kernel
