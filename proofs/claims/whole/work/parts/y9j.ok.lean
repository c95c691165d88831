theorem okL27 : ([240, 241, 242] : List Nat).all okM = true := by decide +kernel
theorem okL28 : ([243, 244, 245, 246, 247, 248, 249, 250, 251, 252, 253, 254, 255, 256] : List Nat).all okM = true := by decide +kernel
theorem okL29 : ([257, 258, 259, 260, 261, 262] : List Nat).all okM = true := by decide +kernel
