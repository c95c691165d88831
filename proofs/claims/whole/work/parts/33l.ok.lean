theorem okL22 : ([267, 268, 269, 270, 271, 272, 273, 274, 275, 276, 277, 278, 279, 280, 281] : List Nat).all okM = true := by decide +kernel
theorem okL23 : ([282, 283, 284, 285, 286, 287, 288, 289, 290] : List Nat).all okM = true := by decide +kernel
