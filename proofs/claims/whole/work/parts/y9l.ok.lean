theorem okL33 : ([283, 284, 285, 286, 287] : List Nat).all okM = true := by decide +kernel
theorem okL34 : ([288, 289, 290] : List Nat).all okM = true := by decide +kernel
theorem okL35 : ([291, 292, 293, 294] : List Nat).all okM = true := by decide +kernel
