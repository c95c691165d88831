theorem okL4 : ([51, 52, 53, 54, 55, 56, 57, 58, 59, 60, 61, 62, 63, 64, 65, 66] : List Nat).all okM = true := by decide +kernel
theorem okL5 : ([67, 68, 69, 70, 71, 72, 73, 74, 75, 76, 77, 78, 79, 80, 81, 82] : List Nat).all okM = true := by decide +kernel
