theorem okL18 : ([209, 210, 211, 212] : List Nat).all okM = true := by decide +kernel
theorem okL19 : ([213, 214, 215, 216, 217, 218] : List Nat).all okM = true := by decide +kernel
theorem okL20 : ([219, 220] : List Nat).all okM = true := by decide +kernel
