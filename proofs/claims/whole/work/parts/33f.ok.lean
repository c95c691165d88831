theorem okL10 : ([135, 136, 137, 138, 139, 140, 141, 142, 143, 144, 145, 146, 147, 148, 149, 150] : List Nat).all okM = true := by decide +kernel
theorem okL11 : ([151, 152, 153, 154, 155, 156, 157, 158, 159, 160, 161, 162, 163, 164] : List Nat).all okM = true := by decide +kernel
