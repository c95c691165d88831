theorem okL28 : ([330, 331, 332, 333, 334, 335, 336, 337, 338] : List Nat).all okM = true := by decide +kernel
