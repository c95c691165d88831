theorem okL6 : ([83, 84, 85, 86, 87, 88, 89, 90, 91, 92, 93] : List Nat).all okM = true := by decide +kernel
theorem okL7 : ([94, 95, 96, 97, 98, 99, 100, 101] : List Nat).all okM = true := by decide +kernel
