theorem mF_all : ∀ k, k < 339 → ∃ q ∈ mF, q.1 = k := by decide +kernel
theorem pf_max : plainFor (my 337) = true := by decide +kernel
theorem pf_min : plainFor (my 338) = true := by decide +kernel
