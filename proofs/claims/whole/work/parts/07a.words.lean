set_option maxRecDepth 100000 in
theorem mF0_code : ∀ q ∈ mF0, lw_tbl[q.2.1]? = some (.code (my q.1) (mb q.1) (mx q.1) (rty (mr q.1))) := by
  intro q hq
  simp only [mF0, List.mem_cons, List.not_mem_nil, or_false] at hq
  rcases hq with rfl | rfl | rfl | rfl | rfl | rfl | rfl | rfl | rfl | rfl | rfl | rfl | rfl | rfl | rfl | rfl | rfl | rfl | rfl | rfl | rfl | rfl | rfl | rfl | rfl | rfl | rfl | rfl | rfl | rfl <;> rfl
set_option maxRecDepth 100000 in
theorem mF1_code : ∀ q ∈ mF1, lw_tbl[q.2.1]? = some (.code (my q.1) (mb q.1) (mx q.1) (rty (mr q.1))) := by
  intro q hq
  simp only [mF1, List.mem_cons, List.not_mem_nil, or_false] at hq
  rcases hq with rfl | rfl | rfl | rfl | rfl | rfl | rfl | rfl | rfl | rfl | rfl | rfl | rfl | rfl | rfl | rfl | rfl | rfl | rfl | rfl | rfl | rfl | rfl | rfl | rfl | rfl | rfl | rfl | rfl | rfl <;> rfl
set_option maxRecDepth 100000 in
theorem mF2_code : ∀ q ∈ mF2, lw_tbl[q.2.1]? = some (.code (my q.1) (mb q.1) (mx q.1) (rty (mr q.1))) := by
  intro q hq
  simp only [mF2, List.mem_cons, List.not_mem_nil, or_false] at hq
  rcases hq with rfl | rfl | rfl | rfl | rfl | rfl | rfl | rfl | rfl | rfl | rfl | rfl | rfl | rfl | rfl | rfl | rfl | rfl | rfl | rfl | rfl | rfl | rfl | rfl | rfl | rfl | rfl | rfl | rfl | rfl <;> rfl
