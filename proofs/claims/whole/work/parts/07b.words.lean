set_option maxRecDepth 100000 in
theorem mF3_code : ∀ q ∈ mF3, lw_tbl[q.2.1]? = some (.code (my q.1) (mb q.1) (mx q.1) (rty (mr q.1))) := by
  intro q hq
  simp only [mF3, List.mem_cons, List.not_mem_nil, or_false] at hq
  rcases hq with rfl | rfl | rfl | rfl | rfl | rfl | rfl | rfl | rfl | rfl | rfl | rfl | rfl | rfl | rfl | rfl | rfl | rfl | rfl | rfl | rfl | rfl | rfl | rfl | rfl | rfl | rfl | rfl | rfl | rfl <;> rfl
set_option maxRecDepth 100000 in
theorem mF4_code : ∀ q ∈ mF4, lw_tbl[q.2.1]? = some (.code (my q.1) (mb q.1) (mx q.1) (rty (mr q.1))) := by
  intro q hq
  simp only [mF4, List.mem_cons, List.not_mem_nil, or_false] at hq
  rcases hq with rfl | rfl | rfl | rfl | rfl | rfl | rfl | rfl | rfl | rfl | rfl | rfl | rfl | rfl | rfl | rfl | rfl | rfl | rfl | rfl | rfl | rfl | rfl | rfl | rfl | rfl | rfl | rfl | rfl | rfl <;> rfl
set_option maxRecDepth 100000 in
theorem mF5_code : ∀ q ∈ mF5, lw_tbl[q.2.1]? = some (.code (my q.1) (mb q.1) (mx q.1) (rty (mr q.1))) := by
  intro q hq
  simp only [mF5, List.mem_cons, List.not_mem_nil, or_false] at hq
  rcases hq with rfl | rfl | rfl | rfl | rfl | rfl | rfl | rfl | rfl | rfl | rfl | rfl | rfl | rfl | rfl | rfl | rfl | rfl | rfl | rfl | rfl | rfl | rfl | rfl | rfl | rfl | rfl | rfl | rfl | rfl <;> rfl
