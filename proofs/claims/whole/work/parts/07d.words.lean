set_option maxRecDepth 100000 in
theorem mF9_code : ∀ q ∈ mF9, lw_tbl[q.2.1]? = some (.code (my q.1) (mb q.1) (mx q.1) (rty (mr q.1))) := by
  intro q hq
  simp only [mF9, List.mem_cons, List.not_mem_nil, or_false] at hq
  rcases hq with rfl | rfl | rfl | rfl | rfl | rfl | rfl | rfl | rfl | rfl | rfl | rfl | rfl | rfl | rfl | rfl | rfl | rfl | rfl | rfl | rfl | rfl | rfl | rfl | rfl | rfl | rfl | rfl | rfl | rfl <;> rfl
set_option maxRecDepth 100000 in
theorem mF10_code : ∀ q ∈ mF10, lw_tbl[q.2.1]? = some (.code (my q.1) (mb q.1) (mx q.1) (rty (mr q.1))) := by
  intro q hq
  simp only [mF10, List.mem_cons, List.not_mem_nil, or_false] at hq
  rcases hq with rfl | rfl | rfl | rfl | rfl | rfl | rfl | rfl | rfl | rfl | rfl | rfl | rfl | rfl | rfl | rfl | rfl | rfl | rfl | rfl | rfl | rfl | rfl | rfl | rfl | rfl | rfl | rfl | rfl | rfl <;> rfl
set_option maxRecDepth 100000 in
theorem mF11_code : ∀ q ∈ mF11, lw_tbl[q.2.1]? = some (.code (my q.1) (mb q.1) (mx q.1) (rty (mr q.1))) := by
  intro q hq
  simp only [mF11, List.mem_cons, List.not_mem_nil, or_false] at hq
  rcases hq with rfl | rfl | rfl | rfl | rfl | rfl | rfl | rfl | rfl <;> rfl
