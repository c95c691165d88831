set_option maxRecDepth 100000 in
theorem mF6_code : ∀ q ∈ mF6, lw_tbl[q.2.1]? = some (.code (my q.1) (mb q.1) (mx q.1) (rty (mr q.1))) := by
  intro q hq
  simp only [mF6, List.mem_cons, List.not_mem_nil, or_false] at hq
  rcases hq with rfl | rfl | rfl | rfl | rfl | rfl | rfl | rfl | rfl | rfl | rfl | rfl | rfl | rfl | rfl | rfl | rfl | rfl | rfl | rfl | rfl | rfl | rfl | rfl | rfl | rfl | rfl | rfl | rfl | rfl <;> rfl
set_option maxRecDepth 100000 in
theorem mF7_code : ∀ q ∈ mF7, lw_tbl[q.2.1]? = some (.code (my q.1) (mb q.1) (mx q.1) (rty (mr q.1))) := by
  intro q hq
  simp only [mF7, List.mem_cons, List.not_mem_nil, or_false] at hq
  rcases hq with rfl | rfl | rfl | rfl | rfl | rfl | rfl | rfl | rfl | rfl | rfl | rfl | rfl | rfl | rfl | rfl | rfl | rfl | rfl | rfl | rfl | rfl | rfl | rfl | rfl | rfl | rfl | rfl | rfl | rfl <;> rfl
set_option maxRecDepth 100000 in
theorem mF8_code : ∀ q ∈ mF8, lw_tbl[q.2.1]? = some (.code (my q.1) (mb q.1) (mx q.1) (rty (mr q.1))) := by
  intro q hq
  simp only [mF8, List.mem_cons, List.not_mem_nil, or_false] at hq
  rcases hq with rfl | rfl | rfl | rfl | rfl | rfl | rfl | rfl | rfl | rfl | rfl | rfl | rfl | rfl | rfl | rfl | rfl | rfl | rfl | rfl | rfl | rfl | rfl | rfl | rfl | rfl | rfl | rfl | rfl | rfl <;> rfl
