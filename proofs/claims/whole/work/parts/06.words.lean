set_option maxRecDepth 100000 in
theorem cT0_ok : ∀ q ∈ cT0, lw_tbl[q.2.2.2.2]? = some (.methodLink (cn q.1) q.2.1 (my q.2.2.2.1)) := by
  intro q hq
  simp only [cT0, List.mem_cons, List.not_mem_nil, or_false] at hq
  rcases hq with rfl | rfl | rfl | rfl | rfl | rfl | rfl | rfl | rfl | rfl | rfl | rfl | rfl | rfl | rfl | rfl | rfl | rfl | rfl | rfl | rfl | rfl | rfl | rfl | rfl | rfl | rfl | rfl | rfl | rfl | rfl | rfl | rfl | rfl | rfl | rfl | rfl | rfl | rfl | rfl | rfl | rfl | rfl | rfl | rfl | rfl | rfl | rfl | rfl | rfl <;> rfl
set_option maxRecDepth 100000 in
theorem cT1_ok : ∀ q ∈ cT1, lw_tbl[q.2.2.2.2]? = some (.methodLink (cn q.1) q.2.1 (my q.2.2.2.1)) := by
  intro q hq
  simp only [cT1, List.mem_cons, List.not_mem_nil, or_false] at hq
  rcases hq with rfl | rfl | rfl | rfl | rfl | rfl | rfl | rfl | rfl | rfl | rfl | rfl | rfl | rfl | rfl | rfl | rfl | rfl | rfl | rfl | rfl | rfl | rfl | rfl | rfl | rfl | rfl | rfl | rfl | rfl | rfl | rfl | rfl | rfl | rfl | rfl | rfl | rfl | rfl | rfl | rfl | rfl | rfl | rfl | rfl | rfl | rfl | rfl | rfl | rfl <;> rfl
set_option maxRecDepth 100000 in
theorem cT2_ok : ∀ q ∈ cT2, lw_tbl[q.2.2.2.2]? = some (.methodLink (cn q.1) q.2.1 (my q.2.2.2.1)) := by
  intro q hq
  simp only [cT2, List.mem_cons, List.not_mem_nil, or_false] at hq
  rcases hq with rfl | rfl | rfl | rfl | rfl | rfl | rfl | rfl | rfl | rfl | rfl | rfl | rfl | rfl | rfl | rfl | rfl | rfl | rfl | rfl | rfl | rfl | rfl | rfl | rfl | rfl | rfl | rfl | rfl | rfl | rfl | rfl | rfl | rfl | rfl | rfl | rfl | rfl | rfl | rfl | rfl | rfl | rfl | rfl | rfl | rfl | rfl | rfl | rfl | rfl <;> rfl
set_option maxRecDepth 100000 in
theorem cT3_ok : ∀ q ∈ cT3, lw_tbl[q.2.2.2.2]? = some (.methodLink (cn q.1) q.2.1 (my q.2.2.2.1)) := by
  intro q hq
  simp only [cT3, List.mem_cons, List.not_mem_nil, or_false] at hq
  rcases hq with rfl | rfl | rfl | rfl | rfl | rfl | rfl | rfl | rfl | rfl | rfl | rfl | rfl | rfl | rfl | rfl | rfl | rfl | rfl | rfl | rfl | rfl | rfl | rfl | rfl | rfl | rfl | rfl | rfl | rfl | rfl | rfl | rfl | rfl | rfl | rfl | rfl | rfl | rfl | rfl | rfl | rfl | rfl | rfl | rfl | rfl | rfl | rfl | rfl | rfl <;> rfl
set_option maxRecDepth 100000 in
theorem cT4_ok : ∀ q ∈ cT4, lw_tbl[q.2.2.2.2]? = some (.methodLink (cn q.1) q.2.1 (my q.2.2.2.1)) := by
  intro q hq
  simp only [cT4, List.mem_cons, List.not_mem_nil, or_false] at hq
  rcases hq with rfl | rfl | rfl | rfl | rfl | rfl | rfl | rfl | rfl | rfl | rfl | rfl | rfl | rfl | rfl | rfl | rfl | rfl | rfl | rfl | rfl | rfl | rfl | rfl | rfl | rfl | rfl | rfl | rfl | rfl | rfl | rfl | rfl | rfl | rfl | rfl | rfl | rfl | rfl | rfl | rfl | rfl | rfl | rfl | rfl | rfl | rfl | rfl | rfl | rfl <;> rfl
set_option maxRecDepth 100000 in
theorem cT5_ok : ∀ q ∈ cT5, lw_tbl[q.2.2.2.2]? = some (.methodLink (cn q.1) q.2.1 (my q.2.2.2.1)) := by
  intro q hq
  simp only [cT5, List.mem_cons, List.not_mem_nil, or_false] at hq
  rcases hq with rfl | rfl | rfl | rfl | rfl | rfl | rfl | rfl | rfl | rfl | rfl | rfl | rfl | rfl | rfl | rfl | rfl | rfl | rfl | rfl | rfl | rfl | rfl | rfl | rfl | rfl | rfl | rfl | rfl | rfl | rfl | rfl | rfl | rfl | rfl | rfl | rfl | rfl | rfl | rfl | rfl | rfl | rfl | rfl | rfl | rfl | rfl | rfl | rfl | rfl <;> rfl
set_option maxRecDepth 100000 in
theorem cT6_ok : ∀ q ∈ cT6, lw_tbl[q.2.2.2.2]? = some (.methodLink (cn q.1) q.2.1 (my q.2.2.2.1)) := by
  intro q hq
  simp only [cT6, List.mem_cons, List.not_mem_nil, or_false] at hq
  rcases hq with rfl | rfl | rfl | rfl | rfl | rfl | rfl | rfl | rfl | rfl | rfl | rfl | rfl | rfl | rfl | rfl | rfl | rfl | rfl | rfl | rfl | rfl | rfl | rfl | rfl | rfl | rfl | rfl | rfl | rfl | rfl | rfl | rfl | rfl | rfl | rfl | rfl | rfl | rfl | rfl | rfl | rfl | rfl | rfl | rfl | rfl | rfl | rfl | rfl | rfl <;> rfl
set_option maxRecDepth 100000 in
theorem cT7_ok : ∀ q ∈ cT7, lw_tbl[q.2.2.2.2]? = some (.methodLink (cn q.1) q.2.1 (my q.2.2.2.1)) := by
  intro q hq
  simp only [cT7, List.mem_cons, List.not_mem_nil, or_false] at hq
  rcases hq with rfl | rfl | rfl | rfl | rfl | rfl | rfl | rfl | rfl | rfl | rfl | rfl | rfl | rfl | rfl <;> rfl
theorem cTab_ok : ∀ q ∈ cTab, lw_tbl[q.2.2.2.2]? = some (.methodLink (cn q.1) q.2.1 (my q.2.2.2.1)) := List.forall_mem_append.mpr ⟨cT0_ok, List.forall_mem_append.mpr ⟨cT1_ok, List.forall_mem_append.mpr ⟨cT2_ok, List.forall_mem_append.mpr ⟨cT3_ok, List.forall_mem_append.mpr ⟨cT4_ok, List.forall_mem_append.mpr ⟨cT5_ok, List.forall_mem_append.mpr ⟨cT6_ok, cT7_ok⟩⟩⟩⟩⟩⟩⟩
theorem cTab_kd : ∀ q ∈ cTab, mkd q.2.2.2.1 = q.2.2.1 ∧ q.2.2.2.1 < 339 := by decide +kernel
theorem nTab_ok : ∀ q ∈ nTab, lw_tbl[q.2.2.2.2]? = some (.methodLinkNest (cn q.1) q.2.1 (my q.2.2.2.1) "HayWriting") := by decide +kernel
theorem nTab_kd : ∀ q ∈ nTab, mkd q.2.2.2.1 = q.2.2.1 ∧ q.2.2.2.1 < 339 := by decide +kernel
