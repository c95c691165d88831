/-! THE SAME CELLS -/
theorem entE_cg {w : Wn} {M M' : Mm} {c : Nat} (h1 : M'.1 c = M.1 c) (h2 : M'.2.1 c = M.2.1 c) (h3 : M'.2.2.1 c = M.2.2.1 c) : entE w M' c = entE w M c := by
  have hf : ∀ ci, flds w M' ci c = flds w M ci c := fun ci => by
    unfold flds
    refine List.map_congr_left (fun k _ => ?_)
    unfold fv
    rw [h1, h2, h3]
  unfold entE
  rw [h1, h2]
  simp only [hf]
theorem RelW.sw {w : Wn} {M M' : Mm} {H : Heap} (h : RelW w M H) (e : M'.2.2.2 = M.2.2.2) (hc : ∀ c, c < M.2.2.2 → M'.1 c = M.1 c ∧ M'.2.1 c = M.2.1 c ∧ M'.2.2.1 c = M.2.2.1 c) : RelW w M' H := by
  have hw : wl w M' = wl w M := by
    unfold wl
    rw [e]
    refine List.map_congr_left (fun c hm => ?_)
    have hm := List.mem_range.mp hm
    have := hc c hm
    rw [entE_cg this.1 this.2.1 this.2.2]
  unfold RelW at h ⊢
  rw [hw, e]
  exact h
