/-! THE WORLD: the small machine's cells in the heap -/
/-- the first cell's address; the text's; the heap as the law began; class numbers and slots; the array classes -/
abbrev Wn : Type := Nat × Nat × Heap × va_G × (Nat → ClassId)
/-- where a cell lies; 900 the language's text, 901 the script -/
def ad (w : Wn) (c : Nat) : Nat := if c = 900 then w.2.1 else if c = 901 then w.2.2.2.2 9 else w.1 + c
def cv (w : Wn) (v : Value) : Value := match v with
  | .ref c => .ref (ad w c)
  | v => v
def flds (w : Wn) (M : Mm) (ci c : Nat) : List Value := (List.range (nfl ci)).map (fun k => cv w (fv M c k (ftg ci k)))
def entE (w : Wn) (M : Mm) (c : Nat) : va_E := match (lay c).1 with
  | 13 => .inl (w.2.2.2.2 0, (lay c).2, .inl (M.1 c))
  | 14 => .inl (w.2.2.2.2 1, (lay c).2, .inr (.inl (M.2.1 c)))
  | 15 => .inl (w.2.2.2.2 2, (lay c).2, .inl (M.1 c))
  | ci => .inr (ci, flds w M ci c)
def wl (w : Wn) (M : Mm) : va_W := (List.range M.2.2.2).map (fun c => (ad w c, entE w M c))
def tysW (w : Wn) : List (ClassId × FieldType) := [(w.2.2.2.2 0, .int), (w.2.2.2.2 1, .long), (w.2.2.2.2 2, .boolean)]
def AW (w : Wn) : Nat → Prop := fun q => w.1 ≤ q
def RelW (w : Wn) (M : Mm) (H : Heap) : Prop := (∀ q, q < w.1 → H[q]? = w.2.2.1[q]?) ∧ w.1 + M.2.2.2 ≤ H.size ∧ (M.2.2.2 < 136 → H.size = w.1 + M.2.2.2) ∧ M.2.2.2 ≤ 136 ∧ va_P w.2.2.2.1 vwCl (wl w M) H
section
variable {w : Wn} {M M' : Mm} {c k o : Nat}
theorem ad_lt (h : c < 136) : ad w c = w.1 + c := by
  unfold ad
  rw [if_neg (by omega), if_neg (by omega)]
theorem wl_get (h : c < M.2.2.2) : (wl w M)[c]? = some (ad w c, entE w M c) := by
  unfold wl
  rw [List.getElem?_map, List.getElem?_range h]
  rfl
theorem wl_of {q : Nat × va_E} (h : (wl w M)[c]? = some q) : c < M.2.2.2 ∧ q = (ad w c, entE w M c) := by
  have hl : c < (wl w M).length := (List.getElem?_eq_some_iff.mp h).1
  have hc : c < M.2.2.2 := by simpa [wl] using hl
  rw [wl_get hc] at h
  exact ⟨hc, (Option.some.inj h).symm⟩
theorem wl_D (hn : M.2.2.2 ≤ 136) : va_D (AW w) (wl w M) := by
  refine ⟨fun i j p q hp hq he => ?_, fun k q hq => ?_⟩
  · obtain ⟨hi, rfl⟩ := wl_of hp
    obtain ⟨hj, rfl⟩ := wl_of hq
    have he : ad w i = ad w j := he
    rw [ad_lt (by omega), ad_lt (by omega)] at he
    omega
  · obtain ⟨hi, rfl⟩ := wl_of hq
    show w.1 ≤ ad w k
    rw [ad_lt (by omega)]
    omega
theorem entE_congr (h1 : M.1 c = M'.1 c) (h2 : M.2.1 c = M'.2.1 c) (h3 : M.2.2.1 c = M'.2.2.1 c) : entE w M c = entE w M' c := by
  have hf : ∀ k t, fv M c k t = fv M' c k t := by
    intro k t
    unfold fv
    rw [h1, h2, h3]
  have hg : ∀ ci, flds w M ci c = flds w M' ci c := by
    intro ci
    unfold flds
    simp only [hf]
  unfold entE
  rw [h1, h2]
  simp only [hg]
theorem wl_set (hn : M'.2.2.2 = M.2.2.2) (hc : c < M.2.2.2) (ho : ∀ c', c' ≠ c → entE w M' c' = entE w M c') : (wl w M).set c (ad w c, entE w M' c) = wl w M' := by
  apply List.ext_getElem?
  intro j
  by_cases hj : j < M.2.2.2
  · rw [wl_get (M := M') (by omega)]
    by_cases hjc : c = j
    · subst hjc
      rw [List.getElem?_set_self (by simpa [wl] using hc)]
    · rw [List.getElem?_set_ne hjc, wl_get hj, ho j (fun z => hjc z.symm)]
  · have h1 : (wl w M').length ≤ j := by simp [wl, hn]; omega
    have h2 : ((wl w M).set c (ad w c, entE w M' c)).length ≤ j := by simp [wl]; omega
    rw [List.getElem?_eq_none h1, List.getElem?_eq_none h2]
theorem cu_self {α : Type} {f : Nat → α} {g : α} : cu f c g c = g := by simp [cu]
theorem cu_ne {α : Type} {f : Nat → α} {g : α} (h : o ≠ c) : cu f c g o = f o := by simp [cu, h]
theorem wI_other {x : Int32} (c' : Nat) (h : c' ≠ c) : entE w (wI M c k x) c' = entE w M c' := entE_congr (by simp [wI, cu, h]) rfl rfl
theorem wL_other {x : Int64} (c' : Nat) (h : c' ≠ c) : entE w (wL M c k x) c' = entE w M c' := entE_congr rfl (by simp [wL, cu, h]) rfl
theorem wR_other {x : Option Nat} (c' : Nat) (h : c' ≠ c) : entE w (wR M c k x) c' = entE w M c' := entE_congr rfl rfl (by simp [wR, cu, h])
theorem wA_other {f : Nat → Int32} (c' : Nat) (h : c' ≠ c) : entE w (wA M c f) c' = entE w M c' := entE_congr (by simp [wA, cu, h]) rfl rfl
theorem entE_obj {ci : Nat} (h : (lay c).1 = ci) (hci : ci < 13) : entE w M c = .inr (ci, flds w M ci c) := by
  unfold entE
  split
  · omega
  · omega
  · omega
  · rw [h]
theorem entE_int (h : (lay c).1 = 13) : entE w M c = .inl (w.2.2.2.2 0, (lay c).2, .inl (M.1 c)) := by
  unfold entE
  simp only [h]
theorem entE_long (h : (lay c).1 = 14) : entE w M c = .inl (w.2.2.2.2 1, (lay c).2, .inr (.inl (M.2.1 c))) := by
  unfold entE
  simp only [h]
theorem entE_bool (h : (lay c).1 = 15) : entE w M c = .inl (w.2.2.2.2 2, (lay c).2, .inl (M.1 c)) := by
  unfold entE
  simp only [h]
theorem flds_get {ci : Nat} (hk : k < nfl ci) : (flds w M ci c)[k]? = some (cv w (fv M c k (ftg ci k))) := by
  unfold flds
  rw [List.getElem?_map, List.getElem?_range hk]
  rfl
theorem flds_len {ci : Nat} : (flds w M ci c).length = nfl ci := by simp [flds]
theorem flds_set {ci : Nat} {v : Value} (hk : k < nfl ci) (h1 : cv w (fv M' c k (ftg ci k)) = v) (h2 : ∀ j, j ≠ k → ∀ t, fv M' c j t = fv M c j t) : (flds w M ci c).set k v = flds w M' ci c := by
  apply List.ext_getElem?
  intro j
  by_cases hj : j < nfl ci
  · rw [flds_get (M := M') hj]
    by_cases hjk : k = j
    · subst hjk
      rw [List.getElem?_set_self (by rw [flds_len]; exact hk), h1]
    · rw [List.getElem?_set_ne hjk, flds_get hj, h2 j (fun z => hjk z.symm)]
  · rw [List.getElem?_eq_none (by rw [List.length_set, flds_len]; omega), List.getElem?_eq_none (by rw [flds_len]; omega)]
theorem fv_wI {x : Int32} (j : Nat) (h : j ≠ k) (t : Nat) : fv (wI M c k x) c j t = fv M c j t := by
  unfold fv
  split
  · rfl
  · rfl
  · simp [wI, cu, upd, h]
theorem fv_wL {x : Int64} (j : Nat) (h : j ≠ k) (t : Nat) : fv (wL M c k x) c j t = fv M c j t := by
  unfold fv
  split
  · simp [wL, cu, vp_updL, h]
  · rfl
  · rfl
theorem fv_wR {x : Option Nat} (j : Nat) (h : j ≠ k) (t : Nat) : fv (wR M c k x) c j t = fv M c j t := by
  unfold fv
  split
  · rfl
  · simp [wR, cu, h]
  · rfl
end
