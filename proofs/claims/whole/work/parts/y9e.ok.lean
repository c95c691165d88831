theorem ok193_all : m_X12_init.all (okE (mb 193) (mo 193) (mx 193)) = true := by
  have h : (m_X12_init.drop 700).all (okE (mb 193) (mo 193) (mx 193)) = true := by decide +kernel
  have h := all_pc (p := okE (mb 193) (mo 193) (mx 193)) (l := m_X12_init) 630 70 ok193_9 h
  have h := all_pc (p := okE (mb 193) (mo 193) (mx 193)) (l := m_X12_init) 560 70 ok193_8 h
  have h := all_pc (p := okE (mb 193) (mo 193) (mx 193)) (l := m_X12_init) 490 70 ok193_7 h
  have h := all_pc (p := okE (mb 193) (mo 193) (mx 193)) (l := m_X12_init) 420 70 ok193_6 h
  have h := all_pc (p := okE (mb 193) (mo 193) (mx 193)) (l := m_X12_init) 350 70 ok193_5 h
  have h := all_pc (p := okE (mb 193) (mo 193) (mx 193)) (l := m_X12_init) 280 70 ok193_4 h
  have h := all_pc (p := okE (mb 193) (mo 193) (mx 193)) (l := m_X12_init) 210 70 ok193_3 h
  have h := all_pc (p := okE (mb 193) (mo 193) (mx 193)) (l := m_X12_init) 140 70 ok193_2 h
  have h := all_pc (p := okE (mb 193) (mo 193) (mx 193)) (l := m_X12_init) 70 70 ok193_1 h
  have h := all_pc (p := okE (mb 193) (mo 193) (mx 193)) (l := m_X12_init) 0 70 ok193_0 h
  exact h
theorem okM193 : okM 193 = true := by
  have e : mcd 193 = m_X12_init := rfl
  have h := al_ok 193 (by decide)
  have h2 : Nat.beq (mkd 193) 2 = true := by decide +kernel
  unfold okM
  rw [h.1, h.2, e, ok193_all, h2]
  rfl
theorem okL14 : ([193] : List Nat).all okM = true := by
  rw [List.all_cons, okM193]
  rfl
