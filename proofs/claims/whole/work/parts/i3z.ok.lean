theorem all_pc {p : En → Bool} {l : List En} (n k : Nat) (h1 : ((l.drop n).take k).all p = true) (h2 : (l.drop (n + k)).all p = true) : (l.drop n).all p = true := by
  rw [← List.take_append_drop k (l.drop n), List.all_append, h1, List.drop_drop, h2]
  rfl
theorem m_L_all : m_L.all okLE = true := by
  have h : (m_L.drop 1120).all okLE = true := by decide +kernel
  have h := all_pc (p := okLE) (l := m_L) 1040 80 m_L_13 h
  have h := all_pc (p := okLE) (l := m_L) 960 80 m_L_12 h
  have h := all_pc (p := okLE) (l := m_L) 880 80 m_L_11 h
  have h := all_pc (p := okLE) (l := m_L) 800 80 m_L_10 h
  have h := all_pc (p := okLE) (l := m_L) 720 80 m_L_9 h
  have h := all_pc (p := okLE) (l := m_L) 640 80 m_L_8 h
  have h := all_pc (p := okLE) (l := m_L) 560 80 m_L_7 h
  have h := all_pc (p := okLE) (l := m_L) 480 80 m_L_6 h
  have h := all_pc (p := okLE) (l := m_L) 400 80 m_L_5 h
  have h := all_pc (p := okLE) (l := m_L) 320 80 m_L_4 h
  have h := all_pc (p := okLE) (l := m_L) 240 80 m_L_3 h
  have h := all_pc (p := okLE) (l := m_L) 160 80 m_L_2 h
  have h := all_pc (p := okLE) (l := m_L) 80 80 m_L_1 h
  have h := all_pc (p := okLE) (l := m_L) 0 80 m_L_0 h
  exact h
theorem m_L_ok : asc m_L = true ∧ linked m_L = true := by decide +kernel
theorem m_L_398 : m_L.all (fun e => !Nat.beq e.1 398 || e.2.2.2.1) = true := by decide +kernel
