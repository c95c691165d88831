theorem ok193_6 : ((m_X12_init.drop 420).take 70).all (okE (mb 193) (mo 193) (mx 193)) = true := by decide +kernel
theorem ok193_7 : ((m_X12_init.drop 490).take 70).all (okE (mb 193) (mo 193) (mx 193)) = true := by decide +kernel
theorem ok193_8 : ((m_X12_init.drop 560).take 70).all (okE (mb 193) (mo 193) (mx 193)) = true := by decide +kernel
