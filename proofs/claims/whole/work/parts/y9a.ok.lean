theorem ok193_0 : ((m_X12_init.drop 0).take 70).all (okE (mb 193) (mo 193) (mx 193)) = true := by decide +kernel
theorem ok193_1 : ((m_X12_init.drop 70).take 70).all (okE (mb 193) (mo 193) (mx 193)) = true := by decide +kernel
theorem ok193_2 : ((m_X12_init.drop 140).take 70).all (okE (mb 193) (mo 193) (mx 193)) = true := by decide +kernel
