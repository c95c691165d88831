theorem ok193_3 : ((m_X12_init.drop 210).take 70).all (okE (mb 193) (mo 193) (mx 193)) = true := by decide +kernel
theorem ok193_4 : ((m_X12_init.drop 280).take 70).all (okE (mb 193) (mo 193) (mx 193)) = true := by decide +kernel
theorem ok193_5 : ((m_X12_init.drop 350).take 70).all (okE (mb 193) (mo 193) (mx 193)) = true := by decide +kernel
