theorem m_L_3 : ((m_L.drop 240).take 80).all okLE = true := by decide +kernel
theorem m_L_4 : ((m_L.drop 320).take 80).all okLE = true := by decide +kernel
theorem m_L_5 : ((m_L.drop 400).take 80).all okLE = true := by decide +kernel
