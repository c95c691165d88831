theorem m_L_9 : ((m_L.drop 720).take 80).all okLE = true := by decide +kernel
theorem m_L_10 : ((m_L.drop 800).take 80).all okLE = true := by decide +kernel
theorem m_L_11 : ((m_L.drop 880).take 80).all okLE = true := by decide +kernel
