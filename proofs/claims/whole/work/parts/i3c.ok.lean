theorem m_L_6 : ((m_L.drop 480).take 80).all okLE = true := by decide +kernel
theorem m_L_7 : ((m_L.drop 560).take 80).all okLE = true := by decide +kernel
theorem m_L_8 : ((m_L.drop 640).take 80).all okLE = true := by decide +kernel
