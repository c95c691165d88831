theorem m_L_12 : ((m_L.drop 960).take 80).all okLE = true := by decide +kernel
theorem m_L_13 : ((m_L.drop 1040).take 80).all okLE = true := by decide +kernel
