theorem ok193_9 : ((m_X12_init.drop 630).take 70).all (okE (mb 193) (mo 193) (mx 193)) = true := by decide +kernel
