theorem zk_L_law_8 : zokR m_L_law 800 100 = true := by decide +kernel
theorem zk_L_law_9 : zokR m_L_law 900 100 = true := by decide +kernel
theorem zk_L_law_10 : zokR m_L_law 1000 100 = true := by decide +kernel
