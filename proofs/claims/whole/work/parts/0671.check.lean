theorem zk_L_law_4 : zokR m_L_law 400 100 = true := by decide +kernel
theorem zk_L_law_5 : zokR m_L_law 500 100 = true := by decide +kernel
theorem zk_L_law_6 : zokR m_L_law 600 100 = true := by decide +kernel
theorem zk_L_law_7 : zokR m_L_law 700 100 = true := by decide +kernel
