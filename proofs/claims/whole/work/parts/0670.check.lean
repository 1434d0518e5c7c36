theorem zk_L_law_0 : zokR m_L_law 0 100 = true := by decide +kernel
theorem zk_L_law_1 : zokR m_L_law 100 100 = true := by decide +kernel
theorem zk_L_law_2 : zokR m_L_law 200 100 = true := by decide +kernel
theorem zk_L_law_3 : zokR m_L_law 300 100 = true := by decide +kernel
