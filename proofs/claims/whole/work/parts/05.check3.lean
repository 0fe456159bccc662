theorem okC_La_law : pm_okC m_La_law = true := by decide +kernel
