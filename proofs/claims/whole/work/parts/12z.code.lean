set_option maxRecDepth 20000 in
theorem ck_law : ckm m_law = true := by decide +kernel
