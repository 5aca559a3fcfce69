set_option maxRecDepth 20000 in
theorem ck_law_7 : i_law_7.all (fun q => decide (decode (zCode m_law) q.1 = .ok (q.2.1, q.2.2)) && zok (zMl m_law) q.1 q.2.1 q.2.2) = true := by decide +kernel
set_option maxRecDepth 20000 in
theorem ck_law_8 : i_law_8.all (fun q => decide (decode (zCode m_law) q.1 = .ok (q.2.1, q.2.2)) && zok (zMl m_law) q.1 q.2.1 q.2.2) = true := by decide +kernel
