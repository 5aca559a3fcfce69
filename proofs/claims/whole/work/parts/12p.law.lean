set_option maxRecDepth 20000 in
theorem ck_law_1 : i_law_1.all (fun q => decide (decode (zCode m_law) q.1 = .ok (q.2.1, q.2.2)) && zok (zMl m_law) q.1 q.2.1 q.2.2) = true := by decide +kernel
set_option maxRecDepth 20000 in
theorem ck_law_2 : i_law_2.all (fun q => decide (decode (zCode m_law) q.1 = .ok (q.2.1, q.2.2)) && zok (zMl m_law) q.1 q.2.1 q.2.2) = true := by decide +kernel
