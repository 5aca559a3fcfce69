theorem ck_law : ckm m_law = true := by
  show i_law.all (fun q => decide (decode (zCode m_law) q.1 = .ok (q.2.1, q.2.2)) && zok (zMl m_law) q.1 q.2.1 q.2.2) = true
  simp only [i_law, List.all_append, ck_law_1, ck_law_2, ck_law_3, ck_law_4, ck_law_5, ck_law_6, ck_law_7, ck_law_8, Bool.and_true]
