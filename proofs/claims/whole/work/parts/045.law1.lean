/-! ===== the facts of the law's own code, decided ===== -/
set_option maxRecDepth 100000 in
theorem mv_okl_1 : m_law_1.all (fun q => decide (decode code q.1 = .ok (q.2.1, mv_len q.2.1 q.2.2.1)) && mv_chk "WordMonoidsLaw" q.1 q.2) = true := by decide +kernel
set_option maxRecDepth 100000 in
theorem mv_okl_2 : m_law_2.all (fun q => decide (decode code q.1 = .ok (q.2.1, mv_len q.2.1 q.2.2.1)) && mv_chk "WordMonoidsLaw" q.1 q.2) = true := by decide +kernel
set_option maxRecDepth 100000 in
theorem mv_okl_3 : m_law_3.all (fun q => decide (decode code q.1 = .ok (q.2.1, mv_len q.2.1 q.2.2.1)) && mv_chk "WordMonoidsLaw" q.1 q.2) = true := by decide +kernel
set_option maxRecDepth 100000 in
theorem mv_okl_4 : m_law_4.all (fun q => decide (decode code q.1 = .ok (q.2.1, mv_len q.2.1 q.2.2.1)) && mv_chk "WordMonoidsLaw" q.1 q.2) = true := by decide +kernel
set_option maxRecDepth 100000 in
theorem mv_okl_5 : m_law_5.all (fun q => decide (decode code q.1 = .ok (q.2.1, mv_len q.2.1 q.2.2.1)) && mv_chk "WordMonoidsLaw" q.1 q.2) = true := by decide +kernel
set_option maxRecDepth 100000 in
theorem mv_okl_6 : m_law_6.all (fun q => decide (decode code q.1 = .ok (q.2.1, mv_len q.2.1 q.2.2.1)) && mv_chk "WordMonoidsLaw" q.1 q.2) = true := by decide +kernel
set_option maxRecDepth 100000 in
theorem mv_okl_7 : m_law_7.all (fun q => decide (decode code q.1 = .ok (q.2.1, mv_len q.2.1 q.2.2.1)) && mv_chk "WordMonoidsLaw" q.1 q.2) = true := by decide +kernel
