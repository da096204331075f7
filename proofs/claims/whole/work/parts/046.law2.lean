/-! ===== the facts of the law's own code, decided ===== -/
set_option maxRecDepth 100000 in
theorem mv_okl_8 : m_law_8.all (fun q => decide (decode code q.1 = .ok (q.2.1, mv_len q.2.1 q.2.2.1)) && mv_chk "WordMonoidsLaw" q.1 q.2) = true := by decide +kernel
set_option maxRecDepth 100000 in
theorem mv_okl_9 : m_law_9.all (fun q => decide (decode code q.1 = .ok (q.2.1, mv_len q.2.1 q.2.2.1)) && mv_chk "WordMonoidsLaw" q.1 q.2) = true := by decide +kernel
set_option maxRecDepth 100000 in
theorem mv_okl_10 : m_law_10.all (fun q => decide (decode code q.1 = .ok (q.2.1, mv_len q.2.1 q.2.2.1)) && mv_chk "WordMonoidsLaw" q.1 q.2) = true := by decide +kernel
set_option maxRecDepth 100000 in
theorem mv_okl_11 : m_law_11.all (fun q => decide (decode code q.1 = .ok (q.2.1, mv_len q.2.1 q.2.2.1)) && mv_chk "WordMonoidsLaw" q.1 q.2) = true := by decide +kernel
set_option maxRecDepth 100000 in
theorem mv_okl_12 : m_law_12.all (fun q => decide (decode code q.1 = .ok (q.2.1, mv_len q.2.1 q.2.2.1)) && mv_chk "WordMonoidsLaw" q.1 q.2) = true := by decide +kernel
set_option maxRecDepth 100000 in
theorem mv_okl_13 : m_law_13.all (fun q => decide (decode code q.1 = .ok (q.2.1, mv_len q.2.1 q.2.2.1)) && mv_chk "WordMonoidsLaw" q.1 q.2) = true := by decide +kernel
set_option maxRecDepth 100000 in
theorem mv_okl_14 : m_law_14.all (fun q => decide (decode code q.1 = .ok (q.2.1, mv_len q.2.1 q.2.2.1)) && mv_chk "WordMonoidsLaw" q.1 q.2) = true := by decide +kernel
