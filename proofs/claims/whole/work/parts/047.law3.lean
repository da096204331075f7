/-! ===== the facts of the law's own code, decided ===== -/
set_option maxRecDepth 100000 in
theorem mv_okl_15 : m_law_15.all (fun q => decide (decode code q.1 = .ok (q.2.1, mv_len q.2.1 q.2.2.1)) && mv_chk "WordMonoidsLaw" q.1 q.2) = true := by decide +kernel
set_option maxRecDepth 100000 in
theorem mv_okl_16 : m_law_16.all (fun q => decide (decode code q.1 = .ok (q.2.1, mv_len q.2.1 q.2.2.1)) && mv_chk "WordMonoidsLaw" q.1 q.2) = true := by decide +kernel
set_option maxRecDepth 100000 in
theorem mv_okl_17 : m_law_17.all (fun q => decide (decode code q.1 = .ok (q.2.1, mv_len q.2.1 q.2.2.1)) && mv_chk "WordMonoidsLaw" q.1 q.2) = true := by decide +kernel
set_option maxRecDepth 100000 in
theorem mv_okl_18 : m_law_18.all (fun q => decide (decode code q.1 = .ok (q.2.1, mv_len q.2.1 q.2.2.1)) && mv_chk "WordMonoidsLaw" q.1 q.2) = true := by decide +kernel
set_option maxRecDepth 100000 in
theorem mv_okl_19 : m_law_19.all (fun q => decide (decode code q.1 = .ok (q.2.1, mv_len q.2.1 q.2.2.1)) && mv_chk "WordMonoidsLaw" q.1 q.2) = true := by decide +kernel
