theorem mv_okm_law : mv_okm 244 = true := by
  have h : m_law.2.2.all (fun q => decide (decode code q.1 = .ok (q.2.1, mv_len q.2.1 q.2.2.1)) && mv_chk "WordMonoidsLaw" q.1 q.2) = true := by
    unfold m_law
    dsimp only
    simp only [List.all_append, Bool.and_eq_true]
    exact ⟨mv_okl_1, mv_okl_2, mv_okl_3, mv_okl_4, mv_okl_5, mv_okl_6, mv_okl_7, mv_okl_8, mv_okl_9, mv_okl_10, mv_okl_11, mv_okl_12, mv_okl_13, mv_okl_14, mv_okl_15, mv_okl_16, mv_okl_17, mv_okl_18, mv_okl_19⟩
  unfold mv_okm
  simp only [Bool.and_eq_true, decide_eq_true_eq]
  exact ⟨⟨⟨⟨h, rfl⟩, rfl⟩, by decide⟩, by decide⟩
