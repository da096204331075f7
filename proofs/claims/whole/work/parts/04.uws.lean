set_option maxRecDepth 100000 in
theorem mv_uws_b : (List.range 13).all (fun ci => (u_ws (mv_clC ci) (mv_clT ci) (mv_clN ci)).all (fun w => decide (w ∈ lw_tbl) && goodWord w)) = true := by decide +kernel
set_option maxRecDepth 100000 in
theorem mv_fb_1 : (mv_ts.contains (.static Lib.Math.max.name) && mv_ts.contains (.initialized "java/lang/Math") && mv_ts.contains (.code Lib.Math.max.name Lib.Math.max.code 2 (some .int))) = true := by decide +kernel
set_option maxRecDepth 100000 in
theorem mv_fb_2 : (mv_ts.contains (.static Lib.Math.min.name) && mv_ts.contains (.code Lib.Math.min.name Lib.Math.min.code 2 (some .int))) = true := by decide +kernel
set_option maxRecDepth 100000 in
theorem mv_fb_3 : (mv_ts.contains (.native arraycopyName) && mv_ts.contains (.static arraycopyName) && mv_ts.contains (.initialized "java/lang/System")) = true := by decide +kernel
set_option maxRecDepth 100000 in
theorem mv_fb_4 : (lw_tbl.contains (.declares mv_taker) && lw_tbl.contains (.sameMethod "WordMonoids$Taker" "WordMonoids$Taker" "accepts" "(LWordMonoids$Words;)Z")) = true := by decide +kernel
theorem mv_facts_max : Jvm.Cond.static Lib.Math.max.name ∈ mv_ts ∧ Jvm.Cond.initialized "java/lang/Math" ∈ mv_ts ∧ Jvm.Cond.code Lib.Math.max.name Lib.Math.max.code 2 (some .int) ∈ mv_ts := by
  have h := mv_fb_1
  simp only [Bool.and_eq_true, List.contains_iff_mem] at h
  exact ⟨h.1.1, h.1.2, h.2⟩
theorem mv_facts_min : Jvm.Cond.static Lib.Math.min.name ∈ mv_ts ∧ Jvm.Cond.initialized "java/lang/Math" ∈ mv_ts ∧ Jvm.Cond.code Lib.Math.min.name Lib.Math.min.code 2 (some .int) ∈ mv_ts := by
  have h := mv_fb_2
  simp only [Bool.and_eq_true, List.contains_iff_mem] at h
  exact ⟨h.1, mv_facts_max.2.1, h.2⟩
theorem mv_facts_copy : Jvm.Cond.native arraycopyName ∈ mv_ts ∧ Jvm.Cond.static arraycopyName ∈ mv_ts ∧ Jvm.Cond.initialized "java/lang/System" ∈ mv_ts := by
  have h := mv_fb_3
  simp only [Bool.and_eq_true, List.contains_iff_mem] at h
  exact ⟨h.1.1, h.1.2, h.2⟩
theorem mv_facts_dec : Jvm.Cond.declares mv_taker ∈ lw_tbl := by
  have h := mv_fb_4
  simp only [Bool.and_eq_true, List.contains_iff_mem] at h
  exact h.1
theorem mv_facts_same : Jvm.Cond.sameMethod "WordMonoids$Taker" "WordMonoids$Taker" "accepts" "(LWordMonoids$Words;)Z" ∈ lw_tbl := by
  have h := mv_fb_4
  simp only [Bool.and_eq_true, List.contains_iff_mem] at h
  exact h.2
