/-! ===== ops level and separates ===== -/
def lvA (b : Nat → Bool) : Nat → Nat → Int32
  | 0, _ => -1
  | r + 1, n => if b n = true then nI n else lvA b r (n + 1)
def kk_P (σ σ2 : mv_S) : Prop := (∀ c j, ¬ (28 ≤ c ∧ c ≤ 29) → ¬ (81 ≤ c ∧ c ≤ 85) → σ2.1 c j = σ.1 c j) ∧ σ2.2 = σ.2
theorem kk_tr {a b c : mv_S} (h : kk_P a b) (g : kk_P b c) : kk_P a c := ⟨fun x j q1 q2 => (g.1 x j q1 q2).trans (h.1 x j q1 q2), g.2.trans h.2⟩
theorem kk_K {σ τ : mv_S} (h : frK σ τ) : kk_P σ τ := ⟨fun c j q1 _ => h.1 c j (by omega) (by omega), h.2⟩
theorem kk_J {σ τ : mv_S} (h : frJ σ τ) : kk_P σ τ := ⟨fun c j _ q2 => h.1 c j (by omega), h.2⟩
theorem kk_rf {σ τ : mv_S} {m : Nat} {M : md_T} (h : kk_P σ τ) (r : rf_M σ 62 m M) : rf_M τ 62 m M := ⟨(h.1 _ _ (by omega) (by omega)).trans r.1, (h.1 _ _ (by omega) (by omega)).trans r.2.1, (h.1 _ _ (by omega) (by omega)).trans r.2.2.1, fun j hj => (h.1 _ _ (by omega) (by omega)).trans (r.2.2.2 j hj)⟩
theorem kk_cl {σ τ : mv_S} {t : Nat} {M : md_T} (h : kk_P σ τ) (ht : 33 ≤ t) (ht2 : t < 60) (m : cl_M σ t M) : cl_M τ t M := ⟨(h.1 _ _ (by omega) (by omega)).trans m.1, (h.1 _ _ (by omega) (by omega)).trans m.2.1, (h.1 _ _ (by omega) (by omega)).trans m.2.2.1, fun j hj => (h.1 _ _ (by omega) (by omega)).trans (m.2.2.2 j hj)⟩
section OPLEVEL
variable {X : mv_X} {d : Nat} {σ : mv_S} {Q : mv_Q} {k v : Nat} {M N : md_T}
theorem kw_r {F : bf_T} {E : Nat} (hk : k < 2) (hv : v < 3) (nd : ∀ i, i < F.1 → kin k v (F.2.1 i / 4)) : kw F E ↔ ∃ r, r < 8192 ∧ krP k v F E true F.1 r ∧ krP k v F E false F.1 r := by
  constructor
  · rintro ⟨i, j, hi, hj, e, e1, e2⟩
    exact ⟨kf k v (F.2.1 i / 4), (kin_all hk hv (nd i hi)).2.1, ⟨i, hi, rfl, e1⟩, ⟨j, hj, by rw [e], e2⟩⟩
  · rintro ⟨r, hr, ⟨i, hi, e1, e2⟩, ⟨j, hj, e3, e4⟩⟩
    refine ⟨i, j, hi, hj, ?_, e2, e4⟩
    rw [← (kin_all hk hv (nd i hi)).2.2.1, ← (kin_all hk hv (nd j hj)).2.2.1, e1, e3]
theorem kw_r2 {F G : bf_T} {E D : Nat} (hk : k < 2) (hv : v < 3) (nd : ∀ i, i < F.1 → kin k v (F.2.1 i / 4)) (ng : ∀ i, i < G.1 → kin k v (G.2.1 i / 4)) : kw2 F G E D ↔ ∃ r, r < 8192 ∧ krP k v F E true F.1 r ∧ krP k v G D true G.1 r := by
  constructor
  · rintro ⟨i, j, hi, hj, e, e1, e2⟩
    exact ⟨kf k v (F.2.1 i / 4), (kin_all hk hv (nd i hi)).2.1, ⟨i, hi, rfl, e1⟩, ⟨j, hj, by rw [e], e2⟩⟩
  · rintro ⟨r, hr, ⟨i, hi, e1, e2⟩, ⟨j, hj, e3, e4⟩⟩
    refine ⟨i, j, hi, hj, ?_, e2, e4⟩
    rw [← (kin_all hk hv (nd i hi)).2.2.1, ← (kin_all hk hv (ng j hj)).2.2.1, e1, e3]
theorem kb_n {c r : Nat} {P : Prop} (h : kb c r P σ) : σ.1 c r = 0 ↔ ¬ P := by
  constructor
  · intro z p; rw [h.1 p] at z; exact absurd z (by decide)
  · exact h.2
theorem r_lv {x1 x2 x3 : Int32} {P R : Nat → Prop} (hP : ∀ r, r < 8192 → kb 83 r (P r) σ ∧ kb 84 r (R r) σ) (hy : (¬ ∃ r, r < 8192 ∧ P r ∧ R r) → Q (some (.int x3)) σ) (hn : (∃ r, r < 8192 ∧ P r ∧ R r) → mv_wf X (mv_wp X d) m_Ref_level Q 23 [.ref 61, .int x1, .int x2, .int (x3 + 1), .retAddr 0, .retAddr 0] [] σ) :
    mv_wf X (mv_wp X d) m_Ref_level Q 41 [.ref 61, .int x1, .int x2, .int x3, .int 1, .int 0] [] σ := by
  have bad : (∃ r, r < 8192 ∧ P r ∧ R r) → ∀ n r, r + n = 8192 → mv_wf X (mv_wp X d) m_Ref_level Q 41 [.ref 61, .int x1, .int x2, .int x3, .int 0, .int (nI r)] [] σ := by
    intro ex n
    induction n with
    | zero =>
      intro r hr
      exact h_Ref_level_41 ⟨fun _ => ⟨fun _ => hn ex, fun z => absurd rfl z⟩, fun z => absurd (nI_le (a := 8192) (by omega) (by omega)) z⟩
    | succ n ih =>
      intro r hr
      refine h_Ref_level_41 ⟨fun z => absurd z (nI_ge (b := 8192) (by omega) (by omega)), fun _ => ⟨fun _ => ?_, fun z => absurd rfl z⟩⟩
      rw [nI_1]
      exact ih (r + 1) (by omega)
  have good : ∀ n r, r + n = 8192 → (∀ r', r' < r → ¬ (P r' ∧ R r')) → mv_wf X (mv_wp X d) m_Ref_level Q 41 [.ref 61, .int x1, .int x2, .int x3, .int 1, .int (nI r)] [] σ := by
    intro n
    induction n with
    | zero =>
      intro r hr no
      exact h_Ref_level_41 ⟨fun _ => ⟨fun z => absurd z (by decide), fun _ => hy (fun ⟨r', h1, h2⟩ => no r' (by omega) h2)⟩, fun z => absurd (nI_le (a := 8192) (by omega) (by omega)) z⟩
    | succ n ih =>
      intro r hr no
      have h83 := kb_n (hP r (by omega)).1
      have h84 := kb_n (hP r (by omega)).2
      have nx : ¬ (P r ∧ R r) → mv_wf X (mv_wp X d) m_Ref_level Q 41 [.ref 61, .int x1, .int x2, .int x3, .int 1, .int (nI r + 1)] [] σ := by
        intro nn
        rw [nI_1]
        refine ih (r + 1) (by omega) (fun r' hr' => ?_)
        by_cases e : r' = r
        · rw [e]; exact nn
        · exact no r' (by omega)
      refine h_Ref_level_41 ⟨fun z => absurd z (nI_ge (b := 8192) (by omega) (by omega)), fun _ => ⟨fun z => absurd z (by decide), fun _ => ?_⟩⟩
      rw [nI_clamp (by omega)]
      refine ⟨rfl, ⟨rfl, Or.inr rfl, vp_in_nI (N := 8192) (by omega) (by omega)⟩, fun z => nx (fun w => (h83.mp z) w.1), fun z => ⟨rfl, ⟨rfl, Or.inr rfl, vp_in_nI (N := 8192) (by omega) (by omega)⟩, fun y => ?_, fun y => nx (fun w => (h84.mp y) w.2)⟩⟩
      rw [nI_1]
      exact bad ⟨r, by omega, Classical.byContradiction fun w => z (h83.mpr w), Classical.byContradiction fun w => y (h84.mpr w)⟩ n (r + 1) (by omega)
  exact good 8192 0 (by omega) (fun r' hr' => absurd hr' (Nat.not_lt_zero _))
theorem r_sp {x1 x2 x3 x4 : Int32} {P R : Nat → Prop} (hP : ∀ r, r < 8192 → kb 83 r (P r) σ ∧ kb 85 r (R r) σ) (hy : (¬ ∃ r, r < 8192 ∧ P r ∧ R r) → Q (some (.int x4)) σ) (hn : (∃ r, r < 8192 ∧ P r ∧ R r) → mv_wf X (mv_wp X d) m_Ref_separates Q 32 [.ref 61, .int x1, .int x2, .int x3, .int (x4 + 1), .retAddr 0, .retAddr 0] [] σ) :
    mv_wf X (mv_wp X d) m_Ref_separates Q 76 [.ref 61, .int x1, .int x2, .int x3, .int x4, .int 1, .int 0] [] σ := by
  have bad : (∃ r, r < 8192 ∧ P r ∧ R r) → ∀ n r, r + n = 8192 → mv_wf X (mv_wp X d) m_Ref_separates Q 76 [.ref 61, .int x1, .int x2, .int x3, .int x4, .int 0, .int (nI r)] [] σ := by
    intro ex n
    induction n with
    | zero =>
      intro r hr
      exact h_Ref_separates_76 ⟨fun _ => ⟨fun _ => hn ex, fun z => absurd rfl z⟩, fun z => absurd (nI_le (a := 8192) (by omega) (by omega)) z⟩
    | succ n ih =>
      intro r hr
      refine h_Ref_separates_76 ⟨fun z => absurd z (nI_ge (b := 8192) (by omega) (by omega)), fun _ => ⟨fun _ => ?_, fun z => absurd rfl z⟩⟩
      rw [nI_1]
      exact ih (r + 1) (by omega)
  have good : ∀ n r, r + n = 8192 → (∀ r', r' < r → ¬ (P r' ∧ R r')) → mv_wf X (mv_wp X d) m_Ref_separates Q 76 [.ref 61, .int x1, .int x2, .int x3, .int x4, .int 1, .int (nI r)] [] σ := by
    intro n
    induction n with
    | zero =>
      intro r hr no
      exact h_Ref_separates_76 ⟨fun _ => ⟨fun z => absurd z (by decide), fun _ => hy (fun ⟨r', h1, h2⟩ => no r' (by omega) h2)⟩, fun z => absurd (nI_le (a := 8192) (by omega) (by omega)) z⟩
    | succ n ih =>
      intro r hr no
      have h83 := kb_n (hP r (by omega)).1
      have h84 := kb_n (hP r (by omega)).2
      have nx : ¬ (P r ∧ R r) → mv_wf X (mv_wp X d) m_Ref_separates Q 76 [.ref 61, .int x1, .int x2, .int x3, .int x4, .int 1, .int (nI r + 1)] [] σ := by
        intro nn
        rw [nI_1]
        refine ih (r + 1) (by omega) (fun r' hr' => ?_)
        by_cases e : r' = r
        · rw [e]; exact nn
        · exact no r' (by omega)
      refine h_Ref_separates_76 ⟨fun z => absurd z (nI_ge (b := 8192) (by omega) (by omega)), fun _ => ⟨fun z => absurd z (by decide), fun _ => ?_⟩⟩
      rw [nI_clamp (by omega)]
      refine ⟨rfl, ⟨rfl, Or.inr rfl, vp_in_nI (N := 8192) (by omega) (by omega)⟩, fun z => nx (fun w => (h83.mp z) w.1), fun z => ⟨rfl, ⟨rfl, Or.inr rfl, vp_in_nI (N := 8192) (by omega) (by omega)⟩, fun y => ?_, fun y => nx (fun w => (h84.mp y) w.2)⟩⟩
      rw [nI_1]
      exact bad ⟨r, by omega, Classical.byContradiction fun w => z (h83.mpr w), Classical.byContradiction fun w => y (h84.mpr w)⟩ n (r + 1) (by omega)
  exact good 8192 0 (by omega) (fun r' hr' => absurd hr' (Nat.not_lt_zero _))
theorem op_level {n : Nat} {Ms : Nat → md_T} {a1 a2 : Int32} (h : iv_M n Ms σ) : lw_op X (d + 8) (kk_P σ) 115 206 [.int a1, .int a2] σ := by
  unfold lw_op
  obtain ⟨b1, b2, b3, b4⟩ := h
  have same : kk_P σ σ := ⟨fun _ _ _ _ => rfl, rfl⟩
  refine w_WM_level ⟨rfl, ?_⟩
  rcases ix_cs a1 n (by omega) with ⟨c1, c2⟩ | ⟨m, hm, rfl, c1⟩
  · rw [s_machineAt_no b2 c1]
    refine Or.inl ⟨rfl, _, rfl, w_Ref_level ⟨rfl, ?_⟩⟩
    rw [r_isMachine b3 b1, if_neg c2]
    exact ⟨_, rfl, fun _ => ⟨rfl, same⟩, fun z => absurd rfl z⟩
  rw [s_machineAt_ok b2 b1 hm]
  refine Or.inr ⟨_, rfl, ?_⟩
  obtain ⟨m1, m2, m3⟩ := b4 m hm
  have bad : ¬ (0 ≤ a2.toInt ∧ a2.toInt ≤ 1) → ∃ v, (some (.int (-2)) : Option Value) = some (.int v) ∧ mv_wp X (d + 8) 206 [.ref 61, .int (nI m), .int a2] σ (fun r2 σ2 => r2 = some (.int v) ∧ kk_P σ σ2) := by
    intro hb
    refine ⟨_, rfl, w_Ref_level ⟨rfl, ?_⟩⟩
    rw [r_isMachine b3 b1, if_pos c1]
    refine ⟨_, rfl, fun z => absurd z (by decide), fun _ => ?_⟩
    rw [r_inI (A := 0) (C := 1) rfl rfl, if_neg hb]
    exact ⟨_, rfl, fun z => absurd rfl z, fun _ => ⟨rfl, same⟩⟩
  rcases ix_cs2 a2 with t3 | ⟨k, hk31, rfl⟩
  · exact ⟨fun _ => bad (by omega), fun z => absurd (by rw [fa_lt, Int32.toInt_zero]; omega) z⟩
  refine ⟨fun z => absurd z (nI_pos hk31), fun _ => ?_⟩
  by_cases hk : k < 2
  case neg => exact ⟨fun z => absurd z (nI_ge (a := 1) (by omega) (by omega)), fun _ => bad (by rw [nI_toInt hk31]; omega)⟩
  refine ⟨fun _ => ?_, fun z => absurd (nI_le (b := 1) (by omega) (by omega)) z⟩
  obtain ⟨b, hb⟩ : ∃ b : Nat → Bool, ∀ v, b v = true ↔ ¬ kw (kF k v (Ms m)) (Ms m).2.2.1 := by
    classical
    exact ⟨fun v => decide (¬ kw (kF k v (Ms m)) (Ms m).2.2.1), fun v => decide_eq_true_iff⟩
  have ref : ∀ τ, kk_P σ τ → mv_wp X (d + 8) 206 [.ref 61, .int (nI m), .int (nI k)] τ (fun r2 σ2 => r2 = some (.int (lvA b 3 0)) ∧ kk_P σ σ2) := by
    intro τ hτ
    refine w_Ref_level ⟨rfl, ?_⟩
    rw [r_isMachine ((hτ.1 _ _ (by omega) (by omega)).trans b3) b1, if_pos c1]
    refine ⟨_, rfl, fun z => absurd z (by decide), fun _ => ?_⟩
    rw [r_inI (A := 0) (C := 1) rfl rfl, if_pos (by rw [nI_toInt hk31]; omega)]
    refine ⟨_, rfl, fun _ => ?_, fun z => absurd z (by decide)⟩
    have loop : ∀ r v (τ : mv_S), v + r = 3 → kk_P σ τ → lvA b 3 0 = lvA b r v → mv_wf X (mv_wp X (d + 7)) m_Ref_level (fun r2 σ2 => r2 = some (.int (lvA b 3 0)) ∧ kk_P σ σ2) 23 [.ref 61, .int (nI m), .int (nI k), .int (nI v), .retAddr 0, .retAddr 0] [] τ := by
      intro r
      induction r with
      | zero =>
        intro v τ hv hτ e
        refine h_Ref_level_23 ⟨fun _ => ⟨?_, hτ⟩, fun z => absurd (nI_le (a := 3) (by omega) (by omega)) z⟩
        rw [e]; rfl
      | succ r ih =>
        intro v τ hv hτ e
        refine h_Ref_level_23 ⟨fun z => absurd z (nI_ge (b := 3) (by omega) (by omega)), fun _ => ⟨rfl, ?_⟩⟩
        refine r_findsKnown (v := v) hk (by omega) (by omega) m1 (kk_rf hτ m3) (fun τ2 g1 g2 => ⟨rfl, ?_⟩)
        have nd := fun i hi => (kF_nd (v := v) hk (by omega) m1 i hi).1
        have hbv := hb v
        rw [kw_r hk (by omega) nd] at hbv
        refine r_lv (P := krP k v (kF k v (Ms m)) (Ms m).2.2.1 true (kF k v (Ms m)).1) (R := krP k v (kF k v (Ms m)) (Ms m).2.2.1 false (kF k v (Ms m)).1) g1 (fun z => ⟨?_, kk_tr hτ (kk_J g2)⟩) (fun z => ?_)
        · rw [e, show lvA b (r + 1) v = nI v from if_pos (hbv.mpr z)]
        · rw [nI_1]
          refine ih (v + 1) τ2 (by omega) (kk_tr hτ (kk_J g2)) ?_
          rw [e, show lvA b (r + 1) v = lvA b r (v + 1) from if_neg (fun y => (hbv.mp y) z)]
    exact loop 3 0 τ (by omega) hτ rfl
  have loop : ∀ r v (τ : mv_S), v + r = 3 → kk_P σ τ → lvA b 3 0 = lvA b r v → mv_wf X (mv_wp X (d + 7)) m_WM_level (fun r1 σ1 => ∃ v, r1 = some (.int v) ∧ mv_wp X (d + 8) 206 [.ref 61, .int (nI m), .int (nI k)] σ1 (fun r2 σ2 => r2 = some (.int v) ∧ kk_P σ σ2)) 25 [.ref 0, .retAddr 0, .int (nI k), .ref (33 + 4 * m), .int (nI v)] [] τ := by
    intro r
    induction r with
    | zero =>
      intro v τ hv hτ e
      refine h_WM_level_25 ⟨fun _ => ⟨_, rfl, ?_⟩, fun z => absurd (nI_le (a := 3) (by omega) (by omega)) z⟩
      have := ref τ hτ
      rw [e] at this
      exact this
    | succ r ih =>
      intro v τ hv hτ e
      refine h_WM_level_25 ⟨fun z => absurd z (nI_ge (b := 3) (by omega) (by omega)), fun _ => ⟨rfl, rfl, ?_⟩⟩
      refine c_tells (v := v) hk (by omega) m1 (mc_now m (by omega)).1 (by omega) (kk_cl hτ (by omega) (by omega) m2) (fun τ2 g1 g2 => ⟨_, rfl, fun z => absurd z (by decide), fun _ => ⟨_, rfl, ?_⟩⟩) (fun τ2 g1 g2 => ⟨_, rfl, fun _ => ?_, fun z => absurd rfl z⟩)
      · have := ref τ2 (kk_tr hτ (kk_K g2))
        rw [e, show lvA b (r + 1) v = nI v from if_pos ((hb v).mpr g1)] at this
        exact this
      · rw [nI_1]
        refine ih (v + 1) τ2 (by omega) (kk_tr hτ (kk_K g2)) ?_
        rw [e, show lvA b (r + 1) v = lvA b r (v + 1) from if_neg (fun y => ((hb v).mp y) g1)]
  exact loop 3 0 σ (by omega) same rfl
theorem fits_b {x : Int32} (h : x = 0 ∨ x = 1) : fits (mv_ty 22) (.int x) = true := by
  rcases h with rfl | rfl <;> decide
theorem op_separates {n : Nat} {Ms : Nat → md_T} {a1 a2 a3 : Int32} (h : iv_M n Ms σ) : lw_op X (d + 8) (kk_P σ) 116 207 [.int a1, .int a2, .int a3] σ := by
  unfold lw_op
  obtain ⟨b1, b2, b3, b4⟩ := h
  have same : kk_P σ σ := ⟨fun _ _ _ _ => rfl, rfl⟩
  refine w_WM_separates ⟨rfl, ?_⟩
  rcases ix_cs a1 n (by omega) with ⟨c1, c2⟩ | ⟨m, hm, rfl, c1⟩
  · rw [s_machineAt_no b2 c1]
    have fin : ∃ v, (some (.int (-2)) : Option Value) = some (.int v) ∧ mv_wp X (d + 8) 207 [.ref 61, .int a1, .int a2, .int a3] σ (fun r2 σ2 => r2 = some (.int v) ∧ kk_P σ σ2) := by
      refine ⟨_, rfl, w_Ref_separates ⟨rfl, ?_⟩⟩
      rw [r_isMachine b3 b1, if_neg c2]
      exact ⟨_, rfl, fun _ => ⟨rfl, same⟩, fun z => absurd rfl z⟩
    refine Or.inl ⟨rfl, rfl, ?_⟩
    rcases ix_cs a2 n (by omega) with ⟨e1, e2⟩ | ⟨u, hu, rfl, e1⟩
    · rw [s_machineAt_no b2 e1]
      exact Or.inl ⟨rfl, fin⟩
    · rw [s_machineAt_ok b2 b1 hu]
      exact Or.inr ⟨_, rfl, fin⟩
  rw [s_machineAt_ok b2 b1 hm]
  refine Or.inr ⟨_, rfl, rfl, ?_⟩
  rcases ix_cs a2 n (by omega) with ⟨e1, e2⟩ | ⟨u, hu, rfl, e1⟩
  · rw [s_machineAt_no b2 e1]
    refine Or.inl ⟨rfl, _, rfl, w_Ref_separates ⟨rfl, ?_⟩⟩
    rw [r_isMachine b3 b1, if_pos c1]
    refine ⟨_, rfl, fun z => absurd z (by decide), fun _ => ⟨rfl, ?_⟩⟩
    rw [r_isMachine b3 b1, if_neg e2]
    exact ⟨_, rfl, fun _ => ⟨rfl, same⟩, fun z => absurd rfl z⟩
  rw [s_machineAt_ok b2 b1 hu]
  refine Or.inr ⟨_, rfl, ?_⟩
  obtain ⟨m1, m2, m3⟩ := b4 m hm
  obtain ⟨u1, u2, u3⟩ := b4 u hu
  have bad : ¬ (0 ≤ a3.toInt ∧ a3.toInt ≤ 1) → ∃ v, (some (.int (-2)) : Option Value) = some (.int v) ∧ mv_wp X (d + 8) 207 [.ref 61, .int (nI m), .int (nI u), .int a3] σ (fun r2 σ2 => r2 = some (.int v) ∧ kk_P σ σ2) := by
    intro hb
    refine ⟨_, rfl, w_Ref_separates ⟨rfl, ?_⟩⟩
    rw [r_isMachine b3 b1, if_pos c1]
    refine ⟨_, rfl, fun z => absurd z (by decide), fun _ => ⟨rfl, ?_⟩⟩
    rw [r_isMachine b3 b1, if_pos e1]
    refine ⟨_, rfl, fun z => absurd z (by decide), fun _ => ?_⟩
    rw [r_inI (A := 0) (C := 1) rfl rfl, if_neg hb]
    exact ⟨_, rfl, fun z => absurd rfl z, fun _ => ⟨rfl, same⟩⟩
  rcases ix_cs2 a3 with t3 | ⟨k, hk31, rfl⟩
  · exact ⟨fun _ => bad (by omega), fun z => absurd (by rw [fa_lt, Int32.toInt_zero]; omega) z⟩
  refine ⟨fun z => absurd z (nI_pos hk31), fun _ => ?_⟩
  by_cases hk : k < 2
  case neg => exact ⟨fun z => absurd z (nI_ge (a := 1) (by omega) (by omega)), fun _ => bad (by rw [nI_toInt hk31]; omega)⟩
  refine ⟨fun _ => ?_, fun z => absurd (nI_le (b := 1) (by omega) (by omega)) z⟩
  obtain ⟨b, hb⟩ : ∃ b : Nat → Bool, ∀ v, b v = true ↔ ¬ kw2 (kF k v (Ms m)) (kF k v (Ms u)) (Ms m).2.2.1 (Ms u).2.2.1 := by
    classical
    exact ⟨fun v => decide (¬ kw2 (kF k v (Ms m)) (kF k v (Ms u)) (Ms m).2.2.1 (Ms u).2.2.1), fun v => decide_eq_true_iff⟩
  have ref : ∀ τ, kk_P σ τ → mv_wp X (d + 8) 207 [.ref 61, .int (nI m), .int (nI u), .int (nI k)] τ (fun r2 σ2 => r2 = some (.int (lvA b 3 0)) ∧ kk_P σ σ2) := by
    intro τ hτ
    have h61 := (hτ.1 61 1 (by omega) (by omega)).trans b3
    refine w_Ref_separates ⟨rfl, ?_⟩
    rw [r_isMachine h61 b1, if_pos c1]
    refine ⟨_, rfl, fun z => absurd z (by decide), fun _ => ⟨rfl, ?_⟩⟩
    rw [r_isMachine h61 b1, if_pos e1]
    refine ⟨_, rfl, fun z => absurd z (by decide), fun _ => ?_⟩
    rw [r_inI (A := 0) (C := 1) rfl rfl, if_pos (by rw [nI_toInt hk31]; omega)]
    refine ⟨_, rfl, fun _ => ?_, fun z => absurd z (by decide)⟩
    have loop : ∀ r v (τ : mv_S), v + r = 3 → kk_P σ τ → lvA b 3 0 = lvA b r v → mv_wf X (mv_wp X (d + 7)) m_Ref_separates (fun r2 σ2 => r2 = some (.int (lvA b 3 0)) ∧ kk_P σ σ2) 32 [.ref 61, .int (nI m), .int (nI u), .int (nI k), .int (nI v), .retAddr 0, .retAddr 0] [] τ := by
      intro r
      induction r with
      | zero =>
        intro v τ hv hτ e
        refine h_Ref_separates_32 ⟨fun _ => ⟨?_, hτ⟩, fun z => absurd (nI_le (a := 3) (by omega) (by omega)) z⟩
        rw [e]; rfl
      | succ r ih =>
        intro v τ hv hτ e
        refine h_Ref_separates_32 ⟨fun z => absurd z (nI_ge (b := 3) (by omega) (by omega)), fun _ => ⟨rfl, ?_⟩⟩
        refine r_findsKnown (v := v) hk (by omega) (by omega) u1 (kk_rf hτ u3) (fun τ2 g1 g2 => ⟨rfl, rfl, rfl, ⟨rfl, rfl, by decide, by decide, by decide, by decide, by decide, fun i hi => fits_b ?_⟩, rfl, ?_⟩)
        · have hi : i < 8192 := hi
          have := (g1 i hi).1
          rw [show (0 : Int32).toNatClampNeg = 0 from rfl, Nat.zero_add]
          by_cases p : krP k v (kF k v (Ms u)) (Ms u).2.2.1 true (kF k v (Ms u)).1 i
          · exact Or.inr (this.1 p)
          · exact Or.inl (this.2 p)
        rw [show (0 : Int32).toNatClampNeg = 0 from rfl, show (8192 : Int32).toNatClampNeg = 8192 from by decide]
        have nd := fun i hi => (kF_nd (v := v) hk (by omega) m1 i hi).1
        have ng := fun i hi => (kF_nd (v := v) hk (by omega) u1 i hi).1
        have hbv := hb v
        rw [kw_r2 hk (by omega) nd ng] at hbv
        have o : ∀ c j, ¬ c = 85 → ((fun c' k => if c' = 85 then va_cpy (τ2.1 83) (τ2.1 85) 0 0 8192 k else τ2.1 c' k, τ2.2) : mv_S).1 c j = τ2.1 c j := fun c j q => if_neg q
        have o5 : ∀ j, j < 8192 → ((fun c' k => if c' = 85 then va_cpy (τ2.1 83) (τ2.1 85) 0 0 8192 k else τ2.1 c' k, τ2.2) : mv_S).1 85 j = τ2.1 83 j := fun j hj => by
          show (if (85 : Nat) = 85 then va_cpy (τ2.1 83) (τ2.1 85) 0 0 8192 j else τ2.1 85 j) = _
          rw [if_pos rfl]
          exact sb_cpy0 hj
        have o2 : ((fun c' k => if c' = 85 then va_cpy (τ2.1 83) (τ2.1 85) 0 0 8192 k else τ2.1 c' k, τ2.2) : mv_S).2 = τ2.2 := rfl
        generalize ((fun c' k => if c' = 85 then va_cpy (τ2.1 83) (τ2.1 85) 0 0 8192 k else τ2.1 c' k, τ2.2) : mv_S) = τ3 at o o5 o2 ⊢
        have k3 : kk_P σ τ3 := kk_tr (kk_tr hτ (kk_J g2)) ⟨fun c j _ q2 => o c j (by omega), o2⟩
        refine r_findsKnown (v := v) hk (by omega) (by omega) m1 (kk_rf k3 m3) (fun τ4 g3 g4 => ⟨rfl, ?_⟩)
        refine r_sp (P := krP k v (kF k v (Ms m)) (Ms m).2.2.1 true (kF k v (Ms m)).1) (R := krP k v (kF k v (Ms u)) (Ms u).2.2.1 true (kF k v (Ms u)).1) (fun r hr => ⟨(g3 r hr).1, ?_⟩) (fun z => ⟨?_, kk_tr k3 (kk_J g4)⟩) (fun z => ?_)
        · have e5 : τ4.1 85 r = τ2.1 83 r := (g4.1 85 r (by omega)).trans (o5 r hr)
          have := (g1 r hr).1
          exact ⟨fun p => e5.trans (this.1 p), fun p => e5.trans (this.2 p)⟩
        · rw [e, show lvA b (r + 1) v = nI v from if_pos (hbv.mpr z)]
        · rw [nI_1]
          refine ih (v + 1) τ4 (by omega) (kk_tr k3 (kk_J g4)) ?_
          rw [e, show lvA b (r + 1) v = lvA b r (v + 1) from if_neg (fun y => (hbv.mp y) z)]
    exact loop 3 0 τ (by omega) hτ rfl
  have loop : ∀ r v (τ : mv_S), v + r = 3 → kk_P σ τ → lvA b 3 0 = lvA b r v → mv_wf X (mv_wp X (d + 7)) m_WM_separates (fun r1 σ1 => ∃ v, r1 = some (.int v) ∧ mv_wp X (d + 8) 207 [.ref 61, .int (nI m), .int (nI u), .int (nI k)] σ1 (fun r2 σ2 => r2 = some (.int v) ∧ kk_P σ σ2)) 39 [.ref 0, .retAddr 0, .retAddr 0, .int (nI k), .ref (33 + 4 * m), .ref (33 + 4 * u), .int (nI v)] [] τ := by
    intro r
    induction r with
    | zero =>
      intro v τ hv hτ e
      refine h_WM_separates_39 ⟨fun _ => ⟨_, rfl, ?_⟩, fun z => absurd (nI_le (a := 3) (by omega) (by omega)) z⟩
      have := ref τ hτ
      rw [e] at this
      exact this
    | succ r ih =>
      intro v τ hv hτ e
      refine h_WM_separates_39 ⟨fun z => absurd z (nI_ge (b := 3) (by omega) (by omega)), fun _ => ⟨rfl, rfl, ?_⟩⟩
      refine c_keeps (v := v) hk (by omega) m1 u1 (mc_now m (by omega)).1 (by omega) (mc_now u (by omega)).1 (by omega) (kk_cl hτ (by omega) (by omega) m2) (kk_cl hτ (by omega) (by omega) u2) (fun τ2 g1 g2 => ⟨_, rfl, fun z => absurd z (by decide), fun _ => ⟨_, rfl, ?_⟩⟩) (fun τ2 g1 g2 => ⟨_, rfl, fun _ => ?_, fun z => absurd rfl z⟩)
      · have := ref τ2 (kk_tr hτ (kk_K g2))
        rw [e, show lvA b (r + 1) v = nI v from if_pos ((hb v).mpr g1)] at this
        exact this
      · rw [nI_1]
        refine ih (v + 1) τ2 (by omega) (kk_tr hτ (kk_K g2)) ?_
        rw [e, show lvA b (r + 1) v = lvA b r (v + 1) from if_neg (fun y => ((hb v).mp y) g1)]
  exact loop 3 0 σ (by omega) same rfl
end OPLEVEL
