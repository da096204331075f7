section OPS1
variable {X : mv_X} {d : Nat} {σ : mv_S} {n : Nat} {Ms : Nat → md_T}
theorem op_start {a1 a2 : Int32} (h : iv_M n Ms σ) : lw_op X (d + 5) (mu_P σ) 101 165 [.int a1, .int a2] σ := by
  unfold lw_op
  have h9 := h
  obtain ⟨b1, b2, b3, b4⟩ := h9
  rw [w_WM_start]
  rcases ix_cs a1 n (by omega) with ⟨c1, c2⟩ | ⟨k, hk, rfl, c1⟩
  · rw [s_machineAt_no b2 c1]
    refine ⟨rfl, Or.inl ⟨rfl, _, rfl, ?_⟩⟩
    rw [w_Ref_start, r_isMachine b3 b1, if_neg c2]
    exact ⟨rfl, _, rfl, fun _ => ⟨rfl, Or.inl rfl⟩, fun z => absurd rfl z⟩
  obtain ⟨m1, m2, m3⟩ := b4 k hk
  generalize hM : Ms k = M at m1 m2 m3
  obtain ⟨o1, o2, o3, o4, o5, o6⟩ := m1
  have ht : mc_at (33 + 4 * k) := (mc_now k (by omega)).1
  rw [s_machineAt_ok b2 b1 hk]
  refine ⟨rfl, Or.inr ⟨_, rfl, ht.1, ?_⟩⟩
  rcases ix_cs a2 M.1 (by omega) with ⟨e1, e2⟩ | ⟨q, hq, rfl, e1⟩
  · rw [s_hasPoint_no ht m2.1 e1]
    refine ⟨_, rfl, fun z => absurd rfl z, fun _ => ⟨_, rfl, ?_⟩⟩
    rw [w_Ref_start, r_isMachine b3 b1, if_pos c1]
    refine ⟨rfl, _, rfl, fun z => absurd z (by decide), fun _ => ⟨rfl, ?_⟩⟩
    rw [r_isPoint (by omega) m3.1 o2, if_neg e2]
    exact ⟨_, rfl, fun z => absurd rfl z, fun _ => ⟨rfl, Or.inl rfl⟩⟩
  rw [s_hasPoint_ok ht m2.1 o2 hq]
  refine ⟨_, rfl, fun _ => ⟨ht.1, ht.1, _, rfl, ?_⟩, fun z => absurd z (by decide)⟩
  have hb3 : (mv_pi σ (33 + 4 * k) 2 (nI q)).1 61 1 = nI n := by rw [mv_rn (by omega)]; exact b3
  have hR2 : (mv_pi σ (33 + 4 * k) 2 (nI q)).1 62 (15 * k) = nI M.1 := by rw [mv_rn (by omega)]; exact m3.1
  rw [w_Ref_start, r_isMachine hb3 b1, if_pos c1]
  refine ⟨rfl, _, rfl, fun z => absurd z (by decide), fun _ => ⟨rfl, ?_⟩⟩
  rw [r_isPoint (by omega) hR2 o2, if_pos e1]
  refine ⟨_, rfl, fun _ => ⟨rfl, ?_⟩, fun z => absurd z (by decide)⟩
  rw [r_startOf (by omega), rf_i1, nI_clamp (by omega)]
  refine ⟨_, rfl, rfl, ⟨rfl, vp_in_nI (N := 45) (by omega) (by omega)⟩, rfl, ?_, ?_⟩
  · rw [mv_rn (by omega), m3.2.1, m2.2.1]
  · exact (mu_set (f := 2) (M' := (M.1, q, M.2.2.1, M.2.2.2)) h hk hM (Or.inl ⟨rfl, rfl, hq⟩) rfl).1
theorem op_ends {a1 a2 : Int32} (h : iv_M n Ms σ) : lw_op X (d + 5) (mu_P σ) 100 164 [.int a1, .int a2] σ := by
  unfold lw_op
  have h9 := h
  obtain ⟨b1, b2, b3, b4⟩ := h9
  rw [w_WM_ends]
  rcases ix_cs a1 n (by omega) with ⟨c1, c2⟩ | ⟨k, hk, rfl, c1⟩
  · rw [s_machineAt_no b2 c1]
    refine ⟨rfl, Or.inl ⟨rfl, _, rfl, ?_⟩⟩
    rw [w_Ref_ends, r_isMachine b3 b1, if_neg c2]
    exact ⟨rfl, _, rfl, fun _ => ⟨rfl, Or.inl rfl⟩, fun z => absurd rfl z⟩
  obtain ⟨m1, m2, m3⟩ := b4 k hk
  generalize hM : Ms k = M at m1 m2 m3
  obtain ⟨o1, o2, o3, o4, o5, o6⟩ := m1
  have ht : mc_at (33 + 4 * k) := (mc_now k (by omega)).1
  have hpw : (2 ^ M.1 : Nat) ≤ 16 := by
    have : M.1 = 1 ∨ M.1 = 2 ∨ M.1 = 3 ∨ M.1 = 4 := by omega
    rcases this with e | e | e | e <;> rw [e] <;> decide
  have hpl : (((1 : Int32) <<< (nI M.1 &&& 31)) - (1 : Int32) : Int32).toInt64.toInt = ((2 ^ M.1 : Nat) : Int) - 1 := by
    rw [all_pts M.1 (by omega), Int32.toInt_toInt64, nI_toInt (by omega)]
    have : 1 ≤ 2 ^ M.1 := Nat.one_le_two_pow
    omega
  rw [s_machineAt_ok b2 b1 hk]
  refine ⟨rfl, Or.inr ⟨_, rfl, ht.1, ?_⟩⟩
  rw [s_everyPoint ht m2.1 o2]
  refine ⟨_, rfl, fun hz => ?_, fun hz => ?_⟩
  · have hz2 := (set_ok (by omega) a2).mp hz
    refine ⟨ht.1, ht.1, _, rfl, ?_⟩
    obtain ⟨e', he', rfl⟩ := nI_of (x := a2) (by rw [Int32.lt_iff_toInt_lt, Int32.toInt_zero]; omega)
    have hlt : e' < 2 ^ M.1 := by have := hz2.2; rw [nI_toInt he'] at this; omega
    have hb3 : (mv_pi σ (33 + 4 * k) 3 (nI e')).1 61 1 = nI n := by rw [mv_rn (by omega)]; exact b3
    have hR2 : (mv_pi σ (33 + 4 * k) 3 (nI e')).1 62 (15 * k) = nI M.1 := by rw [mv_rn (by omega)]; exact m3.1
    rw [w_Ref_ends, r_isMachine hb3 b1, if_pos c1]
    refine ⟨rfl, _, rfl, fun z => absurd z (by decide), fun _ => ⟨rfl, ?_⟩⟩
    rw [r_pointsOf (by omega), hR2]
    refine ⟨_, rfl, ?_⟩
    rw [r_inI (A := 0) rfl hpl, if_pos hz2]
    have hv : vp_in (nI (15 * k + 2)) (mv_ln 62) := vp_in_nI (N := 45) (by omega) (by omega)
    rw [rf_i2, nI_clamp (by omega)]
    refine ⟨_, rfl, fun _ => ⟨rfl, ⟨rfl, hv⟩, rfl, ⟨rfl, hv⟩, rfl, ?_, ?_⟩, fun z => absurd z (by decide)⟩
    · rw [mv_rn (by omega), m3.2.2.1, m2.2.2.1]
    · exact (mu_set (f := 3) (M' := (M.1, M.2.1, e', M.2.2.2)) h hk hM (Or.inr ⟨rfl, rfl, hlt⟩) rfl).1
  · have hz2 : ¬ (0 ≤ a2.toInt ∧ a2.toInt ≤ ((2 ^ M.1 : Nat) : Int) - 1) := fun z => hz ((set_ok (by omega) a2).mpr z)
    refine ⟨_, rfl, ?_⟩
    rw [w_Ref_ends, r_isMachine b3 b1, if_pos c1]
    refine ⟨rfl, _, rfl, fun z => absurd z (by decide), fun _ => ⟨rfl, ?_⟩⟩
    rw [r_pointsOf (by omega), m3.1]
    refine ⟨_, rfl, ?_⟩
    rw [r_inI (A := 0) rfl hpl, if_neg hz2]
    exact ⟨_, rfl, fun z => absurd rfl z, fun _ => ⟨rfl, Or.inl rfl⟩⟩
theorem op_turn {a1 : Int32} (h : iv_M n Ms σ) : lw_op X (d + 5) (mu_P σ) 105 169 [.int a1] σ := by
  unfold lw_op
  have h9 := h
  obtain ⟨b1, b2, b3, b4⟩ := h9
  rw [w_WM_turn]
  rcases ix_cs a1 n (by omega) with ⟨c1, c2⟩ | ⟨k, hk, rfl, c1⟩
  · rw [s_machineAt_no b2 c1]
    refine ⟨rfl, Or.inl ⟨rfl, _, rfl, ?_⟩⟩
    rw [w_Ref_turn, r_isMachine b3 b1, if_neg c2]
    exact ⟨rfl, _, rfl, fun z => absurd rfl z, fun _ => ⟨rfl, Or.inl rfl⟩⟩
  obtain ⟨m1, m2, m3⟩ := b4 k hk
  generalize hM : Ms k = M at m1 m2 m3
  obtain ⟨o1, o2, o3, o4, o5, o6⟩ := m1
  have ht : mc_at (33 + 4 * k) := (mc_now k (by omega)).1
  have hpw : (2 ^ M.1 : Nat) ≤ 16 := by
    have : M.1 = 1 ∨ M.1 = 2 ∨ M.1 = 3 ∨ M.1 = 4 := by omega
    rcases this with e | e | e | e <;> rw [e] <;> decide
  have hT := turn_c M.1 (by omega) M.2.2.1 (by omega) o4
  rw [s_machineAt_ok b2 b1 hk]
  refine ⟨rfl, Or.inr ⟨_, rfl, ht.1, ?_⟩⟩
  rw [s_everyPoint ht m2.1 o2]
  refine ⟨_, rfl, ht.1, ht.1, ht.1, _, rfl, ?_⟩
  rw [m2.2.2.1, hT.1, mv_rd]
  have hb3 : (mv_pi σ (33 + 4 * k) 3 (nI (2 ^ M.1 - 1 - M.2.2.1))).1 61 1 = nI n := by rw [mv_rn (by omega)]; exact b3
  have hR2 : (mv_pi (mv_pi σ (33 + 4 * k) 3 (nI (2 ^ M.1 - 1 - M.2.2.1))) 61 23 (-1)).1 62 (15 * k) = nI M.1 := by rw [mv_rn (by omega), mv_rn (by omega)]; exact m3.1
  have hE2 : (mv_pi (mv_pi σ (33 + 4 * k) 3 (nI (2 ^ M.1 - 1 - M.2.2.1))) 61 23 (-1)).1 62 (15 * k + 2) = nI M.2.2.1 := by rw [mv_rn (by omega), mv_rn (by omega)]; exact m3.2.2.1
  have hv : vp_in (nI (15 * k + 2)) (mv_ln 62) := vp_in_nI (N := 45) (by omega) (by omega)
  rw [w_Ref_turn, r_isMachine hb3 b1, if_pos c1]
  refine ⟨rfl, _, rfl, fun _ => ⟨rfl, rfl, rfl, ?_⟩, fun z => absurd z (by decide)⟩
  rw [r_pointsOf (by omega), hR2, rf_i2, nI_clamp (by omega)]
  refine ⟨_, rfl, ?_⟩
  rw [hE2, all_pts M.1 (by omega), hT.2]
  refine ⟨rfl, ⟨rfl, hv⟩, ⟨rfl, hv⟩, rfl, ⟨rfl, hv⟩, ?_, ?_⟩
  · rw [mv_rd]
  · exact (mu_set (f := 3) (M' := (M.1, M.2.1, 2 ^ M.1 - 1 - M.2.2.1, M.2.2.2)) h hk hM (Or.inr ⟨rfl, rfl, by show 2 ^ M.1 - 1 - M.2.2.1 < 2 ^ M.1; have : 1 ≤ 2 ^ M.1 := Nat.one_le_two_pow; omega⟩) rfl).2
/-- the points from which a letter leads to ends, the first i of them -/
def q_set (M : md_T) (l : Nat) : Nat → Nat
  | 0 => 0
  | i + 1 => q_set M l i + (if M.2.2.1.testBit (M.2.2.2 (3 * i + l)) = true then 2 ^ i else 0)
theorem q_set_s (M : md_T) (l i : Nat) : q_set M l (i + 1) = q_set M l i + (if M.2.2.1.testBit (M.2.2.2 (3 * i + l)) = true then 2 ^ i else 0) := rfl
theorem q_set_lt (M : md_T) (l : Nat) : ∀ i, q_set M l i < 2 ^ i
  | 0 => by show 0 < 2 ^ 0; decide
  | i + 1 => by
    have := q_set_lt M l i
    rw [q_set_s]
    rw [Nat.pow_succ]
    split <;> omega
theorem s_points {Q : mv_Q} {t l : Nat} {M : md_T} (ht : mc_at t) (hM : md_ok M) (hc : cl_M σ t M) (hl : l < 3) (hQ : Q (some (.int (nI (q_set M l M.1)))) σ) : mv_wp X (d + 2) 15 [.ref t, .int (nI l)] σ Q := by
  obtain ⟨o1, o2, o3, o4, o5, o6⟩ := hM
  have hpw : (2 ^ M.1 : Nat) ≤ 16 := by
    have : M.1 = 1 ∨ M.1 = 2 ∨ M.1 = 3 ∨ M.1 = 4 := by omega
    rcases this with e | e | e | e <;> rw [e] <;> decide
  have loop : ∀ j i, i + j = M.1 → mv_wf X (mv_wp X (d + 1)) m_Machine_pointsThatLeadToEnds Q 4 [.ref t, .int (nI l), .int (nI (q_set M l i)), .int (nI i)] [] σ := by
    intro j
    induction j with
    | zero =>
      intro i hi
      refine h_Machine_pointsThatLeadToEnds_4 ⟨ht.1, fun _ => ?_, fun z => ?_⟩
      · rw [show i = M.1 by omega]; exact hQ
      · rw [hc.1] at z; exact absurd (nI_le (by omega) (by omega)) z
    | succ j ih =>
      intro i hi
      have hs := q_set_lt M l i
      have hpi : (2 ^ i : Nat) ≤ 16 := by
        have : i = 0 ∨ i = 1 ∨ i = 2 ∨ i = 3 := by omega
        rcases this with rfl | rfl | rfl | rfl <;> decide
      have hq := q_or i (by omega) (q_set M l i) (by omega) hs
      refine h_Machine_pointsThatLeadToEnds_4 ⟨ht.1, fun z => ?_, fun _ => ⟨ht.1, ?_⟩⟩
      · rw [hc.1] at z; exact absurd z (nI_ge (by omega) (by omega))
      · rw [s_next ht (by omega) hl, hc.2.2.2 _ (by omega)]
        refine ⟨_, rfl, ht.1, ?_⟩
        rw [s_isEnd ht hc.2.2.1 (by omega) (o5 _ (by omega))]
        refine ⟨_, rfl, fun z => ?_, fun z => ?_⟩
        · have hb : ¬ M.2.2.1.testBit (M.2.2.2 (3 * i + l)) = true := fun y => by rw [if_pos y] at z; exact absurd z (by decide)
          have := ih (i + 1) (by omega)
          rw [q_set_s, if_neg hb, Nat.add_zero] at this
          rw [nI_1]
          exact this
        · have hb : M.2.2.1.testBit (M.2.2.2 (3 * i + l)) = true := Decidable.byContradiction fun y => by rw [if_neg y] at z; exact z rfl
          have := ih (i + 1) (by omega)
          rw [q_set_s, if_pos hb] at this
          rw [hq.1, nI_1]
          exact this
  exact w_Machine_pointsThatLeadToEnds (loop M.1 0 (by omega))
theorem op_quotient {a1 a2 a3 : Int32} (h : iv_M n Ms σ) : lw_op X (d + 5) (mu_P σ) 104 168 [.int a1, .int a2, .int a3] σ := by
  unfold lw_op
  have h9 := h
  obtain ⟨b1, b2, b3, b4⟩ := h9
  rw [w_WM_quotient]
  rcases ix_cs a1 n (by omega) with ⟨c1, c2⟩ | ⟨k, hk, rfl, c1⟩
  · rw [s_machineAt_no b2 c1]
    refine ⟨rfl, Or.inl ⟨rfl, _, rfl, w_Ref_quotient ?_⟩⟩
    rw [r_isMachine b3 b1, if_neg c2]
    exact ⟨rfl, _, rfl, fun _ => ⟨rfl, Or.inl rfl⟩, fun z => absurd rfl z⟩
  obtain ⟨m1, m2, m3⟩ := b4 k hk
  generalize hM : Ms k = M at m1 m2 m3
  have m1' := m1
  obtain ⟨o1, o2, o3, o4, o5, o6⟩ := m1
  have ht : mc_at (33 + 4 * k) := (mc_now k (by omega)).1
  rw [s_machineAt_ok b2 b1 hk]
  refine ⟨rfl, Or.inr ⟨_, rfl, ?_⟩⟩
  rcases ix_cs a2 3 (by omega) with ⟨f1, f2⟩ | ⟨l, hl, rfl, f1⟩
  · rw [s_isLetter_no f1]
    refine ⟨_, rfl, fun _ => ⟨_, rfl, w_Ref_quotient ?_⟩, fun z => absurd rfl z⟩
    rw [r_isMachine b3 b1, if_pos c1]
    refine ⟨rfl, _, rfl, fun z => absurd z (by decide), fun _ => ?_⟩
    rw [r_isLetter, if_neg f2]
    exact ⟨_, rfl, fun _ => ⟨rfl, Or.inl rfl⟩, fun z => absurd rfl z⟩
  rw [s_isLetter_ok hl]
  refine ⟨_, rfl, fun z => absurd z (by decide), fun _ => ?_⟩
  have refuse : ¬ (0 ≤ a3.toInt ∧ a3.toInt ≤ 1) → mv_wp X (d + 5) 168 [.ref 61, .int (nI k), .int (nI l), .int a3] σ (fun r2 σ2 => r2 = some (.int (-2)) ∧ mu_P σ σ2) := by
    intro hz
    refine w_Ref_quotient ?_
    rw [r_isMachine b3 b1, if_pos c1]
    refine ⟨rfl, _, rfl, fun z => absurd z (by decide), fun _ => ?_⟩
    rw [r_isLetter, if_pos f1]
    refine ⟨_, rfl, fun z => absurd z (by decide), fun _ => ?_⟩
    rw [r_inI (A := 0) (C := 1) rfl rfl, if_neg hz]
    exact ⟨_, rfl, fun z => absurd rfl z, fun _ => ⟨rfl, Or.inl rfl⟩⟩
  refine ⟨fun z => ⟨_, rfl, refuse fun y => ?_⟩, fun z => ⟨fun z2 => ⟨fun z3 => ⟨ht.1, ?_⟩, fun z3 => ⟨ht.1, ht.1, ?_⟩⟩, fun z2 => ⟨_, rfl, refuse fun y => ?_⟩⟩⟩
  · rw [Int32.lt_iff_toInt_lt, Int32.toInt_zero] at z; omega
  · -- on the right
    have hside : 0 ≤ a3.toInt ∧ a3.toInt ≤ 1 := by
      rw [Int32.lt_iff_toInt_lt, Int32.toInt_zero] at z
      rw [Int32.le_iff_toInt_le] at z2
      have : (1 : Int32).toInt = 1 := by decide
      omega
    have hs := q_set_lt M l M.1
    refine s_points ht m1' m2 hl ⟨_, rfl, ht.1, ht.1, _, rfl, w_Ref_quotient ?_⟩
    rw [mv_rd]
    have hb3 : (mv_pi σ (33 + 4 * k) 3 (nI (q_set M l M.1))).1 61 1 = nI n := by rw [mv_rn (by omega)]; exact b3
    rw [r_isMachine hb3 b1, if_pos c1]
    refine ⟨rfl, _, rfl, fun z => absurd z (by decide), fun _ => ?_⟩
    rw [r_isLetter, if_pos f1]
    refine ⟨_, rfl, fun z => absurd z (by decide), fun _ => ?_⟩
    rw [r_inI (A := 0) (C := 1) rfl rfl, if_pos hside]
    refine ⟨_, rfl, fun _ => ⟨rfl, fun _ => ?_, fun y => absurd y z3⟩, fun z => absurd z (by decide)⟩
    have hfin : mu_P σ (mv_pi (mv_pi (mv_pi σ (33 + 4 * k) 3 (nI (q_set M l M.1))) 61 23 (-1)) 62 (15 * k + 2) (nI (q_set M l M.1))) := (mu_set (f := 3) (M' := (M.1, M.2.1, q_set M l M.1, M.2.2.2)) h hk hM (Or.inr ⟨rfl, rfl, hs⟩) rfl).2
    have g0 : ∀ j, j < 15 → (mv_pi (mv_pi σ (33 + 4 * k) 3 (nI (q_set M l M.1))) 61 23 (-1)).1 62 (15 * k + j) = σ.1 62 (15 * k + j) := fun j hj => by rw [mv_rn (by omega), mv_rn (by omega)]
    have hv : vp_in (nI (15 * k + 2)) (mv_ln 62) := vp_in_nI (N := 45) (by omega) (by omega)
    generalize mv_pi (mv_pi σ (33 + 4 * k) 3 (nI (q_set M l M.1))) 61 23 (-1) = τ at g0 hfin ⊢
    have hpw : (2 ^ M.1 : Nat) ≤ 16 := by
      have : M.1 = 1 ∨ M.1 = 2 ∨ M.1 = 3 ∨ M.1 = 4 := by omega
      rcases this with e | e | e | e <;> rw [e] <;> decide
    have t0 : τ.1 62 (15 * k) = nI M.1 := by have := g0 0 (by omega); rw [Nat.add_zero] at this; exact this.trans m3.1
    have t2 : τ.1 62 (15 * k + 2) = nI M.2.2.1 := (g0 2 (by omega)).trans m3.2.2.1
    have tm : ∀ j, j < 12 → τ.1 62 (15 * k + 3 + j) = nI (M.2.2.2 j) := fun j hj => by rw [Nat.add_assoc, g0 (3 + j) (by omega), ← Nat.add_assoc]; exact m3.2.2.2 j hj
    have loop : ∀ j i, i + j = M.1 → mv_wf X (mv_wp X (d + 4)) m_Ref_quotient (fun r2 σ2 => r2 = some (.int (nI (q_set M l M.1))) ∧ mu_P σ σ2) 71 [.ref 61, .int (nI k), .int (nI l), .retAddr 0, .int (nI (q_set M l i)), .int (nI i)] [] τ := by
      intro j
      induction j with
      | zero =>
        intro i hi
        have hi2 : i = M.1 := by omega
        refine h_Ref_quotient_71 ⟨rfl, ?_⟩
        rw [r_pointsOf (by omega), t0, rf_i2, nI_clamp (by omega)]
        refine ⟨_, rfl, fun _ => ⟨rfl, ⟨rfl, hv⟩, by rw [hi2], by rw [hi2]; exact hfin⟩, fun y => absurd (nI_le (by omega) (by omega)) y⟩
      | succ j ih =>
        intro i hi
        have hs2 := q_set_lt M l i
        have hpi : (2 ^ i : Nat) ≤ 16 := by
          have : i = 0 ∨ i = 1 ∨ i = 2 ∨ i = 3 := by omega
          rcases this with rfl | rfl | rfl | rfl <;> decide
        have hq := q_or i (by omega) (q_set M l i) (by omega) hs2
        refine h_Ref_quotient_71 ⟨rfl, ?_⟩
        rw [r_pointsOf (by omega), t0]
        refine ⟨_, rfl, fun y => absurd y (nI_ge (by omega) (by omega)), fun _ => ⟨rfl, ?_⟩⟩
        rw [r_to (by omega) (by omega) hl, tm _ (by omega)]
        refine ⟨_, rfl, rfl, ?_⟩
        rw [r_isEnd (by omega) t2 (by omega) (o5 _ (by omega))]
        refine ⟨_, rfl, ?_⟩
        rw [r_bit]
        refine ⟨_, rfl, ?_⟩
        have := ih (i + 1) (by omega)
        rw [q_set_s] at this
        rw [nI_1]
        by_cases hb : M.2.2.1.testBit (M.2.2.2 (3 * i + l)) = true
        · rw [if_pos hb] at this ⊢
          rw [hq.1]
          exact this
        · rw [if_neg hb] at this ⊢
          rw [hq.2]
          rw [Nat.add_zero] at this
          exact this
    exact loop M.1 0 (by omega)
  · -- on the left
    subst z3
    have hsl : 3 * M.2.1 + l < 12 := by omega
    have hto : M.2.2.2 (3 * M.2.1 + l) < M.1 := o6 _ (by omega)
    rw [m2.2.1, s_next ht (by omega) hl, m2.2.2.2 _ hsl]
    refine ⟨_, rfl, ht.1, ht.1, _, rfl, w_Ref_quotient ?_⟩
    rw [mv_rd]
    have hb3 : (mv_pi σ (33 + 4 * k) 2 (nI (M.2.2.2 (3 * M.2.1 + l)))).1 61 1 = nI n := by rw [mv_rn (by omega)]; exact b3
    rw [r_isMachine hb3 b1, if_pos c1]
    refine ⟨rfl, _, rfl, fun z => absurd z (by decide), fun _ => ?_⟩
    rw [r_isLetter, if_pos f1]
    refine ⟨_, rfl, fun z => absurd z (by decide), fun _ => ?_⟩
    rw [r_inI (A := 0) (C := 1) rfl rfl, if_pos (by decide)]
    refine ⟨_, rfl, fun _ => ⟨rfl, fun y => absurd rfl y, fun _ => ⟨rfl, rfl, ?_⟩⟩, fun z => absurd z (by decide)⟩
    rw [r_startOf (by omega), mv_rn (by omega), mv_rn (by omega), m3.2.1]
    refine ⟨_, rfl, rfl, ?_⟩
    rw [r_to (by omega) (by omega) hl, mv_rn (by omega), mv_rn (by omega), m3.2.2.2 _ hsl, rf_i1, nI_clamp (by omega)]
    refine ⟨_, rfl, ⟨rfl, vp_in_nI (N := 45) (by omega) (by omega)⟩, rfl, ?_⟩
    rw [r_startOf (by omega), mv_rd]
    exact ⟨_, rfl, rfl, (mu_set (f := 2) (M' := (M.1, M.2.2.2 (3 * M.2.1 + l), M.2.2.1, M.2.2.2)) h hk hM (Or.inl ⟨rfl, rfl, hto⟩) rfl).2⟩
  · rw [Int32.le_iff_toInt_le] at z2
    have : (1 : Int32).toInt = 1 := by decide
    omega
end OPS1
