/-! ===== rows filled; the call 'machine' ===== -/
/-- the first i places behind off of a cell hold f -/
def mv_fo (σ : mv_S) (c off : Nat) (f : Nat → Int32) (i : Nat) : mv_S := (fun c' k => if c' = c ∧ off ≤ k ∧ k < off + i then f (k - off) else σ.1 c' k, σ.2)
theorem fo_0 (σ : mv_S) (c off : Nat) (f : Nat → Int32) : mv_fo σ c off f 0 = σ := by
  unfold mv_fo
  refine Prod.ext ?_ rfl
  funext c' k
  dsimp only
  rw [if_neg (by omega)]
theorem fo_s (σ : mv_S) (c off : Nat) (f : Nat → Int32) (i : Nat) : mv_pi (mv_fo σ c off f i) c (off + i) (f i) = mv_fo σ c off f (i + 1) := by
  unfold mv_fo mv_pi
  refine Prod.ext ?_ rfl
  funext c' k
  dsimp only
  by_cases h : c' = c ∧ k = off + i
  · rw [if_pos h, if_pos (by omega), h.2, Nat.add_sub_cancel_left]
  · rw [if_neg h]
    by_cases h2 : c' = c ∧ off ≤ k ∧ k < off + i
    · rw [if_pos h2, if_pos (by omega)]
    · rw [if_neg h2, if_neg (by omega)]
theorem fo_in {σ : mv_S} {c off : Nat} {f : Nat → Int32} {i k : Nat} (h : k < i) : (mv_fo σ c off f i).1 c (off + k) = f k := by
  unfold mv_fo
  dsimp only
  rw [if_pos (by omega), Nat.add_sub_cancel_left]
theorem fo_out {σ : mv_S} {c off : Nat} {f : Nat → Int32} {i c' k : Nat} (h : ¬ (c' = c ∧ off ≤ k ∧ k < off + i)) : (mv_fo σ c off f i).1 c' k = σ.1 c' k := by
  unfold mv_fo
  dsimp only
  rw [if_neg h]
theorem fo_2 {σ : mv_S} {c off : Nat} {f : Nat → Int32} {i : Nat} : (mv_fo σ c off f i).2 = σ.2 := rfl
section MKM
variable {X : mv_X} {d : Nat} {σ : mv_S} {n : Nat} {Ms : Nat → md_T} {Q : mv_Q}
theorem s_renew {t : Nat} {v : Int32} (ht : mc_at t) (hQ : Q none (mv_fo (mv_pi (mv_pi (mv_pi σ t 1 v) t 2 0) t 3 0) (t + 1) 0 (fun j => nI (j / 3)) 12)) : mv_wp X (d + 1) 8 [.ref t, .int v] σ Q := by
  have loop : ∀ (τ : mv_S) (j i : Nat), i + j = 12 → Q none (mv_fo τ (t + 1) 0 (fun j => nI (j / 3)) 12) → mv_wf X (mv_wp X d) m_Machine_renew Q 17 [.ref t, .retAddr 0, .int (nI i)] [] (mv_fo τ (t + 1) 0 (fun j => nI (j / 3)) i) := by
    intro τ j
    induction j with
    | zero =>
      intro i hi hq
      refine h_Machine_renew_17 ?_
      rw [ht.2.1, ht.2.2.2]
      refine ⟨ht.1, by rw [ht.2.2.1]; exact Nat.le_refl _, fun _ => by rw [show i = 12 by omega]; exact hq, fun z => absurd (nI_le (a := 12) (by omega) (by omega)) z⟩
    | succ j ih =>
      intro i hi hq
      refine h_Machine_renew_17 ?_
      rw [ht.2.1, ht.2.2.2]
      refine ⟨ht.1, by rw [ht.2.2.1]; exact Nat.le_refl _, fun z => absurd z (nI_ge (b := 12) (by omega) (by omega)), fun _ => ⟨ht.1, by decide, ⟨ht.2.2.1, vp_in_nI (by omega) (by omega)⟩, ?_⟩⟩
      have e1 : nI i / 3 = nI (i / 3) := pk_div (d := 3) (by omega) (by omega) (by omega)
      rw [e1, nI_clamp (by omega), nI_1]
      have e2 := fo_s τ (t + 1) 0 (fun j => nI (j / 3)) i
      rw [Nat.zero_add] at e2
      rw [e2]
      exact ih (i + 1) (by omega) hq
  have h0 := loop (mv_pi (mv_pi (mv_pi σ t 1 v) t 2 0) t 3 0) 12 0 (by omega) hQ
  rw [fo_0] at h0
  exact w_Machine_renew ⟨ht.1, ht.1, ht.1, h0⟩
theorem r_machine_loop {k : Nat} {τ : mv_S} (hk : k < 3) (hm : τ.1 61 1 = nI k) (hQ : Q (some (.int (nI k))) (mv_pi (mv_pi (mv_fo τ 62 (15 * k + 3) (fun j => nI (j / 3)) 12) 61 1 (nI (k + 1))) 61 23 (-1))) : mv_wf X (mv_wp X d) m_Ref_machine Q 61 [.ref 61, .retAddr 0, .int (nI (15 * k)), .int 0, .retAddr 0] [] τ := by
  have outer : ∀ (j p : Nat), p + j = 4 → mv_wf X (mv_wp X d) m_Ref_machine Q 61 [.ref 61, .retAddr 0, .int (nI (15 * k)), .int (nI p), .retAddr 0] [] (mv_fo τ 62 (15 * k + 3) (fun j => nI (j / 3)) (3 * p)) := by
    intro j
    induction j with
    | zero =>
      intro p hp
      have hp4 : p = 4 := by omega
      subst hp4
      have hm2 : (mv_fo τ 62 (15 * k + 3) (fun j => nI (j / 3)) (3 * 4)).1 61 1 = nI k := by rw [fo_out (by omega)]; exact hm
      refine h_Ref_machine_61 ⟨fun _ => ⟨rfl, rfl, rfl, rfl, ?_⟩, fun z => absurd (nI_le (a := 4) (b := 4) (by omega) (by omega)) z⟩
      rw [hm2, nI_1, mv_rn (by omega), mv_rd, nI_pred]
      exact hQ
    | succ j ih =>
      intro p hp
      have inner : ∀ (j2 l : Nat), l + j2 = 3 → mv_wf X (mv_wp X d) m_Ref_machine Q 69 [.ref 61, .retAddr 0, .int (nI (15 * k)), .int (nI p), .int (nI l)] [] (mv_fo τ 62 (15 * k + 3) (fun j => nI (j / 3)) (3 * p + l)) := by
        intro j2
        induction j2 with
        | zero =>
          intro l hl
          have hl3 : l = 3 := by omega
          subst hl3
          refine h_Ref_machine_69 ⟨fun _ => ?_, fun z => absurd (nI_le (a := 3) (b := 3) (by omega) (by omega)) z⟩
          rw [nI_1]
          exact ih (p + 1) (by omega)
        | succ j2 ih2 =>
          intro l hl
          have e1 : nI (15 * k) + 3 + 3 * nI p + nI l = nI (15 * k + 3 + (3 * p + l)) := by
            rw [show (3 : Int32) = nI 3 from rfl, pk_mul, nI_add, nI_add, nI_add]
            congr 1
            omega
          refine h_Ref_machine_69 ⟨fun z => absurd z (nI_ge (b := 3) (by omega) (by omega)), fun _ => ⟨rfl, ?_⟩⟩
          rw [e1, nI_clamp (by omega), nI_1]
          have e2 := fo_s τ 62 (15 * k + 3) (fun j => nI (j / 3)) (3 * p + l)
          have e3 : nI ((3 * p + l) / 3) = nI p := by congr 1; omega
          rw [e3] at e2
          rw [e2]
          exact ⟨⟨rfl, vp_in_nI (N := 45) (by omega) (by omega)⟩, ih2 (l + 1) (by omega)⟩
      have i0 := inner 3 0 (by omega)
      rw [Nat.add_zero] at i0
      exact h_Ref_machine_61 ⟨fun z => absurd z (nI_ge (b := 4) (by omega) (by omega)), fun _ => i0⟩
  have o0 := outer 4 0 (by omega)
  rw [Nat.mul_zero, fo_0] at o0
  exact o0
theorem op_machine {a1 : Int32} (h : iv_M n Ms σ) : lw_op X (d + 5) (mu_P σ) 97 161 [.int a1] σ := by
  unfold lw_op
  obtain ⟨b1, b2, b3, b4⟩ := h
  rw [w_WM_machine, b2]
  have i1 : (1 : Int32).toInt = 1 := by decide
  have i4 : (4 : Int32).toInt = 4 := by decide
  have refuse : ¬ (1 ≤ a1.toInt ∧ a1.toInt ≤ 4) → mv_wp X (d + 5) 161 [.ref 61, .int a1] σ (fun r2 σ2 => r2 = some (.int (-2)) ∧ mu_P σ σ2) := by
    intro hz
    refine w_Ref_machine ?_
    rw [r_inI (A := 1) (C := 4) rfl rfl, if_neg hz]
    exact ⟨_, rfl, fun z => absurd rfl z, fun _ => ⟨rfl, Or.inl rfl⟩⟩
  refine ⟨fun z => ⟨_, rfl, refuse ?_⟩, fun z => ⟨fun z2 => ⟨rfl, fun z3 => ?_, fun z3 => ⟨_, rfl, ?_⟩⟩, fun z2 => ⟨_, rfl, refuse ?_⟩⟩⟩
  · rw [Int32.lt_iff_toInt_lt] at z; omega
  · -- a machine comes
    have hn3 : n < 3 := by
      refine Decidable.byContradiction fun q => ?_
      rw [show n = 3 by omega] at z3
      exact absurd z3 (by decide)
    rw [Int32.lt_iff_toInt_lt] at z
    rw [Int32.le_iff_toInt_le] at z2
    obtain ⟨p, hp, rfl⟩ := nI_of (x := a1) (by rw [Int32.lt_iff_toInt_lt, Int32.toInt_zero]; omega)
    rw [nI_toInt hp] at z z2
    have hin : 1 ≤ (nI p).toInt ∧ (nI p).toInt ≤ 4 := by rw [nI_toInt hp]; omega
    obtain ⟨ht, hrf⟩ := mc_now n hn3
    rw [nI_clamp (by omega), hrf]
    refine ⟨rfl, rfl, ⟨by decide, vp_in_nI (N := 3) (by omega) (by omega)⟩, ht.1, s_renew ht ⟨rfl, rfl, rfl, rfl, _, rfl, w_Ref_machine ?_⟩⟩
    have hc0 : (mv_fo (mv_pi (mv_pi (mv_pi σ (33 + 4 * n) 1 (nI p)) (33 + 4 * n) 2 0) (33 + 4 * n) 3 0) (33 + 4 * n + 1) 0 (fun j => nI (j / 3)) 12).1 0 10 = nI n := by rw [fo_out (by omega), mv_rn (by omega), mv_rn (by omega), mv_rn (by omega)]; exact b2
    rw [hc0, nI_1, mv_rd, nI_pred]
    rw [r_inI (A := 1) (C := 4) rfl rfl, if_pos hin]
    have g1 : ∀ c j, ¬ c = 0 → ¬ c = 33 + 4 * n → ¬ c = 33 + 4 * n + 1 → (mv_pi (mv_fo (mv_pi (mv_pi (mv_pi σ (33 + 4 * n) 1 (nI p)) (33 + 4 * n) 2 0) (33 + 4 * n) 3 0) (33 + 4 * n + 1) 0 (fun j => nI (j / 3)) 12) 0 10 (nI (n + 1))).1 c j = σ.1 c j := fun c j q1 q2 q3 => by rw [mv_rn (fun z => q1 z.1), fo_out (fun z => q3 z.1), mv_rn (fun z => q2 z.1), mv_rn (fun z => q2 z.1), mv_rn (fun z => q2 z.1)]
    have g2 : (mv_pi (mv_fo (mv_pi (mv_pi (mv_pi σ (33 + 4 * n) 1 (nI p)) (33 + 4 * n) 2 0) (33 + 4 * n) 3 0) (33 + 4 * n + 1) 0 (fun j => nI (j / 3)) 12) 0 10 (nI (n + 1))).1 0 10 = nI (n + 1) := mv_rd
    have g3 : cl_M (mv_pi (mv_fo (mv_pi (mv_pi (mv_pi σ (33 + 4 * n) 1 (nI p)) (33 + 4 * n) 2 0) (33 + 4 * n) 3 0) (33 + 4 * n + 1) 0 (fun j => nI (j / 3)) 12) 0 10 (nI (n + 1))) (33 + 4 * n) (p, 0, 0, fun j => j / 3) := by
      refine ⟨?_, ?_, ?_, fun j hj => ?_⟩
      · rw [mv_rn (by omega), fo_out (by omega), mv_rn (by omega), mv_rn (by omega), mv_rd]
      · rw [mv_rn (by omega), fo_out (by omega), mv_rn (by omega), mv_rd]; rfl
      · rw [mv_rn (by omega), fo_out (by omega), mv_rd]; rfl
      · have := fo_in (σ := (mv_pi (mv_pi (mv_pi σ (33 + 4 * n) 1 (nI p)) (33 + 4 * n) 2 0) (33 + 4 * n) 3 0)) (c := 33 + 4 * n + 1) (off := 0) (f := fun j => nI (j / 3)) hj
        rw [Nat.zero_add] at this
        rw [mv_rn (by omega), this]
    have g5 : ∀ j, ¬ j = 10 → (mv_pi (mv_fo (mv_pi (mv_pi (mv_pi σ (33 + 4 * n) 1 (nI p)) (33 + 4 * n) 2 0) (33 + 4 * n) 3 0) (33 + 4 * n + 1) 0 (fun j => nI (j / 3)) 12) 0 10 (nI (n + 1))).1 0 j = σ.1 0 j := fun j q1 => by rw [mv_rn (fun z => q1 z.2), fo_out (by omega), mv_rn (by omega), mv_rn (by omega), mv_rn (by omega)]
    have g4 : (mv_pi (mv_fo (mv_pi (mv_pi (mv_pi σ (33 + 4 * n) 1 (nI p)) (33 + 4 * n) 2 0) (33 + 4 * n) 3 0) (33 + 4 * n + 1) 0 (fun j => nI (j / 3)) 12) 0 10 (nI (n + 1))).2 = σ.2 := rfl
    generalize (mv_pi (mv_fo (mv_pi (mv_pi (mv_pi σ (33 + 4 * n) 1 (nI p)) (33 + 4 * n) 2 0) (33 + 4 * n) 3 0) (33 + 4 * n + 1) 0 (fun j => nI (j / 3)) 12) 0 10 (nI (n + 1))) = τ at g1 g2 g3 g4 g5 ⊢
    have t1 : τ.1 61 1 = nI n := (g1 61 1 (by omega) (by omega) (by omega)).trans b3
    have e15 : (15 : Int32) * nI n = nI (15 * n) := pk_mul 15 n
    refine ⟨_, rfl, fun _ => ⟨rfl, fun _ => ?_, fun z => absurd z ?_⟩, fun z => absurd z (by decide)⟩
    · rw [t1, e15, nI_clamp (by omega), show (1 : Int32) = nI 1 from rfl, show (2 : Int32) = nI 2 from rfl, nI_add, nI_add, nI_clamp (by omega), nI_clamp (by omega)]
      refine ⟨rfl, rfl, ⟨rfl, vp_in_nI (N := 45) (by omega) (by omega)⟩, rfl, ⟨rfl, vp_in_nI (N := 45) (by omega) (by omega)⟩, rfl, ⟨rfl, vp_in_nI (N := 45) (by omega) (by omega)⟩, r_machine_loop hn3 ?_ ⟨rfl, Or.inr ⟨⟨n + 1, fun i => if i = n then (p, 0, 0, fun j => j / 3) else Ms i, ?_⟩, mv_rd, ?_, ?_⟩⟩⟩
      · rw [mv_rn (by omega), mv_rn (by omega), mv_rn (by omega)]; exact t1
      · refine ⟨by omega, ?_, ?_, fun i hi => ?_⟩
        · rw [mv_rn (by omega), mv_rn (by omega), fo_out (by omega), mv_rn (by omega), mv_rn (by omega), mv_rn (by omega)]; exact g2
        · rw [mv_rn (by omega), mv_rd]
        · have o : ∀ c j, ¬ c = 61 → ¬ c = 62 → (mv_pi (mv_pi (mv_fo (mv_pi (mv_pi (mv_pi τ 62 (15 * n) (nI p)) 62 (15 * n + 1) 0) 62 (15 * n + 2) 0) 62 (15 * n + 3) (fun j => nI (j / 3)) 12) 61 1 (nI (n + 1))) 61 23 (-1)).1 c j = τ.1 c j := fun c j q1 q2 => by rw [mv_rn (fun z => q1 z.1), mv_rn (fun z => q1 z.1), fo_out (fun z => q2 z.1), mv_rn (fun z => q2 z.1), mv_rn (fun z => q2 z.1), mv_rn (fun z => q2 z.1)]
          by_cases e : i = n
          · subst e
            simp only [if_true]
            refine ⟨⟨by show 1 ≤ p; omega, by show p ≤ 4; omega, by show 0 < p; omega, Nat.pow_pos (by omega), fun j hj => by show j / 3 < 4; omega, fun j hj => ?_⟩, ⟨?_, ?_, ?_, fun j hj => ?_⟩, ?_, ?_, ?_, fun j hj => ?_⟩
            · show j / 3 < p
              have : j < 3 * p := hj
              omega
            · rw [o _ _ (by omega) (by omega)]; exact g3.1
            · rw [o _ _ (by omega) (by omega)]; exact g3.2.1
            · rw [o _ _ (by omega) (by omega)]; exact g3.2.2.1
            · rw [o _ _ (by omega) (by omega)]; exact g3.2.2.2 j hj
            · rw [mv_rn (by omega), mv_rn (by omega), fo_out (by omega), mv_rn (by omega), mv_rn (by omega), mv_rd]
            · rw [mv_rn (by omega), mv_rn (by omega), fo_out (by omega), mv_rn (by omega), mv_rd]; rfl
            · rw [mv_rn (by omega), mv_rn (by omega), fo_out (by omega), mv_rd]; rfl
            · rw [mv_rn (by omega), mv_rn (by omega), fo_in hj]
          · simp only [if_neg e]
            obtain ⟨m1, m2, m3⟩ := b4 i (by omega)
            have o2 : ∀ j, j < 15 → (mv_pi (mv_pi (mv_fo (mv_pi (mv_pi (mv_pi τ 62 (15 * n) (nI p)) 62 (15 * n + 1) 0) 62 (15 * n + 2) 0) 62 (15 * n + 3) (fun j => nI (j / 3)) 12) 61 1 (nI (n + 1))) 61 23 (-1)).1 62 (15 * i + j) = σ.1 62 (15 * i + j) := fun j hj => by rw [mv_rn (by omega), mv_rn (by omega), fo_out (by omega), mv_rn (by omega), mv_rn (by omega), mv_rn (by omega)]; exact g1 _ _ (by omega) (by omega) (by omega)
            refine ⟨m1, ⟨?_, ?_, ?_, fun j hj => ?_⟩, ?_, ?_, ?_, fun j hj => ?_⟩
            · rw [o _ _ (by omega) (by omega), g1 _ _ (by omega) (by omega) (by omega)]; exact m2.1
            · rw [o _ _ (by omega) (by omega), g1 _ _ (by omega) (by omega) (by omega)]; exact m2.2.1
            · rw [o _ _ (by omega) (by omega), g1 _ _ (by omega) (by omega) (by omega)]; exact m2.2.2.1
            · rw [o _ _ (by omega) (by omega), g1 _ _ (by omega) (by omega) (by omega)]; exact m2.2.2.2 j hj
            · exact Eq.trans (o2 0 (by omega)) m3.1
            · rw [o2 1 (by omega)]; exact m3.2.1
            · rw [o2 2 (by omega)]; exact m3.2.2.1
            · have := o2 (3 + j) (by omega); rw [← Nat.add_assoc] at this; rw [this]; exact m3.2.2.2 j hj
      · intro c j hq
        unfold tm_M at hq
        rw [mv_rn (by omega), mv_rn (by omega), fo_out (by omega), mv_rn (by omega), mv_rn (by omega), mv_rn (by omega)]
        by_cases hc : c = 0
        · subst hc; exact g5 j (by omega)
        · exact g1 c j hc (by omega) (by omega)
      · exact g4
    · rw [t1]
      intro q
      have := (nI_eq (a := n) (b := 3) (by omega) (by omega)).mp q
      omega
  · -- full
    rw [Int32.lt_iff_toInt_lt] at z
    rw [Int32.le_iff_toInt_le] at z2
    have hn3 : n = 3 := by
      refine Decidable.byContradiction fun q => z3 (nI_lt (b := 3) (by omega) (by omega))
    refine w_Ref_machine ?_
    rw [r_inI (A := 1) (C := 4) rfl rfl, if_pos (by omega)]
    exact ⟨_, rfl, fun _ => ⟨rfl, fun q => absurd (b3.trans (by rw [hn3]; rfl)) q, fun _ => ⟨rfl, Or.inl rfl⟩⟩, fun z => absurd z (by decide)⟩
  · rw [Int32.le_iff_toInt_le] at z2; omega
end MKM
