/-! ===== known: the class's answers ===== -/
def kmm (F : bf_T) (c p : Nat) : Prop := bf_ix F (4 * c + p) < F.1
def kw (F : bf_T) (E : Nat) : Prop := ∃ i j, i < F.1 ∧ j < F.1 ∧ F.2.1 i / 4 = F.2.1 j / 4 ∧ E.testBit (F.2.1 i % 4) = true ∧ E.testBit (F.2.1 j % 4) = false
def kw2 (F G : bf_T) (E D : Nat) : Prop := ∃ i j, i < F.1 ∧ j < G.1 ∧ F.2.1 i / 4 = G.2.1 j / 4 ∧ E.testBit (F.2.1 i % 4) = true ∧ D.testBit (G.2.1 j % 4) = true
theorem kmm_i {F : bf_T} {i : Nat} (hi : i < F.1) : kmm F (F.2.1 i / 4) (F.2.1 i % 4) := (bf_ix_iff _ _).mpr ⟨i, hi, by omega⟩
theorem kmm_e {F : bf_T} {c p : Nat} (hp : p < 4) (h : kmm F c p) : ∃ i, i < F.1 ∧ F.2.1 i / 4 = c ∧ F.2.1 i % 4 = p := by
  obtain ⟨i, hi, e⟩ := (bf_ix_iff _ _).mp h
  exact ⟨i, hi, by omega, by omega⟩
def frk8 (σ τ : mv_S) : Prop := (∀ c j, ¬ c = 28 → τ.1 c j = σ.1 c j) ∧ τ.2 = σ.2
theorem bs_z {f : Nat → Bool} (h : ∀ j, j < 8 → f j = false) : bs f 8 = 0 := by
  rw [bs_cg (g := fun _ => false) 8 h]; decide
theorem kT_shift (F : bf_T) (c : Nat) (x : (Nat → Nat) × (Nat → Nat)) : bs (kT (fun _ _ => false) 0 F c) 8 = bs (kT (kT (fun _ _ => false) 0 F) 4 (0, x) c) 8 := by
  refine bs_cg 8 (fun j hj => ?_)
  by_cases e : 4 ≤ j ∧ j < 4 + 4
  · have e1 : kT (fun _ _ => false) 0 F c j = false := by unfold kT; rw [if_neg (by omega)]
    have e2 : kT (kT (fun _ _ => false) 0 F) 4 (0, x) c j = false := by
      unfold kT
      rw [if_pos e]
      exact decide_eq_false (Nat.not_lt_zero _)
    rw [e1, e2]
  · have e2 : kT (kT (fun _ _ => false) 0 F) 4 (0, x) c j = kT (fun _ _ => false) 0 F c j := if_neg e
    rw [e2]
section KNOWNA
variable {X : mv_X} {d : Nat} {σ : mv_S} {Q : mv_Q} {k v : Nat} {M N : md_T}
theorem kF_S : kF k v M = kS k v M (3 * 6460) := by unfold kF; rfl
theorem kF_nd (hk : k < 2) (hv : v < 3) (hM : md_ok M) (i : Nat) (hi : i < (kF k v M).1) : knd k v M ((kF k v M).2.1 i) := by
  rw [kF_S] at hi ⊢
  exact kS_nd hk hv hM (3 * 6460) i hi
theorem c_fillB (hQ : ∀ τ, (∀ c, c < 4609 → τ.1 28 c = sB 0) → frk8 σ τ → Q none τ) : mv_wp X (d + 1) 1 [.ref 28, .int 0] σ Q := by
  have loop : ∀ r c (τ : mv_S), c + r = 4609 → (∀ y, y < c → τ.1 28 y = sB 0) → frk8 σ τ → mv_wf X (mv_wp X d) m_Arrays_fillB Q 5 [.ref 28, .int 0, .int (nI c), .int (Int32.ofNat (mv_ln 28))] [] τ := by
    intro r
    induction r with
    | zero =>
      intro c τ hc h1 h2
      refine h_Arrays_fillB_5 ⟨fun _ => hQ τ (fun y hy => h1 y (by omega)) h2, fun z => absurd (nI_le (a := 4609) (by omega) (by omega)) z⟩
    | succ r ih =>
      intro c τ hc h1 h2
      refine h_Arrays_fillB_5 ⟨fun z => absurd z (nI_ge (b := 4609) (by omega) (by omega)), fun _ => ⟨⟨rfl, Or.inl rfl, vp_in_nI (N := 4609) (by omega) (by omega)⟩, ?_⟩⟩
      rw [nI_clamp (by omega), nI_1, sB_0]
      refine ih (c + 1) _ (by omega) (fun y hy => ?_) ⟨fun x j q => by rw [mv_rn (by omega)]; exact h2.1 x j q, h2.2⟩
      by_cases e : y = c
      · rw [e, mv_rd]
      · rw [mv_rn (by omega)]; exact h1 y (by omega)
  exact w_Arrays_fillB ⟨by decide, loop 4609 0 σ (by omega) (fun y hy => absurd hy (Nat.not_lt_zero _)) ⟨fun _ _ _ => rfl, rfl⟩⟩
theorem c_tells {t : Nat} (hk : k < 2) (hv : v < 3) (hM : md_ok M) (ht : mc_at t) (ht3 : 33 ≤ t) (hc : cl_M σ t M)
    (h1 : ∀ τ, ¬ kw (kF k v M) M.2.2.1 → frK σ τ → Q (some (.int 1)) τ) (h0 : ∀ τ, kw (kF k v M) M.2.2.1 → frK σ τ → Q (some (.int 0)) τ) : mv_wp X (d + 4) 88 [.ref 27, .ref t, .int (nI k), .int (nI v)] σ Q := by
  have ht1 := ht.1
  have hE := md_e16 hM
  have nd := kF_nd hk hv hM
  refine w_Known_tellsTaken ⟨rfl, c_fillB (fun τ1 p1 p2 => ⟨rfl, rfl, ?_⟩)⟩
  have f1 : frK σ τ1 := ⟨fun c j q1 q2 => p2.1 c j q1, p2.2⟩
  refine c_explore (T0 := fun _ _ => false) (sh := 0) (Or.inl rfl) hk hv hM ht ht3 (frK_cl f1 ht3 hc) ⟨fun i hi => absurd hi (Nat.not_lt_zero _), fun c hc => ?_⟩ (fun τ2 p3 p4 => ⟨rfl, ht1, ?_⟩)
  · rw [p1 c hc, bs_z (fun j hj => ?_)]
    unfold kT
    split
    · exact decide_eq_false (Nat.not_lt_zero _)
    · rfl
  have f2 := frK_tr f1 p4
  have c2 := frK_cl f2 ht3 hc
  generalize kF k v M = F at *
  refine (w_Machine_everyPoint _ _ _ _ _).mpr ⟨ht1, _, rfl, ht1, ?_⟩
  rw [c2.1, c2.2.2.1, (cme_I M.1 (by have := hM.2.1; omega) M.2.2.1 hE).1]
  have ce := (cme_I M.1 (by have := hM.2.1; omega) M.2.2.1 hE).2
  have tb : ∀ c p, p < 4 → (bs (kT (fun _ _ => false) 0 F c) 8).testBit p = decide (bf_ix F (4 * c + p) < F.1) := by
    intro c p hp
    rw [bs_tb, decide_eq_true (by omega), Bool.true_and]
    unfold kT
    rw [if_pos (by omega)]
    rfl
  have loop : ∀ r c, c + r = 4609 → (∀ c', c' < c → ∀ p q, p < 4 → q < 4 → kmm F c' p → kmm F c' q → M.2.2.1.testBit p = true → M.2.2.1.testBit q = false → False) → mv_wf X (mv_wp X (d + 3)) m_Known_tellsTaken Q 32 [.ref 27, .ref t, .retAddr 0, .retAddr 0, .int (nI (cme M.1 M.2.2.1)), .int (nI c)] [] τ2 := by
    intro r
    induction r with
    | zero =>
      intro c hr no
      refine h_Known_tellsTaken_32 ⟨fun _ => ⟨Or.inr rfl, h1 τ2 ?_ f2⟩, fun z => absurd (nI_le (a := 4609) (by omega) (by omega)) z⟩
      rintro ⟨i, j, hi, hj, e, e1, e2⟩
      have ni := (kin_all hk hv (nd i hi).1).1
      have m2 := kmm_i hj
      rw [← e] at m2
      exact no _ (by omega) _ _ (by omega) (by omega) (kmm_i hi) m2 e1 e2
    | succ r ih =>
      intro c hr no
      refine h_Known_tellsTaken_32 ⟨fun z => absurd z (nI_ge (b := 4609) (by omega) (by omega)), fun _ => ?_⟩
      have bl := bs_lt (kT (fun _ _ => false) 0 F c) 8
      rw [nI_clamp (by omega), p3.2 c (by omega), c2.2.2.1, sB_e _ (by omega) _ hE, sB_e _ (by omega) _ ce, nI_1]
      refine ⟨rfl, ⟨rfl, Or.inl rfl, vp_in_nI (N := 4609) (by omega) (by omega)⟩, ht1, fun z => ?_, fun z => ⟨rfl, ⟨rfl, Or.inl rfl, vp_in_nI (N := 4609) (by omega) (by omega)⟩, fun y => ?_, fun y => ⟨Or.inl rfl, h0 τ2 ?_ f2⟩⟩⟩
      · refine ih (c + 1) (by omega) (fun c' hc' p q hp hq m1 m2 e1 e2 => ?_)
        by_cases ec : c' = c
        · subst ec
          exact z p hp ⟨by rw [tb _ _ hp]; exact decide_eq_true m1, e1⟩
        · exact no c' (by omega) p q hp hq m1 m2 e1 e2
      · refine ih (c + 1) (by omega) (fun c' hc' p q hp hq m1 m2 e1 e2 => ?_)
        by_cases ec : c' = c
        · subst ec
          obtain ⟨i, hi, e3, e4⟩ := kmm_e hq m2
          have n4 := (nd i hi).2
          refine y q hq ⟨by rw [tb _ _ hq]; exact decide_eq_true m2, ?_⟩
          rw [cme_t _ (by have := hM.2.1; omega) _ hE _ hq, decide_eq_true (by omega), e2]; rfl
        · exact no c' (by omega) p q hp hq m1 m2 e1 e2
      · have z' : ∃ p, p < 4 ∧ kmm F c p ∧ M.2.2.1.testBit p = true := Classical.byContradiction fun w => z (fun p hp hh => w ⟨p, hp, (show bf_ix F (4 * c + p) < F.1 from by rw [tb _ _ hp] at hh; exact of_decide_eq_true hh.1), hh.2⟩)
        have y' : ∃ p, p < 4 ∧ kmm F c p ∧ M.2.2.1.testBit p = false := Classical.byContradiction fun w => y (fun p hp hh => w ⟨p, hp, (show bf_ix F (4 * c + p) < F.1 from by rw [tb _ _ hp] at hh; exact of_decide_eq_true hh.1), by
          have := hh.2
          rw [cme_t _ (by have := hM.2.1; omega) _ hE _ hp, Bool.and_eq_true] at this
          cases hq : M.2.2.1.testBit p
          · rfl
          · rw [hq] at this; exact absurd this.2 (by decide)⟩)
        obtain ⟨p, hp, m1, e1⟩ := z'
        obtain ⟨q, hq, m2, e2⟩ := y'
        obtain ⟨i, hi, e3, e4⟩ := kmm_e hp m1
        obtain ⟨j, hj, e5, e6⟩ := kmm_e hq m2
        exact ⟨i, j, hi, hj, by omega, by rw [e4]; exact e1, by rw [e6]; exact e2⟩
  exact loop 4609 0 (by omega) (fun c' hc' => absurd hc' (Nat.not_lt_zero _))
theorem c_keeps {t u : Nat} (hk : k < 2) (hv : v < 3) (hM : md_ok M) (hN : md_ok N) (ht : mc_at t) (ht3 : 33 ≤ t) (hu : mc_at u) (hu3 : 33 ≤ u) (hc : cl_M σ t M) (hd : cl_M σ u N)
    (h1 : ∀ τ, ¬ kw2 (kF k v M) (kF k v N) M.2.2.1 N.2.2.1 → frK σ τ → Q (some (.int 1)) τ) (h0 : ∀ τ, kw2 (kF k v M) (kF k v N) M.2.2.1 N.2.2.1 → frK σ τ → Q (some (.int 0)) τ) : mv_wp X (d + 4) 89 [.ref 27, .ref t, .ref u, .int (nI k), .int (nI v)] σ Q := by
  have ht1 := ht.1
  have hu1 := hu.1
  have hE := md_e16 hM
  have hD := md_e16 hN
  have nd := kF_nd hk hv hM
  refine w_Known_keepsApart ⟨rfl, c_fillB (fun τ1 p1 p2 => ⟨rfl, rfl, ?_⟩)⟩
  have f1 : frK σ τ1 := ⟨fun c j q1 q2 => p2.1 c j q1, p2.2⟩
  refine c_explore (T0 := fun _ _ => false) (sh := 0) (Or.inl rfl) hk hv hM ht ht3 (frK_cl f1 ht3 hc) ⟨fun i hi => absurd hi (Nat.not_lt_zero _), fun c hc => ?_⟩ (fun τ2 p3 p4 => ⟨rfl, rfl, ?_⟩)
  · rw [p1 c hc, bs_z (fun j hj => ?_)]
    unfold kT
    split
    · exact decide_eq_false (Nat.not_lt_zero _)
    · rfl
  have f2 := frK_tr f1 p4
  refine c_explore (T0 := kT (fun _ _ => false) 0 (kF k v M)) (sh := 4) (Or.inr rfl) hk hv hN hu hu3 (frK_cl f2 hu3 hd) ⟨fun i hi => absurd hi (Nat.not_lt_zero _), fun c hc => ?_⟩ (fun τ3 p5 p6 => ⟨rfl, ?_⟩)
  · exact (p3.2 c hc).trans (congrArg sB (kT_shift _ c _))
  generalize kF k v M = F at *
  generalize kF k v N = G at *
  have f3 := frK_tr f2 p6
  have c3 := frK_cl f3 ht3 hc
  have d3 := frK_cl f3 hu3 hd
  have tb : ∀ c p, p < 4 → (bs (kT (kT (fun _ _ => false) 0 F) 4 G c) 8).testBit p = decide (bf_ix F (4 * c + p) < F.1) := by
    intro c p hp
    rw [bs_tb, decide_eq_true (by omega), Bool.true_and]
    unfold kT
    rw [if_neg (by omega), if_pos (by omega), Nat.sub_zero]
  have tc : ∀ c p, p < 4 → (bs (kT (kT (fun _ _ => false) 0 F) 4 G c) 8).testBit (p + 4) = decide (bf_ix G (4 * c + p) < G.1) := by
    intro c p hp
    rw [bs_tb, decide_eq_true (by omega), Bool.true_and]
    unfold kT
    rw [if_pos (by omega), show p + 4 - 4 = p by omega]
  have loop : ∀ r c, c + r = 4609 → (∀ c', c' < c → ∀ p q, p < 4 → q < 4 → kmm F c' p → kmm G c' q → M.2.2.1.testBit p = true → N.2.2.1.testBit q = true → False) → mv_wf X (mv_wp X (d + 3)) m_Known_keepsApart Q 29 [.ref 27, .ref t, .ref u, .retAddr 0, .retAddr 0, .int (nI c)] [] τ3 := by
    intro r
    induction r with
    | zero =>
      intro c hr no
      refine h_Known_keepsApart_29 ⟨fun _ => ⟨Or.inr rfl, h1 τ3 ?_ f3⟩, fun z => absurd (nI_le (a := 4609) (by omega) (by omega)) z⟩
      rintro ⟨i, j, hi, hj, e, e1, e2⟩
      have ni := (kin_all hk hv (nd i hi).1).1
      have m2 := kmm_i hj
      rw [← e] at m2
      exact no _ (by omega) _ _ (by omega) (by omega) (kmm_i hi) m2 e1 e2
    | succ r ih =>
      intro c hr no
      refine h_Known_keepsApart_29 ⟨fun z => absurd z (nI_ge (b := 4609) (by omega) (by omega)), fun _ => ?_⟩
      have bl := bs_lt (kT (kT (fun _ _ => false) 0 F) 4 G c) 8
      rw [nI_clamp (by omega), p5.2 c (by omega), c3.2.2.1, d3.2.2.1, sB_e _ (by omega) _ hE, sB_f _ (by omega) _ hD, nI_1]
      refine ⟨rfl, ⟨rfl, Or.inl rfl, vp_in_nI (N := 4609) (by omega) (by omega)⟩, ht1, fun z => ?_, fun z => ⟨rfl, ⟨rfl, Or.inl rfl, vp_in_nI (N := 4609) (by omega) (by omega)⟩, hu1, fun y => ?_, fun y => ⟨Or.inl rfl, h0 τ3 ?_ f3⟩⟩⟩
      · refine ih (c + 1) (by omega) (fun c' hc' p q hp hq m1 m2 e1 e2 => ?_)
        by_cases ec : c' = c
        · subst ec
          exact z p hp ⟨by rw [tb _ _ hp]; exact decide_eq_true m1, e1⟩
        · exact no c' (by omega) p q hp hq m1 m2 e1 e2
      · refine ih (c + 1) (by omega) (fun c' hc' p q hp hq m1 m2 e1 e2 => ?_)
        by_cases ec : c' = c
        · subst ec
          exact y q hq ⟨by rw [tc _ _ hq]; exact decide_eq_true m2, e2⟩
        · exact no c' (by omega) p q hp hq m1 m2 e1 e2
      · have z' : ∃ p, p < 4 ∧ kmm F c p ∧ M.2.2.1.testBit p = true := Classical.byContradiction fun w => z (fun p hp hh => w ⟨p, hp, (show bf_ix F (4 * c + p) < F.1 from by rw [tb _ _ hp] at hh; exact of_decide_eq_true hh.1), hh.2⟩)
        have y' : ∃ p, p < 4 ∧ kmm G c p ∧ N.2.2.1.testBit p = true := Classical.byContradiction fun w => y (fun p hp hh => w ⟨p, hp, (show bf_ix G (4 * c + p) < G.1 from by rw [tc _ _ hp] at hh; exact of_decide_eq_true hh.1), hh.2⟩)
        obtain ⟨p, hp, m1, e1⟩ := z'
        obtain ⟨q, hq, m2, e2⟩ := y'
        obtain ⟨i, hi, e3, e4⟩ := kmm_e hp m1
        obtain ⟨j, hj, e5, e6⟩ := kmm_e hq m2
        exact ⟨i, j, hi, hj, by omega, by rw [e4]; exact e1, by rw [e6]; exact e2⟩
  exact loop 4609 0 (by omega) (fun c' hc' => absurd hc' (Nat.not_lt_zero _))
end KNOWNA
