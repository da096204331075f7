/-! ===== the first wrong pair ===== -/
def by1 (law : Nat) : Bool := decide (law = 0) || (decide (law = 1) || decide (law = 3))
def oth (law N : Nat) : Nat := if by1 law = true then 1 else N
def wrF (N o : Nat) (P : Nat → Nat → Bool) (i j : Nat) : Prop := i < N ∧ j < o ∧ P i j = false ∧ (∀ i' j', i' < i → j' < o → P i' j' = true) ∧ ∀ j', j' < j → P i j' = true
def wrN (N o : Nat) (P : Nat → Nat → Bool) : Prop := ∀ i j, i < N → j < o → P i j = true
theorem wr_un {N o : Nat} {P : Nat → Nat → Bool} {i j i' j' : Nat} (h : wrF N o P i j) (h' : wrF N o P i' j') : i = i' ∧ j = j' := by
  obtain ⟨h1, h2, h3, h4, h5⟩ := h
  obtain ⟨g1, g2, g3, g4, g5⟩ := h'
  have e : i = i' := by
    rcases Nat.lt_trichotomy i i' with z | z | z
    · exact absurd (g4 i j z h2) (by rw [h3]; decide)
    · exact z
    · exact absurd (h4 i' j' z g2) (by rw [g3]; decide)
  subst e
  refine ⟨rfl, ?_⟩
  rcases Nat.lt_trichotomy j j' with z | z | z
  · exact absurd (g5 j z) (by rw [h3]; decide)
  · exact z
  · exact absurd (h5 j' z) (by rw [g3]; decide)
theorem wr_no {N o : Nat} {P : Nat → Nat → Bool} {i j : Nat} (h : wrF N o P i j) (h' : wrN N o P) : False := absurd (h' i j h.1 h.2.1) (by rw [h.2.2.1]; decide)
def wrB (law j : Nat) : Int32 := if by1 law = true then -1 else nI j
theorem by1_cs (law : Nat) : (law = 0 ∨ law = 1 ∨ law = 3) ∧ by1 law = true ∨ (¬ law = 0 ∧ ¬ law = 1 ∧ ¬ law = 3) ∧ by1 law = false := by
  by_cases h : law = 0 ∨ law = 1 ∨ law = 3
  · refine Or.inl ⟨h, ?_⟩
    rcases h with rfl | rfl | rfl <;> rfl
  · refine Or.inr ⟨by omega, ?_⟩
    unfold by1
    rw [decide_eq_false (by omega), decide_eq_false (by omega), decide_eq_false (by omega)]
    rfl
def frq (σ τ : mv_S) : Prop := (∀ c j, ¬ c = 24 → ¬ c = 25 → ¬ (c = 12 ∧ j = 13) → ¬ c = 11 → τ.1 c j = σ.1 c j) ∧ τ.2 = σ.2
theorem frq_tr {a b c : mv_S} (h : frq a b) (g : frq b c) : frq a c := ⟨fun x j q1 q2 q3 q4 => (g.1 x j q1 q2 q3 q4).trans (h.1 x j q1 q2 q3 q4), g.2.trans h.2⟩
theorem frq_C {M : md_T} {σ τ : mv_S} (h : frq σ τ) (m : moC M σ) : moC M τ := moC_S (fun c j q => h.1 c j (by omega) (by omega) (by omega) (by omega)) m
theorem S_q {σ τ : mv_S} (h : frq σ τ) : frS σ τ := ⟨fun c j q => h.1 c j (fun z => q (by unfold sc2; omega)) (fun z => q (by unfold sc2; omega)) (fun z => q (by unfold sc2; omega)) (fun z => q (by unfold sc2; omega)), h.2⟩
section WRONGC
variable {X : mv_X} {d : Nat} {σ : mv_S} {Q : mv_Q} {M : md_T}
theorem c_findWrong {law G : Nat} (hl : law < 12) (hG : G + 300 < 2 ^ 30) (m : moC M σ) (g0 : iv_G G σ)
    (h0 : ∀ τ G', G' ≤ G + 256 → (¬ law = 7 → G' = G) → iv_G G' τ → frq σ τ → wrN (eF (gL M)).1 (oth law (eF (gL M)).1) (lawb (gL M) law) → Q (some (.int 0)) τ)
    (h1 : ∀ τ G' i j, G' ≤ G + 256 → (¬ law = 7 → G' = G) → iv_G G' τ → frq σ τ → wrF (eF (gL M)).1 (oth law (eF (gL M)).1) (lawb (gL M) law) i j → τ.1 11 2 = nI i → τ.1 11 3 = wrB law j → Q (some (.int 1)) τ) : mv_wp X (d + 7) 83 [.ref 11, .int (nI law)] σ Q := by
  have hle := eF_le (g := gL M)
  have ho : oth law (eF (gL M)).1 ≤ 256 := by unfold oth; split <;> omega
  have hoN : ∀ j, j < oth law (eF (gL M)).1 → j < (eF (gL M)).1 := fun j hj => by
    unfold oth at hj
    have := eF_pos (g := gL M)
    split at hj <;> omega
  have lp : mv_wf X (mv_wp X (d + 6)) m_Laws_findWrong Q 39 [.ref 11, .int (nI law), .int (if by1 law = true then 1 else 0), .int (nI (oth law (eF (gL M)).1)), .int (nI 0), .retAddr 0] [] σ := by
    generalize oth law (eF (gL M)).1 = o at *
    have inner : ∀ s i j (τ : mv_S) G', j + s = o → i < (eF (gL M)).1 → moC M τ → G' ≤ G + 256 → (¬ law = 7 → G' = G) → iv_G G' τ → frq σ τ → (law = 7 → tie (gL M) i = true → arI M i τ) → (∀ i' j', i' < i → j' < o → lawb (gL M) law i' j' = true) → (∀ j', j' < j → lawb (gL M) law i j' = true) →
        ((∀ i' j', i' < i + 1 → j' < o → lawb (gL M) law i' j' = true) → mv_wf X (mv_wp X (d + 6)) m_Laws_findWrong Q 39 [.ref 11, .int (nI law), .int (if by1 law = true then 1 else 0), .int (nI o), .int (nI (i + 1)), .retAddr 0] [] τ) →
        mv_wf X (mv_wp X (d + 6)) m_Laws_findWrong Q 92 [.ref 11, .int (nI law), .int (if by1 law = true then 1 else 0), .int (nI o), .int (nI i), .int (nI j)] [] τ := by
      intro s
      induction s with
      | zero =>
        intro i j τ G' hj hi mm g1 g2 g3 fr ar p1 p2 nx
        refine h_Laws_findWrong_92 ⟨fun _ => ?_, fun z => absurd (nI_le (by omega) (by omega)) z⟩
        rw [nI_1]
        refine nx (fun i' j' q1 q2 => ?_)
        by_cases e : i' = i
        · rw [e]; exact p2 j' (by omega)
        · exact p1 i' j' (by omega) q2
      | succ s ih =>
        intro i j τ G' hj hi mm g1 g2 g3 fr ar p1 p2 nx
        refine h_Laws_findWrong_92 ⟨fun z => absurd z (nI_ge (by omega) (by omega)), fun _ => ⟨rfl, ?_⟩⟩
        refine c_isLawful hl mm hi (hoN j (by omega)) ar ⟨_, rfl, ?_⟩
        by_cases e : lawb (gL M) law i j = true
        · rw [if_pos e]
          refine ⟨fun _ => ?_, fun z => absurd z (by decide)⟩
          rw [nI_1]
          refine ih i (j + 1) τ G' (by omega) hi mm g1 g2 g3 fr ar p1 (fun j' q => ?_) nx
          by_cases e2 : j' = j
          · rw [e2]; exact e
          · exact p2 j' (by omega)
        · rw [if_neg e]
          have hF : wrF (eF (gL M)).1 o (lawb (gL M) law) i j := ⟨hi, by omega, Bool.not_eq_true _ ▸ e, p1, p2⟩
          refine ⟨fun z => absurd rfl z, fun _ => ⟨rfl, ?_⟩⟩
          have fin : ∀ b, wrB law j = b → ((1 : Int32) = (0 : Int32) ∨ (1 : Int32) = (1 : Int32)) ∧ Q (some (.int 1)) (mv_pi (mv_pi τ 11 2 (nI i)) 11 3 b) := by
            intro b hb
            refine ⟨Or.inr rfl, h1 _ G' i j g1 g2 ?_ ?_ hF ?_ ?_⟩
            · exact iv_G_S (by rw [mv_rn (by omega), mv_rn (by omega)]) (fun c => by rw [mv_rn (by omega), mv_rn (by omega)]) g3
            · exact ⟨fun c y q1 q2 q3 q4 => by rw [mv_rn (by omega), mv_rn (by omega)]; exact fr.1 c y q1 q2 q3 q4, fr.2⟩
            · rw [mv_rn (by omega), mv_rd]
            · rw [mv_rd, hb]
          by_cases eb : by1 law = true
          · rw [if_pos eb]
            refine ⟨fun z => absurd z (by decide), fun _ => ⟨rfl, fin _ ?_⟩⟩
            unfold wrB; rw [if_pos eb]
          · rw [if_neg eb]
            refine ⟨fun _ => ⟨rfl, fin _ ?_⟩, fun z => absurd rfl z⟩
            unfold wrB; rw [if_neg eb]
    have outer : ∀ r i (τ : mv_S) G', i + r = (eF (gL M)).1 → G' ≤ G + i → (¬ law = 7 → G' = G) → iv_G G' τ → frq σ τ → (∀ i' j', i' < i → j' < o → lawb (gL M) law i' j' = true) → mv_wf X (mv_wp X (d + 6)) m_Laws_findWrong Q 39 [.ref 11, .int (nI law), .int (if by1 law = true then 1 else 0), .int (nI o), .int (nI i), .retAddr 0] [] τ := by
      intro r
      induction r with
      | zero =>
        intro i τ G' hi g1 g2 g3 fr p
        refine h_Laws_findWrong_39 ⟨rfl, rfl, ?_⟩
        rw [(frq_C fr m).2.2.1.1]
        refine ⟨fun _ => ⟨Or.inl rfl, h0 τ G' (by omega) g2 g3 fr (fun i' j' q1 q2 => p i' j' (by omega) q2)⟩, fun z => absurd (nI_le (by omega) (by omega)) z⟩
      | succ r ih =>
        intro i τ G' hi g1 g2 g3 fr p
        have mm := frq_C fr m
        refine h_Laws_findWrong_39 ⟨rfl, rfl, ?_⟩
        rw [mm.2.2.1.1]
        refine ⟨fun z => absurd z (nI_ge (by omega) (by omega)), fun _ => ?_⟩
        by_cases e7 : law = 7
        · refine ⟨fun z => absurd (by rw [e7]; rfl) z, fun _ => ⟨rfl, rfl, ?_⟩⟩
          refine c_isTie mm (by omega) ⟨_, rfl, ?_⟩
          by_cases et : tie (gL M) i = true
          · rw [if_pos et]
            refine ⟨fun z => absurd z (by decide), fun _ => ⟨rfl, rfl, rfl, ?_⟩⟩
            refine c_code mm (by omega) ⟨_, rfl, rfl, ?_⟩
            refine s_around (G := G') (by omega) mm g3 (by omega) (fun τ2 q1 q2 => ⟨_, rfl, rfl, ?_⟩)
            have fq : frq σ (mv_pi τ2 11 1 (nI (arS (gL M) ((eF (gL M)).2.1 i) (eF (gL M)).1).1)) := ⟨fun c y z1 z2 z3 z4 => by rw [mv_rn (by omega), q2.1 c y z1 z2 z3]; exact fr.1 c y z1 z2 z3 z4, q2.2.trans fr.2⟩
            have gq : iv_G (G' + 1) (mv_pi τ2 11 1 (nI (arS (gL M) ((eF (gL M)).2.1 i) (eF (gL M)).1).1)) := iv_G_S (by rw [mv_rn (by omega)]) (fun c => by rw [mv_rn (by omega)]) (gaC_G q1)
            refine inner o i 0 _ (G' + 1) (by omega) (by omega) (frq_C fq m) (by omega) (fun z => absurd e7 z) gq fq (fun _ _ => ⟨mv_rd, fun k hk => ?_⟩) p (fun j' q => absurd q (Nat.not_lt_zero _)) (fun pp => ih (i + 1) _ (G' + 1) (by omega) (by omega) (fun z => absurd e7 z) gq fq pp)
            rw [mv_rn (by omega)]
            exact q1.2.1 k hk
          · rw [if_neg et]
            refine ⟨fun _ => ?_, fun z => absurd rfl z⟩
            exact inner o i 0 τ G' (by omega) (by omega) mm (by omega) g2 g3 fr (fun _ z => absurd z et) p (fun j' q => absurd q (Nat.not_lt_zero _)) (fun pp => ih (i + 1) τ G' (by omega) (by omega) g2 g3 fr pp)
        · refine ⟨fun _ => ?_, fun z => absurd (nI_28 (b := 7) (by omega) (by omega) z) e7⟩
          exact inner o i 0 τ G' (by omega) (by omega) mm (by omega) g2 g3 fr (fun z => absurd z e7) p (fun j' q => absurd q (Nat.not_lt_zero _)) (fun pp => ih (i + 1) τ G' (by omega) (by omega) g2 g3 fr pp)
    exact outer (eF (gL M)).1 0 σ G (by omega) (by omega) (fun _ => rfl) g0 ⟨fun _ _ _ _ _ _ => rfl, rfl⟩ (fun i' j' q => absurd q (Nat.not_lt_zero _))
  refine w_Laws_findWrong ?_
  unfold oth at lp
  rcases by1_cs law with ⟨e, b⟩ | ⟨⟨e0, e1, e3⟩, b⟩
  · rw [b, if_pos rfl, if_pos rfl] at lp
    rcases e with rfl | rfl | rfl
    · exact ⟨fun _ => ⟨fun z => absurd z (by decide), fun _ => lp⟩, fun z => absurd rfl z⟩
    · exact ⟨fun z => absurd z (by decide), fun _ => ⟨fun _ => ⟨fun z => absurd z (by decide), fun _ => lp⟩, fun z => absurd rfl z⟩⟩
    · exact ⟨fun z => absurd z (by decide), fun _ => ⟨fun z => absurd z (by decide), fun _ => ⟨fun z => absurd rfl z, fun _ => ⟨fun z => absurd z (by decide), fun _ => lp⟩⟩⟩⟩
  · rw [b, if_neg (by decide), if_neg (by decide)] at lp
    refine ⟨fun z => absurd (nI_28 (b := 0) (by omega) (by omega) z) e0, fun _ => ⟨fun z => absurd (nI_28 (b := 1) (by omega) (by omega) z) e1, fun _ => ⟨fun _ => ⟨fun _ => ⟨rfl, rfl, ?_⟩, fun z => absurd rfl z⟩, fun z => absurd (nI_28 (b := 3) (by omega) (by omega) z) e3⟩⟩⟩
    rw [m.2.2.1.1]
    exact lp
end WRONGC
