/-! ===== the invariant ===== -/
theorem kM {n : Nat} {Ms : Nat → md_T} {σ τ : mv_S} (h : iv_M n Ms σ) (hs : ∀ c j, (c = 0 ∧ j = 10) ∨ (c = 61 ∧ j = 1) ∨ c = 33 ∨ c = 34 ∨ c = 37 ∨ c = 38 ∨ c = 41 ∨ c = 42 ∨ c = 62 → τ.1 c j = σ.1 c j) : iv_M n Ms τ := by
  obtain ⟨b1, b2, b3, b4⟩ := h
  refine ⟨b1, (hs _ _ (by omega)).trans b2, (hs _ _ (by omega)).trans b3, fun k hk => ?_⟩
  obtain ⟨m1, m2, m3⟩ := b4 k hk
  exact ⟨m1, ⟨(hs _ _ (by omega)).trans m2.1, (hs _ _ (by omega)).trans m2.2.1, (hs _ _ (by omega)).trans m2.2.2.1, fun j hj => (hs _ _ (by omega)).trans (m2.2.2.2 j hj)⟩, ⟨(hs _ _ (by omega)).trans m3.1, (hs _ _ (by omega)).trans m3.2.1, (hs _ _ (by omega)).trans m3.2.2.1, fun j hj => (hs _ _ (by omega)).trans (m3.2.2.2 j hj)⟩⟩
theorem kK {σ τ : mv_S} (h : iv_K σ) (hs : ∀ c j, (c = 0 ∧ j = 11) ∨ (c = 61 ∧ (j = 3 ∨ j = 4)) ∨ c = 35 ∨ c = 36 ∨ c = 39 ∨ c = 40 ∨ c = 43 ∨ c = 44 ∨ c = 63 → τ.1 c j = σ.1 c j) : iv_K τ := by
  rcases h with ⟨h1, h2⟩ | ⟨n, Ms, b1, b2, b3, b5, b4⟩
  · exact Or.inl ⟨(hs _ _ (by omega)).trans h1, (hs _ _ (by omega)).trans h2⟩
  · refine Or.inr ⟨n, Ms, b1, (hs _ _ (by omega)).trans b2, (hs _ _ (by omega)).trans b3, (hs _ _ (by omega)).trans b5, fun k hk => ?_⟩
    obtain ⟨m1, m2, m3⟩ := b4 k hk
    exact ⟨m1, ⟨(hs _ _ (by omega)).trans m2.1, (hs _ _ (by omega)).trans m2.2.1, (hs _ _ (by omega)).trans m2.2.2.1, fun j hj => (hs _ _ (by omega)).trans (m2.2.2.2 j hj)⟩, ⟨(hs _ _ (by omega)).trans m3.1, (hs _ _ (by omega)).trans m3.2.1, (hs _ _ (by omega)).trans m3.2.2.1, fun j hj => (hs _ _ (by omega)).trans (m3.2.2.2 j hj)⟩⟩
theorem kTt {m : Nat} {σ τ : mv_S} (h : iv_T m σ) (hs : ∀ c j, (c = 5 ∧ j = 4) ∨ (c = 61 ∧ j = 43) ∨ c = 6 ∨ c = 89 → τ.1 c j = σ.1 c j) : iv_T m τ := ⟨h.1, (hs _ _ (by omega)).trans h.2.1, (hs _ _ (by omega)).trans h.2.2.1, fun j hj => by rw [hs 6 j (by omega), hs 89 j (by omega)]; exact h.2.2.2 j hj⟩
theorem kWw {r : Nat} {σ τ : mv_S} (h : iv_W r σ) (hs : ∀ c j, (c = 5 ∧ j = 7) ∨ (c = 61 ∧ j = 51) ∨ c = 9 ∨ c = 91 → τ.1 c j = σ.1 c j) : iv_W r τ := ⟨h.1, (hs _ _ (by omega)).trans h.2.1, (hs _ _ (by omega)).trans h.2.2.1, fun j hj => by rw [hs 9 j (by omega), hs 91 j (by omega)]; exact h.2.2.2 j hj⟩
theorem kSs {σ τ : mv_S} (h : iv_S σ) (hs : ∀ c j, (53 ≤ c ∧ c ≤ 60) ∨ c = 93 ∨ c = 94 ∨ c = 95 → τ.1 c j = σ.1 c j) : iv_S τ := by
  intro k hk
  obtain ⟨h1, h2, ⟨m, m1, m2, m3⟩, h4⟩ := h k hk
  unfold iv_S1
  rw [hs (53 + 2 * k) 1 (by omega), hs 93 k (by omega)]
  refine ⟨h1, h2, ⟨m, m1, (hs _ _ (by omega)).trans m2, (hs _ _ (by omega)).trans m3⟩, fun j hj => ?_⟩
  rw [hs 95 _ (by omega), hs (53 + 2 * k + 1) j (by omega)]
  exact h4 j hj
theorem kFf {q : Nat} {σ τ : mv_S} (h : iv_F q σ) (hs : ∀ c j, (c = 0 ∧ j = 12) ∨ (c = 61 ∧ j = 41) ∨ (45 ≤ c ∧ c ≤ 52) ∨ c = 87 ∨ c = 88 → τ.1 c j = σ.1 c j) : iv_F q τ := by
  obtain ⟨f1, f2, f3, f4⟩ := h
  refine ⟨f1, (hs _ _ (by omega)).trans f2, (hs _ _ (by omega)).trans f3, fun k hk => ?_⟩
  obtain ⟨N0, b0, p0, a0, v0, w1, w2, w3, w4⟩ := f4 k hk
  exact ⟨N0, b0, p0, a0, v0, w1, w2, ⟨(hs _ _ (by omega)).trans w3.1, fun i hi => (hs _ _ (by omega)).trans (w3.2 i hi)⟩, ⟨(hs _ _ (by omega)).trans w4.1, fun i hi => (hs _ _ (by omega)).trans (w4.2 i hi)⟩⟩
/-- formulas as takers, at every depth that is enough -/
theorem F_Fm {q : Nat} {σ : mv_S} (h : iv_F q σ) : ∃ fs : Nat → List Nat → Bool, ∀ X D, 32 ≤ D → iv_Fm X D q fs σ := by
  obtain ⟨f1, f2, f3, f4⟩ := h
  have ch : ∀ k, ∃ f : List Nat → Bool, k < q → ∀ X D, 32 ≤ D → tkC X D (45 + 2 * k) f σ ∧ tkR X D 1 k f σ := by
    intro k
    by_cases hk : k < q
    · obtain ⟨N0, b0, p0, a0, v0, w1, w2, w3, w4⟩ := f4 k hk
      exact ⟨fun w => v0 w.length (wb w), fun _ X D hD => ⟨tkC_F (by omega) w1 w2 w3 (by omega), tkR_F (by omega) w1 w2 w4 hD⟩⟩
    · exact ⟨fun _ => true, fun z => absurd z hk⟩
  refine ⟨fun k => Classical.choose (ch k), fun X D hD => ⟨f1, f2, f3, fun k hk => ?_⟩⟩
  exact Classical.choose_spec (ch k) hk X D hD
def Inv (i : Nat) (σ : mv_S) : Prop := (∃ n Ms, iv_M n Ms σ ∧ iv_R n σ) ∧ iv_K σ ∧ (∃ m, iv_T m σ) ∧ (∃ r, iv_W r σ) ∧ iv_S σ ∧ (∃ q, iv_F q σ) ∧ iv_C σ ∧ ∃ G, G ≤ 300 * i ∧ iv_G G σ
theorem Inv_7 (i : Nat) (σ : mv_S) (h : Inv i σ) : Inv (i + 7) σ := by
  obtain ⟨h1, h2, h3, h4, h5, h6, h7, G, g1, g2⟩ := h
  exact ⟨h1, h2, h3, h4, h5, h6, h7, G, by omega, g2⟩
