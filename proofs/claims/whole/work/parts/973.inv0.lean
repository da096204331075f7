theorem Inv_0 : Inv 0 mv_0 := by
  have s1 : ∀ k, k < 4 → mv_0.1 (53 + 2 * k) 1 = -1 ∧ mv_0.1 93 k = -1 ∧ mv_0.1 (53 + 2 * k) 2 = nI 0 ∧ mv_0.1 94 k = nI 0 ∧ ∀ j, j < 40 → mv_0.1 95 (40 * k + j) = mv_0.1 (53 + 2 * k + 1) j := by decide +kernel
  have s2 : ∀ c, c < 256 → mv_0.1 24 c = nI 0 := by decide +kernel
  have s3 : mv_0.1 0 10 = nI 0 ∧ mv_0.1 61 1 = nI 0 ∧ mv_0.1 61 23 = -1 ∧ mv_0.1 0 11 = -1 ∧ mv_0.1 61 4 = 0 ∧ mv_0.1 5 4 = nI 0 ∧ mv_0.1 61 43 = nI 0 ∧ mv_0.1 5 7 = nI 0 ∧ mv_0.1 61 51 = nI 0 ∧ mv_0.1 0 12 = nI 0 ∧ mv_0.1 61 41 = nI 0 ∧ mv_0.1 12 13 = nI 0 := by decide +kernel
  have s4 : mv_0.2 12 14 = -1 := by decide +kernel
  obtain ⟨e1, e2, e3, e4, e5, e6, e7, e8, e9, e10, e11, e12⟩ := s3
  refine ⟨⟨0, fun _ => (0, 0, 0, fun _ => 0), ⟨Nat.zero_le _, e1, e2, fun k hk => absurd hk (Nat.not_lt_zero _)⟩, Or.inl e3⟩, Or.inl ⟨e4, e5⟩, ⟨0, Nat.zero_le _, e6, e7, fun j hj => absurd hj (Nat.not_lt_zero _)⟩, ⟨0, Nat.zero_le _, e8, e9, fun j hj => absurd hj (Nat.not_lt_zero _)⟩, fun k hk => ?_, ⟨0, Nat.zero_le _, e10, e11, fun k hk => absurd hk (Nat.not_lt_zero _)⟩, Or.inl s4, 0, Nat.zero_le _, e12, fun c hc => ⟨0, Nat.le_refl _, s2 c hc⟩⟩
  obtain ⟨a1, a2, a3, a4, a5⟩ := s1 k hk
  exact ⟨Or.inl a1, a2.trans a1.symm, ⟨0, Nat.zero_le _, a3, a4⟩, a5⟩
