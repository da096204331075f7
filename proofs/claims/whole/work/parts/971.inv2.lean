section INV2
variable {i : Nat} {σ τ : mv_S}
theorem I_eq (h : Inv i σ) (p : τ = σ) : Inv (i + 7) τ := by rw [p]; exact Inv_7 i σ h
theorem I_mu (h : Inv i σ) (p : mu_P σ τ) : Inv (i + 7) τ := by
  rcases p with p | ⟨⟨n, Ms, hM⟩, h23, fr, f2⟩
  · exact I_eq h p
  obtain ⟨h1, h2, ⟨m, h3⟩, ⟨r, h4⟩, h5, ⟨q, h6⟩, h7, G, g1, g2⟩ := h
  exact ⟨⟨n, Ms, hM, Or.inl h23⟩, kK h2 (fun c j z => fr c j (by unfold tm_M; omega)), ⟨m, kTt h3 (fun c j z => fr c j (by unfold tm_M; omega))⟩, ⟨r, kWw h4 (fun c j z => fr c j (by unfold tm_M; omega))⟩, kSs h5 (fun c j z => fr c j (by unfold tm_M; omega)), ⟨q, kFf h6 (fun c j z => fr c j (by unfold tm_M; omega))⟩, iv_C_S (fun c j z => fr c j (by unfold tm_M; omega)) (by rw [f2]) h7, G, by omega, iv_G_S (fr _ _ (by unfold tm_M; omega)) (fun c => fr _ _ (by unfold tm_M; omega)) g2⟩
theorem I_ms (h : Inv i σ) (p : ms_P σ τ) : Inv (i + 7) τ := by
  rcases p with p | ⟨hS, fr, f2⟩
  · exact I_eq h p
  obtain ⟨⟨n, Ms, hM, hR⟩, h2, ⟨m, h3⟩, ⟨r, h4⟩, h5, ⟨q, h6⟩, h7, G, g1, g2⟩ := h
  exact ⟨⟨n, Ms, kM hM (fun c j z => fr c j (by unfold tm_S; omega)), iv_R_S (fun c j z => fr c j (by unfold tm_S; omega)) hR⟩, kK h2 (fun c j z => fr c j (by unfold tm_S; omega)), ⟨m, kTt h3 (fun c j z => fr c j (by unfold tm_S; omega))⟩, ⟨r, kWw h4 (fun c j z => fr c j (by unfold tm_S; omega))⟩, hS, ⟨q, kFf h6 (fun c j z => fr c j (by unfold tm_S; omega))⟩, iv_C_S (fun c j z => fr c j (by unfold tm_S; omega)) (by rw [f2]) h7, G, by omega, iv_G_S (fr _ _ (by unfold tm_S; omega)) (fun c => fr _ _ (by unfold tm_S; omega)) g2⟩
theorem I_mt (h : Inv i σ) (p : mt_P σ τ) : Inv (i + 7) τ := by
  obtain ⟨hT, fr, f2⟩ := p
  obtain ⟨⟨n, Ms, hM, hR⟩, h2, ⟨m, h3⟩, ⟨r, h4⟩, h5, ⟨q, h6⟩, h7, G, g1, g2⟩ := h
  exact ⟨⟨n, Ms, kM hM (fun c j z => fr c j (by unfold tm_T; omega)), iv_R_S (fun c j z => fr c j (by unfold tm_T; omega)) hR⟩, kK h2 (fun c j z => fr c j (by unfold tm_T; omega)), hT, ⟨r, kWw h4 (fun c j z => fr c j (by unfold tm_T; omega))⟩, kSs h5 (fun c j z => fr c j (by unfold tm_T; omega)), ⟨q, kFf h6 (fun c j z => fr c j (by unfold tm_T; omega))⟩, iv_C_S (fun c j z => fr c j (by unfold tm_T; omega)) (by rw [f2]) h7, G, by omega, iv_G_S (fr _ _ (by unfold tm_T; omega)) (fun c => fr _ _ (by unfold tm_T; omega)) g2⟩
theorem I_mk (h : Inv i σ) (p : mk_P σ τ) : Inv (i + 7) τ := by
  obtain ⟨hK, fr, f2⟩ := p
  obtain ⟨⟨n, Ms, hM, hR⟩, h2, ⟨m, h3⟩, ⟨r, h4⟩, h5, ⟨q, h6⟩, h7, G, g1, g2⟩ := h
  exact ⟨⟨n, Ms, kM hM (fun c j z => fr c j (by unfold tm_K; omega)), iv_R_S (fun c j z => fr c j (by unfold tm_K; omega)) hR⟩, hK, ⟨m, kTt h3 (fun c j z => fr c j (by unfold tm_K; omega))⟩, ⟨r, kWw h4 (fun c j z => fr c j (by unfold tm_K; omega))⟩, kSs h5 (fun c j z => fr c j (by unfold tm_K; omega)), ⟨q, kFf h6 (fun c j z => fr c j (by unfold tm_K; omega))⟩, iv_C_S (fun c j z => fr c j (by unfold tm_K; omega)) (by rw [f2]) h7, G, by omega, iv_G_S (fr _ _ (by unfold tm_K; omega)) (fun c => fr _ _ (by unfold tm_K; omega)) g2⟩
/-- what no part of the invariant speaks of -/
def scF (c j : Nat) : Prop := c = 10 ∨ c = 64 ∨ c = 90 ∨ c = 92 ∨ (28 ≤ c ∧ c ≤ 32) ∨ (81 ≤ c ∧ c ≤ 86) ∨ (c = 61 ∧ (j = 6 ∨ (44 ≤ j ∧ j ≤ 49)))
theorem I_fr (h : Inv i σ) (fr : ∀ c j, ¬ scF c j → τ.1 c j = σ.1 c j) (f2 : τ.2 12 14 = σ.2 12 14) : Inv (i + 7) τ := by
  obtain ⟨⟨n, Ms, hM, hR⟩, h2, ⟨m, h3⟩, ⟨r, h4⟩, h5, ⟨q, h6⟩, h7, G, g1, g2⟩ := h
  exact ⟨⟨n, Ms, kM hM (fun c j z => fr c j (by unfold scF; omega)), iv_R_S (fun c j z => fr c j (by unfold scF; omega)) hR⟩, kK h2 (fun c j z => fr c j (by unfold scF; omega)), ⟨m, kTt h3 (fun c j z => fr c j (by unfold scF; omega))⟩, ⟨r, kWw h4 (fun c j z => fr c j (by unfold scF; omega))⟩, kSs h5 (fun c j z => fr c j (by unfold scF; omega)), ⟨q, kFf h6 (fun c j z => fr c j (by unfold scF; omega))⟩, iv_C_S (fun c j z => fr c j (by unfold scF; omega)) f2 h7, G, by omega, iv_G_S (fr _ _ (by unfold scF; omega)) (fun c => fr _ _ (by unfold scF; omega)) g2⟩
theorem I_aw (h : Inv i σ) (p : aw_P σ τ) : Inv (i + 7) τ := I_fr h (fun c j z => p.1 c j (fun y => z (by unfold scW at y; unfold scF; omega))) (by rw [p.2])
theorem I_kk (h : Inv i σ) (p : kk_P σ τ) : Inv (i + 7) τ := I_fr h (fun c j z => p.1 c j (fun y => z (by unfold scF; omega)) (fun y => z (by unfold scF; omega))) (by rw [p.2])
theorem I_ml (h : Inv i σ) (p : mls_P σ τ) : Inv (i + 7) τ := I_fr h (fun c j z => p.1 c j (fun y => z (by unfold scF; omega)) (fun y => z (by unfold scF; omega))) (p.2 _ _ (by omega) (by omega))
theorem I_mf (h : Inv i σ) (p : mf_P σ τ) : Inv (i + 7) τ := by
  obtain ⟨hS, fr, f2⟩ := p
  have fr : ∀ c j, ¬ tm_S c → ¬ scF c j → τ.1 c j = σ.1 c j := fun c j q1 q2 => fr c j q1 (fun y => q2 (by unfold scW at y; unfold scF; omega))
  obtain ⟨⟨n, Ms, hM, hR⟩, h2, ⟨m, h3⟩, ⟨r, h4⟩, h5, ⟨q, h6⟩, h7, G, g1, g2⟩ := h
  exact ⟨⟨n, Ms, kM hM (fun c j z => fr c j (by unfold tm_S; omega) (by unfold scF; omega)), iv_R_S (fun c j z => fr c j (by unfold tm_S; omega) (by unfold scF; omega)) hR⟩, kK h2 (fun c j z => fr c j (by unfold tm_S; omega) (by unfold scF; omega)), ⟨m, kTt h3 (fun c j z => fr c j (by unfold tm_S; omega) (by unfold scF; omega))⟩, ⟨r, kWw h4 (fun c j z => fr c j (by unfold tm_S; omega) (by unfold scF; omega))⟩, hS, ⟨q, kFf h6 (fun c j z => fr c j (by unfold tm_S; omega) (by unfold scF; omega))⟩, iv_C_S (fun c j z => fr c j (by unfold tm_S; omega) (by unfold scF; omega)) (by rw [f2]) h7, G, by omega, iv_G_S (fr _ _ (by unfold tm_S; omega) (by unfold scF; omega)) (fun c => fr _ _ (by unfold tm_S; omega) (by unfold scF; omega)) g2⟩
theorem I_fo (h : Inv i σ) (p : fo_P σ τ) : Inv (i + 7) τ := by
  obtain ⟨hF, hT, hW, fr, f2⟩ := p
  obtain ⟨⟨n, Ms, hM, hR⟩, h2, h3, h4, h5, h6, h7, G, g1, g2⟩ := h
  exact ⟨⟨n, Ms, kM hM (fun c j z => fr c j (by omega) (by omega) (by omega) (by omega) (by omega) (by omega) (by omega)), iv_R_S (fun c j z => fr c j (by omega) (by omega) (by omega) (by omega) (by omega) (by omega) (by omega)) hR⟩, kK h2 (fun c j z => fr c j (by omega) (by omega) (by omega) (by omega) (by omega) (by omega) (by omega)), hT, hW, kSs h5 (fun c j z => fr c j (by omega) (by omega) (by omega) (by omega) (by omega) (by omega) (by omega)), hF, iv_C_S (fun c j z => fr c j (by omega) (by omega) (by omega) (by omega) (by omega) (by omega) (by omega)) (by rw [f2]) h7, G, by omega, iv_G_S (fr _ _ (by omega) (by omega) (by omega) (by omega) (by omega) (by omega) (by omega)) (fun c => fr _ _ (by omega) (by omega) (by omega) (by omega) (by omega) (by omega) (by omega)) g2⟩
theorem I_mo {n G : Nat} {Ms : Nat → md_T} (h : Inv i σ) (hM : iv_M n Ms σ) (hG : G ≤ 300 * i) (p : mo_P n G σ τ) : Inv (i + 7) τ := by
  obtain ⟨pC, pR, ⟨G', p1, p2⟩, fr, f2⟩ := p
  obtain ⟨_, h2, ⟨m, h3⟩, ⟨r, h4⟩, h5, ⟨q, h6⟩, h7, _⟩ := h
  exact ⟨⟨n, Ms, kM hM (fun c j z => fr c j (by unfold scM sc2; omega)), pR⟩, kK h2 (fun c j z => fr c j (by unfold scM sc2; omega)), ⟨m, kTt h3 (fun c j z => fr c j (by unfold scM sc2; omega))⟩, ⟨r, kWw h4 (fun c j z => fr c j (by unfold scM sc2; omega))⟩, kSs h5 (fun c j z => fr c j (by unfold scM sc2; omega)), ⟨q, kFf h6 (fun c j z => fr c j (by unfold scM sc2; omega))⟩, pC, G', by omega, p2⟩
theorem op_mono {X : mv_X} {d f g : Nat} {P P' : mv_S → Prop} {as : List Value} (h : lw_op X d P f g as σ) (hp : ∀ s, P s → P' s) : lw_op X d P' f g as σ := by
  unfold lw_op at h ⊢
  exact mv_wp_mono _ _ _ _ _ _ (fun r s ⟨v, e, hh⟩ => ⟨v, e, mv_wp_mono _ _ _ _ _ _ (fun r2 s2 ⟨e2, hh2⟩ => ⟨e2, hp s2 hh2⟩) hh⟩) h
theorem op_monoL {X : mv_X} {d f g : Nat} {P P' : mv_S → Prop} {as : List Value} (h : lw_opL X d P f g as σ) (hp : ∀ s, P s → P' s) : lw_opL X d P' f g as σ := by
  unfold lw_opL at h ⊢
  exact mv_wp_mono _ _ _ _ _ _ (fun r s ⟨v, e, hh⟩ => ⟨v, e, mv_wp_mono _ _ _ _ _ _ (fun r2 s2 ⟨e2, hh2⟩ => ⟨e2, hp s2 hh2⟩) hh⟩) h
end INV2
