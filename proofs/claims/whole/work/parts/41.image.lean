/-! ===== image, back ===== -/
section IMAGE
variable {X : mv_X} {d : Nat} {σ : mv_S} {Q : mv_Q}
theorem s_become {t u : Nat} (ht : mc_at t) (hu : mc_at u) (hne : ¬ t = u) (h1 : ¬ u + 1 = t) (h2 : ¬ t + 1 = u) (hQ : ∀ τ : mv_S, (∀ j, 1 ≤ j → j < 4 → τ.1 t j = σ.1 u j) → (∀ j, j < 12 → τ.1 (t + 1) j = σ.1 (u + 1) j) → (∀ c j, ¬ c = t → ¬ c = t + 1 → τ.1 c j = σ.1 c j) → τ.2 = σ.2 → Q none τ) : mv_wp X (d + 1) 9 [.ref t, .ref u] σ Q := by
  obtain ⟨t1, t2, t3, t4⟩ := ht
  obtain ⟨u1, u2, u3, u4⟩ := hu
  refine (w_Machine_become _ _ _ _ _ _).mpr ?_
  rw [t2, u2, t3, u3, t4, u4]
  refine ⟨u1, t1, u1, t1, u1, t1, u1, t1, t1, by decide, ⟨rfl, rfl, by decide, by decide, by decide, by decide, by decide, fun i hi => rfl⟩, hQ _ (fun j j1 j2 => ?_) (fun j hj => ?_) (fun c j hc hc1 => ?_) rfl⟩
  · dsimp only
    rw [if_neg (by omega)]
    have e : j = 1 ∨ j = 2 ∨ j = 3 := by omega
    rcases e with rfl | rfl | rfl <;> simp (disch := omega) only [mv_rd, mv_rn]
  · dsimp only
    rw [if_pos rfl]
    show va_cpy _ _ 0 0 12 j = _
    rw [sb_cpy0 hj]
    simp (disch := omega) only [mv_rn]
  · dsimp only
    rw [if_neg (by omega)]
    simp (disch := omega) only [mv_rn]
theorem cl_cp {t u : Nat} {M : md_T} {τ : mv_S} (h : cl_M σ u M) (h1 : ∀ j, 1 ≤ j → j < 4 → τ.1 t j = σ.1 u j) (h2 : ∀ j, j < 12 → τ.1 (t + 1) j = σ.1 (u + 1) j) : cl_M τ t M :=
  ⟨(h1 1 (by omega) (by omega)).trans h.1, (h1 2 (by omega) (by omega)).trans h.2.1, (h1 3 (by omega) (by omega)).trans h.2.2.1, fun j hj => (h2 j hj).trans (h.2.2.2 j hj)⟩
theorem rf_cp {k c e : Nat} {M : md_T} {τ : mv_S} (hk : k < 3) (h : rf_M σ c k M) (h1 : ∀ j, j < 45 → τ.1 e j = σ.1 c j) : rf_M τ e k M :=
  ⟨(h1 _ (by omega)).trans h.1, (h1 _ (by omega)).trans h.2.1, (h1 _ (by omega)).trans h.2.2.1, fun j hj => (h1 _ (by omega)).trans (h.2.2.2 j hj)⟩
theorem op_image {n : Nat} {Ms : Nat → md_T} (h : iv_M n Ms σ) : lw_op X (d + 5) (mk_P σ) 128 235 [] σ := by
  unfold lw_op
  obtain ⟨b1, b2, b3, b4⟩ := h
  have loop : ∀ k i (τ : mv_S), i + k = n → (∀ l, l < i → cl_M τ (35 + 4 * l) (Ms l)) → (∀ c j, ¬ tm_K c j → τ.1 c j = σ.1 c j) → (∀ c j, c = 0 ∨ c = 61 ∨ c = 63 → τ.1 c j = σ.1 c j) → τ.2 = σ.2 → mv_wf X (mv_wp X (d + 4)) m_WM_image (fun r1 σ1 => ∃ v, r1 = some (.int v) ∧ mv_wp X (d + 5) 235 [.ref 61] σ1 (fun r2 σ2 => r2 = some (.int v) ∧ mk_P σ σ2)) 2 [.ref 0, .int (nI i)] [] τ := by
    intro k
    induction k with
    | zero =>
      intro i τ hi h1 h2 h3 h4
      obtain rfl : i = n := by omega
      have c2 : τ.1 0 10 = nI i := (h3 _ _ (Or.inl rfl)).trans b2
      have c3 : τ.1 61 1 = nI i := (h3 _ _ (Or.inr (Or.inl rfl))).trans b3
      refine h_WM_image_2 ?_
      rw [c2, mv_rd]
      repeat (first
          | (refine And.intro (show mv_sh _ = _ from rfl) ?_)
          | (refine And.intro (show mv_sh _ = _ by assumption) ?_)
          | (refine And.intro (show _ ≤ mv_sh _ from Nat.le_of_ble_eq_true rfl) ?_)
          | (refine And.intro (show _ ≤ mv_sh _ ∧ vp_in _ _ from ⟨Nat.le_of_ble_eq_true rfl, by (first | (simp (disch := omega) only [ln_1, ln_2, ln_62, ln_63, not_true_eq_false, not_false_eq_true, Classical.not_not, ofn, b_z, b_nz, b_z', b_nz', mv_rd, mv_rn, mv_ld, mv_ln_, lit, nI_add, pk_mul, nI_clamp]; exact vp_in_nI (by omega) (by omega)) | (exact vp_in_nI (by omega) (by omega)))⟩) ?_)
          | (refine And.intro (show (_ : Int32) = 0 ∨ (_ : Int32) = 1 from by first | exact Or.inl rfl | exact Or.inr rfl | exact bI_01 _) ?_)
          | (refine And.intro (show mv_sh _ = _ ∧ vp_in _ _ from ⟨rfl, by (first | (simp (disch := omega) only [ln_1, ln_2, ln_62, ln_63, not_true_eq_false, not_false_eq_true, Classical.not_not, ofn, b_z, b_nz, b_z', b_nz', mv_rd, mv_rn, mv_ld, mv_ln_, lit, nI_add, pk_mul, nI_clamp]; exact vp_in_nI (by omega) (by omega)) | (exact vp_in_nI (by omega) (by omega)))⟩) ?_)
          | (refine And.intro (show mv_sh _ = _ ∧ vp_in _ _ from ⟨by assumption, by (first | (simp (disch := omega) only [ln_1, ln_2, ln_62, ln_63, not_true_eq_false, not_false_eq_true, Classical.not_not, ofn, b_z, b_nz, b_z', b_nz', mv_rd, mv_rn, mv_ld, mv_ln_, lit, nI_add, pk_mul, nI_clamp]; exact vp_in_nI (by omega) (by omega)) | (exact vp_in_nI (by omega) (by omega)))⟩) ?_)
          | (refine And.intro (show ¬ (_ : Int32) = 0 by decide) ?_)
          | (refine ⟨_, rfl, ?_⟩)
          | (refine And.intro (show (none : Option Value) = none from rfl) ?_)
          | (refine Or.inl ⟨rfl, ?_⟩)
          | (refine Or.inr ⟨_, rfl, ?_⟩)
          | (refine dt (by (first | assumption | omega | ((try simp (disch := omega) only [not_true_eq_false, not_false_eq_true, Classical.not_not, ofn, b_z, b_nz, b_z', b_nz', mv_rd, mv_rn, mv_ld, mv_ln_, lit, nI_add, pk_mul, nI_clamp]); (try simp (disch := omega) only [fa_lt, fa_le, fa_eq, nI_toInt, pk_sub_toInt, nI_m1, nI_m1', not_false_eq_true, true_and, and_true]); first | done | omega))) ?_)
          | (refine df (by (first | assumption | omega | ((try simp (disch := omega) only [not_true_eq_false, not_false_eq_true, Classical.not_not, ofn, b_z, b_nz, b_z', b_nz', mv_rd, mv_rn, mv_ld, mv_ln_, lit, nI_add, pk_mul, nI_clamp]); (try simp (disch := omega) only [fa_lt, fa_le, fa_eq, nI_toInt, pk_sub_toInt, nI_m1, nI_m1', not_false_eq_true, true_and, and_true]); first | done | omega))) ?_)
          | (refine dt' (by (first | assumption | omega | ((try simp (disch := omega) only [not_true_eq_false, not_false_eq_true, Classical.not_not, ofn, b_z, b_nz, b_z', b_nz', mv_rd, mv_rn, mv_ld, mv_ln_, lit, nI_add, pk_mul, nI_clamp]); (try simp (disch := omega) only [fa_lt, fa_le, fa_eq, nI_toInt, pk_sub_toInt, nI_m1, nI_m1', not_false_eq_true, true_and, and_true]); first | done | omega))) ?_)
          | (refine df' (by (first | assumption | omega | ((try simp (disch := omega) only [not_true_eq_false, not_false_eq_true, Classical.not_not, ofn, b_z, b_nz, b_z', b_nz', mv_rd, mv_rn, mv_ld, mv_ln_, lit, nI_add, pk_mul, nI_clamp]); (try simp (disch := omega) only [fa_lt, fa_le, fa_eq, nI_toInt, pk_sub_toInt, nI_m1, nI_m1', not_false_eq_true, true_and, and_true]); first | done | omega))) ?_)
          )
      refine (w_Ref_image _ _ _ _).mpr ⟨rfl, rfl, ⟨rfl, rfl, by decide, by decide, by decide, by decide, by decide, fun i hi => rfl⟩, rfl, rfl, ⟨rfl, Or.inr rfl⟩, rfl, ?_⟩
      have e0 : (0 : Int32).toNatClampNeg = 0 := by decide
      have e1 : (45 : Int32).toNatClampNeg = 45 := by decide
      rw [e0, e1]
      dsimp only
      rw [if_neg (by decide)]
      refine ⟨by rw [mv_rn (by omega), mv_rn (by omega)]; dsimp only; rw [if_neg (by decide), mv_rn (by omega), c3], Or.inr ⟨i, Ms, b1, ?_, ?_, ?_, fun l hl => ⟨(b4 l hl).1, ?_, ?_⟩⟩, fun c j hc => ?_, h4⟩
      · rw [mv_rn (by omega), mv_rn (by omega)]; dsimp only; rw [if_neg (by decide), mv_rd]
      · rw [mv_rd]
      · rw [mv_rn (by omega), mv_rd, mv_rn (by omega), c3]
      · have o : ∀ c j, ¬ c = 0 → ¬ c = 61 → ¬ c = 63 → (mv_pi (mv_pi (fun c' k => if c' = 63 then va_cpy ((mv_pi τ 0 11 (nI i)).1 62) ((mv_pi τ 0 11 (nI i)).1 63) 0 0 45 k else (mv_pi τ 0 11 (nI i)).1 c' k, (mv_pi τ 0 11 (nI i)).2) 61 3 ((mv_pi τ 0 11 (nI i)).1 61 1)) 61 4 1).1 c j = τ.1 c j := fun c j q1 q2 q3 => by
          rw [mv_rn (by omega), mv_rn (by omega)]; dsimp only; rw [if_neg q3, mv_rn (by omega)]
        have := h1 l hl
        exact ⟨(o _ _ (by omega) (by omega) (by omega)).trans this.1, (o _ _ (by omega) (by omega) (by omega)).trans this.2.1, (o _ _ (by omega) (by omega) (by omega)).trans this.2.2.1, fun j hj => (o _ _ (by omega) (by omega) (by omega)).trans (this.2.2.2 j hj)⟩
      · refine rf_cp (by omega) (b4 l hl).2.2 fun j hj => ?_
        rw [mv_rn (by omega), mv_rn (by omega)]; dsimp only
        rw [if_pos rfl, sb_cpy0 hj, mv_rn (by omega)]
        exact h2 _ _ (by unfold tm_K; omega)
      · have hc' := hc
        unfold tm_K at hc'
        rw [mv_rn (by omega), mv_rn (by omega)]; dsimp only
        rw [if_neg (by omega), mv_rn (by omega)]
        exact h2 c j hc
    | succ k ih =>
      intro i τ hi h1 h2 h3 h4
      have c2 : τ.1 0 10 = nI n := (h3 _ _ (Or.inl rfl)).trans b2
      have t1 := mc_kept i (by omega)
      have t2 := mc_now i (by omega)
      refine h_WM_image_2 ?_
      rw [nI_clamp (by omega), t1.2, t2.2]
      have hs := t1.1.1
      repeat (first
          | (refine And.intro (show mv_sh _ = _ from rfl) ?_)
          | (refine And.intro (show mv_sh _ = _ by assumption) ?_)
          | (refine And.intro (show _ ≤ mv_sh _ from Nat.le_of_ble_eq_true rfl) ?_)
          | (refine And.intro (show _ ≤ mv_sh _ ∧ vp_in _ _ from ⟨Nat.le_of_ble_eq_true rfl, by (first | (simp (disch := omega) only [ln_1, ln_2, ln_62, ln_63, not_true_eq_false, not_false_eq_true, Classical.not_not, ofn, b_z, b_nz, b_z', b_nz', mv_rd, mv_rn, mv_ld, mv_ln_, lit, nI_add, pk_mul, nI_clamp, c2]; exact vp_in_nI (by omega) (by omega)) | (exact vp_in_nI (by omega) (by omega)))⟩) ?_)
          | (refine And.intro (show (_ : Int32) = 0 ∨ (_ : Int32) = 1 from by first | exact Or.inl rfl | exact Or.inr rfl | exact bI_01 _) ?_)
          | (refine And.intro (show mv_sh _ = _ ∧ vp_in _ _ from ⟨rfl, by (first | (simp (disch := omega) only [ln_1, ln_2, ln_62, ln_63, not_true_eq_false, not_false_eq_true, Classical.not_not, ofn, b_z, b_nz, b_z', b_nz', mv_rd, mv_rn, mv_ld, mv_ln_, lit, nI_add, pk_mul, nI_clamp, c2]; exact vp_in_nI (by omega) (by omega)) | (exact vp_in_nI (by omega) (by omega)))⟩) ?_)
          | (refine And.intro (show mv_sh _ = _ ∧ vp_in _ _ from ⟨by assumption, by (first | (simp (disch := omega) only [ln_1, ln_2, ln_62, ln_63, not_true_eq_false, not_false_eq_true, Classical.not_not, ofn, b_z, b_nz, b_z', b_nz', mv_rd, mv_rn, mv_ld, mv_ln_, lit, nI_add, pk_mul, nI_clamp, c2]; exact vp_in_nI (by omega) (by omega)) | (exact vp_in_nI (by omega) (by omega)))⟩) ?_)
          | (refine And.intro (show ¬ (_ : Int32) = 0 by decide) ?_)
          | (refine ⟨_, rfl, ?_⟩)
          | (refine And.intro (show (none : Option Value) = none from rfl) ?_)
          | (refine Or.inl ⟨rfl, ?_⟩)
          | (refine Or.inr ⟨_, rfl, ?_⟩)
          | (refine dt (by (first | assumption | omega | ((try simp (disch := omega) only [not_true_eq_false, not_false_eq_true, Classical.not_not, ofn, b_z, b_nz, b_z', b_nz', mv_rd, mv_rn, mv_ld, mv_ln_, lit, nI_add, pk_mul, nI_clamp, c2]); (try simp (disch := omega) only [fa_lt, fa_le, fa_eq, nI_toInt, pk_sub_toInt, nI_m1, nI_m1', not_false_eq_true, true_and, and_true, c2]); first | done | omega))) ?_)
          | (refine df (by (first | assumption | omega | ((try simp (disch := omega) only [not_true_eq_false, not_false_eq_true, Classical.not_not, ofn, b_z, b_nz, b_z', b_nz', mv_rd, mv_rn, mv_ld, mv_ln_, lit, nI_add, pk_mul, nI_clamp, c2]); (try simp (disch := omega) only [fa_lt, fa_le, fa_eq, nI_toInt, pk_sub_toInt, nI_m1, nI_m1', not_false_eq_true, true_and, and_true, c2]); first | done | omega))) ?_)
          | (refine dt' (by (first | assumption | omega | ((try simp (disch := omega) only [not_true_eq_false, not_false_eq_true, Classical.not_not, ofn, b_z, b_nz, b_z', b_nz', mv_rd, mv_rn, mv_ld, mv_ln_, lit, nI_add, pk_mul, nI_clamp, c2]); (try simp (disch := omega) only [fa_lt, fa_le, fa_eq, nI_toInt, pk_sub_toInt, nI_m1, nI_m1', not_false_eq_true, true_and, and_true, c2]); first | done | omega))) ?_)
          | (refine df' (by (first | assumption | omega | ((try simp (disch := omega) only [not_true_eq_false, not_false_eq_true, Classical.not_not, ofn, b_z, b_nz, b_z', b_nz', mv_rd, mv_rn, mv_ld, mv_ln_, lit, nI_add, pk_mul, nI_clamp, c2]); (try simp (disch := omega) only [fa_lt, fa_le, fa_eq, nI_toInt, pk_sub_toInt, nI_m1, nI_m1', not_false_eq_true, true_and, and_true, c2]); first | done | omega))) ?_)
          )
      refine s_become t1.1 t2.1 (by omega) (by omega) (by omega) fun υ u1 u2 u3 u4 => ⟨rfl, ?_⟩
      rw [nI_1]
      refine ih (i + 1) υ (by omega) (fun l hl => ?_) (fun c j hc => ?_) (fun c j hc => ?_) (u4.trans h4)
      · by_cases e : l = i
        · subst e
          refine cl_cp ?_ u1 u2
          have := (b4 l (by omega)).2.1
          have o : ∀ c j, c = 33 + 4 * l ∨ c = 33 + 4 * l + 1 → τ.1 c j = σ.1 c j := fun c j hc => h2 _ _ (by unfold tm_K; omega)
          exact ⟨(o _ _ (Or.inl rfl)).trans this.1, (o _ _ (Or.inl rfl)).trans this.2.1, (o _ _ (Or.inl rfl)).trans this.2.2.1, fun j hj => (o _ _ (Or.inr rfl)).trans (this.2.2.2 j hj)⟩
        · have := h1 l (by omega)
          exact ⟨(u3 _ _ (by omega) (by omega)).trans this.1, (u3 _ _ (by omega) (by omega)).trans this.2.1, (u3 _ _ (by omega) (by omega)).trans this.2.2.1, fun j hj => (u3 _ _ (by omega) (by omega)).trans (this.2.2.2 j hj)⟩
      · have hc' := hc
        unfold tm_K at hc'
        rw [u3 _ _ (by omega) (by omega)]; exact h2 c j hc
      · rw [u3 _ _ (by omega) (by omega)]; exact h3 c j hc
  exact w_WM_image (loop n 0 σ (by omega) (fun l hl => absurd hl (by omega)) (fun _ _ _ => rfl) (fun _ _ _ => rfl) rfl)
theorem op_back (h : iv_K σ) : lw_op X (d + 5) (mu_P σ) 129 236 [] σ := by
  unfold lw_op
  rcases h with ⟨k1, k2⟩ | ⟨n, Ms, b1, b2, b3, b5, b4⟩
  · refine w_WM_back ?_
    rw [k1]
    repeat (first
        | (refine And.intro (show mv_sh _ = _ from rfl) ?_)
        | (refine And.intro (show mv_sh _ = _ by assumption) ?_)
        | (refine And.intro (show _ ≤ mv_sh _ from Nat.le_of_ble_eq_true rfl) ?_)
        | (refine And.intro (show _ ≤ mv_sh _ ∧ vp_in _ _ from ⟨Nat.le_of_ble_eq_true rfl, by (first | (simp (disch := omega) only [ln_1, ln_2, ln_62, ln_63, not_true_eq_false, not_false_eq_true, Classical.not_not, ofn, b_z, b_nz, b_z', b_nz', mv_rd, mv_rn, mv_ld, mv_ln_, lit, nI_add, pk_mul, nI_clamp]; exact vp_in_nI (by omega) (by omega)) | (exact vp_in_nI (by omega) (by omega)))⟩) ?_)
        | (refine And.intro (show (_ : Int32) = 0 ∨ (_ : Int32) = 1 from by first | exact Or.inl rfl | exact Or.inr rfl | exact bI_01 _) ?_)
        | (refine And.intro (show mv_sh _ = _ ∧ vp_in _ _ from ⟨rfl, by (first | (simp (disch := omega) only [ln_1, ln_2, ln_62, ln_63, not_true_eq_false, not_false_eq_true, Classical.not_not, ofn, b_z, b_nz, b_z', b_nz', mv_rd, mv_rn, mv_ld, mv_ln_, lit, nI_add, pk_mul, nI_clamp]; exact vp_in_nI (by omega) (by omega)) | (exact vp_in_nI (by omega) (by omega)))⟩) ?_)
        | (refine And.intro (show mv_sh _ = _ ∧ vp_in _ _ from ⟨by assumption, by (first | (simp (disch := omega) only [ln_1, ln_2, ln_62, ln_63, not_true_eq_false, not_false_eq_true, Classical.not_not, ofn, b_z, b_nz, b_z', b_nz', mv_rd, mv_rn, mv_ld, mv_ln_, lit, nI_add, pk_mul, nI_clamp]; exact vp_in_nI (by omega) (by omega)) | (exact vp_in_nI (by omega) (by omega)))⟩) ?_)
        | (refine And.intro (show ¬ (_ : Int32) = 0 by decide) ?_)
        | (refine ⟨_, rfl, ?_⟩)
        | (refine And.intro (show (none : Option Value) = none from rfl) ?_)
        | (refine Or.inl ⟨rfl, ?_⟩)
        | (refine Or.inr ⟨_, rfl, ?_⟩)
        | (refine dt (by (first | assumption | omega | ((try simp (disch := omega) only [not_true_eq_false, not_false_eq_true, Classical.not_not, ofn, b_z, b_nz, b_z', b_nz', mv_rd, mv_rn, mv_ld, mv_ln_, lit, nI_add, pk_mul, nI_clamp]); (try simp (disch := omega) only [fa_lt, fa_le, fa_eq, nI_toInt, pk_sub_toInt, nI_m1, nI_m1', not_false_eq_true, true_and, and_true]); first | done | omega))) ?_)
        | (refine df (by (first | assumption | omega | ((try simp (disch := omega) only [not_true_eq_false, not_false_eq_true, Classical.not_not, ofn, b_z, b_nz, b_z', b_nz', mv_rd, mv_rn, mv_ld, mv_ln_, lit, nI_add, pk_mul, nI_clamp]); (try simp (disch := omega) only [fa_lt, fa_le, fa_eq, nI_toInt, pk_sub_toInt, nI_m1, nI_m1', not_false_eq_true, true_and, and_true]); first | done | omega))) ?_)
        | (refine dt' (by (first | assumption | omega | ((try simp (disch := omega) only [not_true_eq_false, not_false_eq_true, Classical.not_not, ofn, b_z, b_nz, b_z', b_nz', mv_rd, mv_rn, mv_ld, mv_ln_, lit, nI_add, pk_mul, nI_clamp]); (try simp (disch := omega) only [fa_lt, fa_le, fa_eq, nI_toInt, pk_sub_toInt, nI_m1, nI_m1', not_false_eq_true, true_and, and_true]); first | done | omega))) ?_)
        | (refine df' (by (first | assumption | omega | ((try simp (disch := omega) only [not_true_eq_false, not_false_eq_true, Classical.not_not, ofn, b_z, b_nz, b_z', b_nz', mv_rd, mv_rn, mv_ld, mv_ln_, lit, nI_add, pk_mul, nI_clamp]); (try simp (disch := omega) only [fa_lt, fa_le, fa_eq, nI_toInt, pk_sub_toInt, nI_m1, nI_m1', not_false_eq_true, true_and, and_true]); first | done | omega))) ?_)
        )
    refine (w_Ref_back _ _ _ _).mpr ⟨rfl, fun z => absurd k2 z, fun _ => ⟨rfl, Or.inl rfl⟩⟩
  have loop : ∀ k i (τ : mv_S), i + k = n → (∀ l, l < i → cl_M τ (33 + 4 * l) (Ms l)) → (∀ c j, ¬ tm_M c j → τ.1 c j = σ.1 c j) → (∀ c j, c = 0 ∨ c = 61 ∨ c = 62 → τ.1 c j = σ.1 c j) → τ.2 = σ.2 → mv_wf X (mv_wp X (d + 4)) m_WM_back (fun r1 σ1 => ∃ v, r1 = some (.int v) ∧ mv_wp X (d + 5) 236 [.ref 61] σ1 (fun r2 σ2 => r2 = some (.int v) ∧ mu_P σ σ2)) 12 [.ref 0, .int (nI i)] [] τ := by
    intro k
    induction k with
    | zero =>
      intro i τ hi h1 h2 h3 h4
      obtain rfl : i = n := by omega
      have c2 : τ.1 0 11 = nI i := (h3 _ _ (Or.inl rfl)).trans b2
      have c3 : τ.1 61 3 = nI i := (h3 _ _ (Or.inr (Or.inl rfl))).trans b5
      have c4 : τ.1 61 4 = 1 := (h3 _ _ (Or.inr (Or.inl rfl))).trans b3
      refine h_WM_back_12 ?_
      rw [c2, mv_rd]
      repeat (first
          | (refine And.intro (show mv_sh _ = _ from rfl) ?_)
          | (refine And.intro (show mv_sh _ = _ by assumption) ?_)
          | (refine And.intro (show _ ≤ mv_sh _ from Nat.le_of_ble_eq_true rfl) ?_)
          | (refine And.intro (show _ ≤ mv_sh _ ∧ vp_in _ _ from ⟨Nat.le_of_ble_eq_true rfl, by (first | (simp (disch := omega) only [ln_1, ln_2, ln_62, ln_63, not_true_eq_false, not_false_eq_true, Classical.not_not, ofn, b_z, b_nz, b_z', b_nz', mv_rd, mv_rn, mv_ld, mv_ln_, lit, nI_add, pk_mul, nI_clamp]; exact vp_in_nI (by omega) (by omega)) | (exact vp_in_nI (by omega) (by omega)))⟩) ?_)
          | (refine And.intro (show (_ : Int32) = 0 ∨ (_ : Int32) = 1 from by first | exact Or.inl rfl | exact Or.inr rfl | exact bI_01 _) ?_)
          | (refine And.intro (show mv_sh _ = _ ∧ vp_in _ _ from ⟨rfl, by (first | (simp (disch := omega) only [ln_1, ln_2, ln_62, ln_63, not_true_eq_false, not_false_eq_true, Classical.not_not, ofn, b_z, b_nz, b_z', b_nz', mv_rd, mv_rn, mv_ld, mv_ln_, lit, nI_add, pk_mul, nI_clamp]; exact vp_in_nI (by omega) (by omega)) | (exact vp_in_nI (by omega) (by omega)))⟩) ?_)
          | (refine And.intro (show mv_sh _ = _ ∧ vp_in _ _ from ⟨by assumption, by (first | (simp (disch := omega) only [ln_1, ln_2, ln_62, ln_63, not_true_eq_false, not_false_eq_true, Classical.not_not, ofn, b_z, b_nz, b_z', b_nz', mv_rd, mv_rn, mv_ld, mv_ln_, lit, nI_add, pk_mul, nI_clamp]; exact vp_in_nI (by omega) (by omega)) | (exact vp_in_nI (by omega) (by omega)))⟩) ?_)
          | (refine And.intro (show ¬ (_ : Int32) = 0 by decide) ?_)
          | (refine ⟨_, rfl, ?_⟩)
          | (refine And.intro (show (none : Option Value) = none from rfl) ?_)
          | (refine Or.inl ⟨rfl, ?_⟩)
          | (refine Or.inr ⟨_, rfl, ?_⟩)
          | (refine dt (by (first | assumption | omega | ((try simp (disch := omega) only [not_true_eq_false, not_false_eq_true, Classical.not_not, ofn, b_z, b_nz, b_z', b_nz', mv_rd, mv_rn, mv_ld, mv_ln_, lit, nI_add, pk_mul, nI_clamp]); (try simp (disch := omega) only [fa_lt, fa_le, fa_eq, nI_toInt, pk_sub_toInt, nI_m1, nI_m1', not_false_eq_true, true_and, and_true]); first | done | omega))) ?_)
          | (refine df (by (first | assumption | omega | ((try simp (disch := omega) only [not_true_eq_false, not_false_eq_true, Classical.not_not, ofn, b_z, b_nz, b_z', b_nz', mv_rd, mv_rn, mv_ld, mv_ln_, lit, nI_add, pk_mul, nI_clamp]); (try simp (disch := omega) only [fa_lt, fa_le, fa_eq, nI_toInt, pk_sub_toInt, nI_m1, nI_m1', not_false_eq_true, true_and, and_true]); first | done | omega))) ?_)
          | (refine dt' (by (first | assumption | omega | ((try simp (disch := omega) only [not_true_eq_false, not_false_eq_true, Classical.not_not, ofn, b_z, b_nz, b_z', b_nz', mv_rd, mv_rn, mv_ld, mv_ln_, lit, nI_add, pk_mul, nI_clamp]); (try simp (disch := omega) only [fa_lt, fa_le, fa_eq, nI_toInt, pk_sub_toInt, nI_m1, nI_m1', not_false_eq_true, true_and, and_true]); first | done | omega))) ?_)
          | (refine df' (by (first | assumption | omega | ((try simp (disch := omega) only [not_true_eq_false, not_false_eq_true, Classical.not_not, ofn, b_z, b_nz, b_z', b_nz', mv_rd, mv_rn, mv_ld, mv_ln_, lit, nI_add, pk_mul, nI_clamp]); (try simp (disch := omega) only [fa_lt, fa_le, fa_eq, nI_toInt, pk_sub_toInt, nI_m1, nI_m1', not_false_eq_true, true_and, and_true]); first | done | omega))) ?_)
          )
      refine (w_Ref_back _ _ _ _).mpr ⟨rfl, fun _ => ⟨rfl, rfl, ⟨rfl, rfl, by decide, by decide, by decide, by decide, by decide, fun i hi => rfl⟩, rfl, rfl, rfl, rfl, ?_⟩, fun z => absurd ((mv_rn (by omega)).symm.trans z) (by rw [c4]; decide)⟩
      have e0 : (0 : Int32).toNatClampNeg = 0 := by decide
      have e1 : (45 : Int32).toNatClampNeg = 45 := by decide
      rw [e0, e1]
      dsimp only
      rw [if_neg (by decide)]
      have o : ∀ c j, ¬ c = 0 → ¬ c = 61 → ¬ c = 62 → (mv_pi (mv_pi (fun c' k => if c' = 62 then va_cpy ((mv_pi τ 0 10 (nI i)).1 63) ((mv_pi τ 0 10 (nI i)).1 62) 0 0 45 k else (mv_pi τ 0 10 (nI i)).1 c' k, (mv_pi τ 0 10 (nI i)).2) 61 1 ((mv_pi τ 0 10 (nI i)).1 61 3)) 61 23 (-1)).1 c j = τ.1 c j := fun c j q1 q2 q3 => by
        rw [mv_rn (by omega), mv_rn (by omega)]; dsimp only; rw [if_neg q3, mv_rn (by omega)]
      refine ⟨by rw [mv_rn (by omega), mv_rd, mv_rn (by omega), c3], Or.inr ⟨⟨i, Ms, b1, ?_, ?_, fun l hl => ⟨(b4 l hl).1, ?_, ?_⟩⟩, mv_rd, fun c j hc => ?_, h4⟩⟩
      · rw [mv_rn (by omega), mv_rn (by omega)]; dsimp only; rw [if_neg (by decide), mv_rd]
      · rw [mv_rn (by omega), mv_rd, mv_rn (by omega), c3]
      · have := h1 l hl
        exact ⟨(o _ _ (by omega) (by omega) (by omega)).trans this.1, (o _ _ (by omega) (by omega) (by omega)).trans this.2.1, (o _ _ (by omega) (by omega) (by omega)).trans this.2.2.1, fun j hj => (o _ _ (by omega) (by omega) (by omega)).trans (this.2.2.2 j hj)⟩
      · refine rf_cp (by omega) (b4 l hl).2.2 fun j hj => ?_
        rw [mv_rn (by omega), mv_rn (by omega)]; dsimp only
        rw [if_pos rfl, sb_cpy0 hj, mv_rn (by omega)]
        exact h2 _ _ (by unfold tm_M; omega)
      · have hc' := hc
        unfold tm_M at hc'
        rw [mv_rn (by omega), mv_rn (by omega)]; dsimp only
        rw [if_neg (by omega), mv_rn (by omega)]
        exact h2 c j hc
    | succ k ih =>
      intro i τ hi h1 h2 h3 h4
      have c2 : τ.1 0 11 = nI n := (h3 _ _ (Or.inl rfl)).trans b2
      have t1 := mc_kept i (by omega)
      have t2 := mc_now i (by omega)
      refine h_WM_back_12 ?_
      rw [nI_clamp (by omega), t1.2, t2.2]
      have hs := t2.1.1
      repeat (first
          | (refine And.intro (show mv_sh _ = _ from rfl) ?_)
          | (refine And.intro (show mv_sh _ = _ by assumption) ?_)
          | (refine And.intro (show _ ≤ mv_sh _ from Nat.le_of_ble_eq_true rfl) ?_)
          | (refine And.intro (show _ ≤ mv_sh _ ∧ vp_in _ _ from ⟨Nat.le_of_ble_eq_true rfl, by (first | (simp (disch := omega) only [ln_1, ln_2, ln_62, ln_63, not_true_eq_false, not_false_eq_true, Classical.not_not, ofn, b_z, b_nz, b_z', b_nz', mv_rd, mv_rn, mv_ld, mv_ln_, lit, nI_add, pk_mul, nI_clamp, c2]; exact vp_in_nI (by omega) (by omega)) | (exact vp_in_nI (by omega) (by omega)))⟩) ?_)
          | (refine And.intro (show (_ : Int32) = 0 ∨ (_ : Int32) = 1 from by first | exact Or.inl rfl | exact Or.inr rfl | exact bI_01 _) ?_)
          | (refine And.intro (show mv_sh _ = _ ∧ vp_in _ _ from ⟨rfl, by (first | (simp (disch := omega) only [ln_1, ln_2, ln_62, ln_63, not_true_eq_false, not_false_eq_true, Classical.not_not, ofn, b_z, b_nz, b_z', b_nz', mv_rd, mv_rn, mv_ld, mv_ln_, lit, nI_add, pk_mul, nI_clamp, c2]; exact vp_in_nI (by omega) (by omega)) | (exact vp_in_nI (by omega) (by omega)))⟩) ?_)
          | (refine And.intro (show mv_sh _ = _ ∧ vp_in _ _ from ⟨by assumption, by (first | (simp (disch := omega) only [ln_1, ln_2, ln_62, ln_63, not_true_eq_false, not_false_eq_true, Classical.not_not, ofn, b_z, b_nz, b_z', b_nz', mv_rd, mv_rn, mv_ld, mv_ln_, lit, nI_add, pk_mul, nI_clamp, c2]; exact vp_in_nI (by omega) (by omega)) | (exact vp_in_nI (by omega) (by omega)))⟩) ?_)
          | (refine And.intro (show ¬ (_ : Int32) = 0 by decide) ?_)
          | (refine ⟨_, rfl, ?_⟩)
          | (refine And.intro (show (none : Option Value) = none from rfl) ?_)
          | (refine Or.inl ⟨rfl, ?_⟩)
          | (refine Or.inr ⟨_, rfl, ?_⟩)
          | (refine dt (by (first | assumption | omega | ((try simp (disch := omega) only [not_true_eq_false, not_false_eq_true, Classical.not_not, ofn, b_z, b_nz, b_z', b_nz', mv_rd, mv_rn, mv_ld, mv_ln_, lit, nI_add, pk_mul, nI_clamp, c2]); (try simp (disch := omega) only [fa_lt, fa_le, fa_eq, nI_toInt, pk_sub_toInt, nI_m1, nI_m1', not_false_eq_true, true_and, and_true, c2]); first | done | omega))) ?_)
          | (refine df (by (first | assumption | omega | ((try simp (disch := omega) only [not_true_eq_false, not_false_eq_true, Classical.not_not, ofn, b_z, b_nz, b_z', b_nz', mv_rd, mv_rn, mv_ld, mv_ln_, lit, nI_add, pk_mul, nI_clamp, c2]); (try simp (disch := omega) only [fa_lt, fa_le, fa_eq, nI_toInt, pk_sub_toInt, nI_m1, nI_m1', not_false_eq_true, true_and, and_true, c2]); first | done | omega))) ?_)
          | (refine dt' (by (first | assumption | omega | ((try simp (disch := omega) only [not_true_eq_false, not_false_eq_true, Classical.not_not, ofn, b_z, b_nz, b_z', b_nz', mv_rd, mv_rn, mv_ld, mv_ln_, lit, nI_add, pk_mul, nI_clamp, c2]); (try simp (disch := omega) only [fa_lt, fa_le, fa_eq, nI_toInt, pk_sub_toInt, nI_m1, nI_m1', not_false_eq_true, true_and, and_true, c2]); first | done | omega))) ?_)
          | (refine df' (by (first | assumption | omega | ((try simp (disch := omega) only [not_true_eq_false, not_false_eq_true, Classical.not_not, ofn, b_z, b_nz, b_z', b_nz', mv_rd, mv_rn, mv_ld, mv_ln_, lit, nI_add, pk_mul, nI_clamp, c2]); (try simp (disch := omega) only [fa_lt, fa_le, fa_eq, nI_toInt, pk_sub_toInt, nI_m1, nI_m1', not_false_eq_true, true_and, and_true, c2]); first | done | omega))) ?_)
          )
      refine s_become t2.1 t1.1 (by omega) (by omega) (by omega) fun υ u1 u2 u3 u4 => ⟨rfl, ?_⟩
      rw [nI_1]
      refine ih (i + 1) υ (by omega) (fun l hl => ?_) (fun c j hc => ?_) (fun c j hc => ?_) (u4.trans h4)
      · by_cases e : l = i
        · subst e
          refine cl_cp ?_ u1 u2
          have := (b4 l (by omega)).2.1
          have o : ∀ c j, c = 35 + 4 * l ∨ c = 35 + 4 * l + 1 → τ.1 c j = σ.1 c j := fun c j hc => h2 _ _ (by unfold tm_M; omega)
          exact ⟨(o _ _ (Or.inl rfl)).trans this.1, (o _ _ (Or.inl rfl)).trans this.2.1, (o _ _ (Or.inl rfl)).trans this.2.2.1, fun j hj => (o _ _ (Or.inr rfl)).trans (this.2.2.2 j hj)⟩
        · have := h1 l (by omega)
          exact ⟨(u3 _ _ (by omega) (by omega)).trans this.1, (u3 _ _ (by omega) (by omega)).trans this.2.1, (u3 _ _ (by omega) (by omega)).trans this.2.2.1, fun j hj => (u3 _ _ (by omega) (by omega)).trans (this.2.2.2 j hj)⟩
      · have hc' := hc
        unfold tm_M at hc'
        rw [u3 _ _ (by omega) (by omega)]; exact h2 c j hc
      · rw [u3 _ _ (by omega) (by omega)]; exact h3 c j hc
  refine w_WM_back ?_
  repeat (first
      | (refine And.intro (show mv_sh _ = _ from rfl) ?_)
      | (refine And.intro (show mv_sh _ = _ by assumption) ?_)
      | (refine And.intro (show _ ≤ mv_sh _ from Nat.le_of_ble_eq_true rfl) ?_)
      | (refine And.intro (show _ ≤ mv_sh _ ∧ vp_in _ _ from ⟨Nat.le_of_ble_eq_true rfl, by (first | (simp (disch := omega) only [ln_1, ln_2, ln_62, ln_63, not_true_eq_false, not_false_eq_true, Classical.not_not, ofn, b_z, b_nz, b_z', b_nz', mv_rd, mv_rn, mv_ld, mv_ln_, lit, nI_add, pk_mul, nI_clamp, b2]; exact vp_in_nI (by omega) (by omega)) | (exact vp_in_nI (by omega) (by omega)))⟩) ?_)
      | (refine And.intro (show (_ : Int32) = 0 ∨ (_ : Int32) = 1 from by first | exact Or.inl rfl | exact Or.inr rfl | exact bI_01 _) ?_)
      | (refine And.intro (show mv_sh _ = _ ∧ vp_in _ _ from ⟨rfl, by (first | (simp (disch := omega) only [ln_1, ln_2, ln_62, ln_63, not_true_eq_false, not_false_eq_true, Classical.not_not, ofn, b_z, b_nz, b_z', b_nz', mv_rd, mv_rn, mv_ld, mv_ln_, lit, nI_add, pk_mul, nI_clamp, b2]; exact vp_in_nI (by omega) (by omega)) | (exact vp_in_nI (by omega) (by omega)))⟩) ?_)
      | (refine And.intro (show mv_sh _ = _ ∧ vp_in _ _ from ⟨by assumption, by (first | (simp (disch := omega) only [ln_1, ln_2, ln_62, ln_63, not_true_eq_false, not_false_eq_true, Classical.not_not, ofn, b_z, b_nz, b_z', b_nz', mv_rd, mv_rn, mv_ld, mv_ln_, lit, nI_add, pk_mul, nI_clamp, b2]; exact vp_in_nI (by omega) (by omega)) | (exact vp_in_nI (by omega) (by omega)))⟩) ?_)
      | (refine And.intro (show ¬ (_ : Int32) = 0 by decide) ?_)
      | (refine ⟨_, rfl, ?_⟩)
      | (refine And.intro (show (none : Option Value) = none from rfl) ?_)
      | (refine Or.inl ⟨rfl, ?_⟩)
      | (refine Or.inr ⟨_, rfl, ?_⟩)
      | (refine dt (by (first | assumption | omega | ((try simp (disch := omega) only [not_true_eq_false, not_false_eq_true, Classical.not_not, ofn, b_z, b_nz, b_z', b_nz', mv_rd, mv_rn, mv_ld, mv_ln_, lit, nI_add, pk_mul, nI_clamp, b2]); (try simp (disch := omega) only [fa_lt, fa_le, fa_eq, nI_toInt, pk_sub_toInt, nI_m1, nI_m1', not_false_eq_true, true_and, and_true, b2]); first | done | omega))) ?_)
      | (refine df (by (first | assumption | omega | ((try simp (disch := omega) only [not_true_eq_false, not_false_eq_true, Classical.not_not, ofn, b_z, b_nz, b_z', b_nz', mv_rd, mv_rn, mv_ld, mv_ln_, lit, nI_add, pk_mul, nI_clamp, b2]); (try simp (disch := omega) only [fa_lt, fa_le, fa_eq, nI_toInt, pk_sub_toInt, nI_m1, nI_m1', not_false_eq_true, true_and, and_true, b2]); first | done | omega))) ?_)
      | (refine dt' (by (first | assumption | omega | ((try simp (disch := omega) only [not_true_eq_false, not_false_eq_true, Classical.not_not, ofn, b_z, b_nz, b_z', b_nz', mv_rd, mv_rn, mv_ld, mv_ln_, lit, nI_add, pk_mul, nI_clamp, b2]); (try simp (disch := omega) only [fa_lt, fa_le, fa_eq, nI_toInt, pk_sub_toInt, nI_m1, nI_m1', not_false_eq_true, true_and, and_true, b2]); first | done | omega))) ?_)
      | (refine df' (by (first | assumption | omega | ((try simp (disch := omega) only [not_true_eq_false, not_false_eq_true, Classical.not_not, ofn, b_z, b_nz, b_z', b_nz', mv_rd, mv_rn, mv_ld, mv_ln_, lit, nI_add, pk_mul, nI_clamp, b2]); (try simp (disch := omega) only [fa_lt, fa_le, fa_eq, nI_toInt, pk_sub_toInt, nI_m1, nI_m1', not_false_eq_true, true_and, and_true, b2]); first | done | omega))) ?_)
      )
  exact loop n 0 σ (by omega) (fun l hl => absurd hl (by omega)) (fun _ _ _ => rfl) (fun _ _ _ => rfl) rfl
end IMAGE
