/-! ===== why, count, image, back ===== -/
def iv_W (r : Nat) (σ : mv_S) : Prop := r ≤ 8 ∧ σ.1 5 7 = nI r ∧ σ.1 61 51 = nI r ∧ ∀ j, j < r → σ.1 9 j = σ.1 91 j
/-- the kept machines -/
def iv_K (σ : mv_S) : Prop := (σ.1 0 11 = -1 ∧ σ.1 61 4 = 0) ∨ ∃ (n : Nat) (Ms : Nat → md_T), n ≤ 3 ∧ σ.1 0 11 = nI n ∧ σ.1 61 4 = 1 ∧ σ.1 61 3 = nI n ∧ ∀ k, k < n → md_ok (Ms k) ∧ cl_M σ (35 + 4 * k) (Ms k) ∧ rf_M σ 63 k (Ms k)
def tm_K (c j : Nat) : Prop := (c = 0 ∧ j = 11) ∨ (c = 61 ∧ (j = 3 ∨ j = 4)) ∨ c = 63 ∨ c = 35 ∨ c = 36 ∨ c = 39 ∨ c = 40 ∨ c = 43 ∨ c = 44
def mk_P (σ σ2 : mv_S) : Prop := iv_K σ2 ∧ (∀ c j, ¬ tm_K c j → σ2.1 c j = σ.1 c j) ∧ σ2.2 = σ.2
section HOST
variable {X : mv_X} {d : Nat} {σ : mv_S} {Q : mv_Q}
theorem op_why {a1 : Int32} {r : Nat} (h : iv_W r σ) : lw_op X (d + 5) (fun σ2 => σ2 = σ) 119 222 [.int a1] σ := by
  unfold lw_op
  obtain ⟨h1, h2, h3, h4⟩ := h
  refine (w_WM_why _ _ _ _ _).mpr ?_
  by_cases g1 : a1.toInt < -1
  · repeat (first
        | (refine And.intro (show mv_sh _ = _ from rfl) ?_)
        | (refine And.intro (show mv_sh _ = _ by assumption) ?_)
        | (refine And.intro (show _ ≤ mv_sh _ from Nat.le_of_ble_eq_true rfl) ?_)
        | (refine And.intro (show _ ≤ mv_sh _ ∧ vp_in _ _ from ⟨Nat.le_of_ble_eq_true rfl, by (first | (simp (disch := omega) only [ln_1, ln_9, ln_62, ln_91, not_true_eq_false, not_false_eq_true, Classical.not_not, ofn, b_z, b_nz, b_z', b_nz', mv_rd, mv_rn, mv_ld, mv_ln_, lit, nI_add, pk_mul, nI_clamp]; exact vp_in_nI (by omega) (by omega)) | (exact vp_in_nI (by omega) (by omega)))⟩) ?_)
        | (refine And.intro (show (_ : Int32) = 0 ∨ (_ : Int32) = 1 from by first | exact Or.inl rfl | exact Or.inr rfl | exact bI_01 _) ?_)
        | (refine And.intro (show mv_sh _ = _ ∧ vp_in _ _ from ⟨rfl, by (first | (simp (disch := omega) only [ln_1, ln_9, ln_62, ln_91, not_true_eq_false, not_false_eq_true, Classical.not_not, ofn, b_z, b_nz, b_z', b_nz', mv_rd, mv_rn, mv_ld, mv_ln_, lit, nI_add, pk_mul, nI_clamp]; exact vp_in_nI (by omega) (by omega)) | (exact vp_in_nI (by omega) (by omega)))⟩) ?_)
        | (refine And.intro (show mv_sh _ = _ ∧ vp_in _ _ from ⟨by assumption, by (first | (simp (disch := omega) only [ln_1, ln_9, ln_62, ln_91, not_true_eq_false, not_false_eq_true, Classical.not_not, ofn, b_z, b_nz, b_z', b_nz', mv_rd, mv_rn, mv_ld, mv_ln_, lit, nI_add, pk_mul, nI_clamp]; exact vp_in_nI (by omega) (by omega)) | (exact vp_in_nI (by omega) (by omega)))⟩) ?_)
        | (refine And.intro (show ¬ (_ : Int32) = 0 by decide) ?_)
        | (refine ⟨_, rfl, ?_⟩)
        | (refine And.intro (show (none : Option Value) = none from rfl) ?_)
        | (refine Or.inl ⟨rfl, ?_⟩)
        | (refine Or.inr ⟨_, rfl, ?_⟩)
        | (refine dt (by (first | assumption | omega | ((try simp (disch := omega) only [not_true_eq_false, not_false_eq_true, Classical.not_not, ofn, b_z, b_nz, b_z', b_nz', mv_rd, mv_rn, mv_ld, mv_ln_, lit, nI_add, pk_mul, nI_clamp]); (try simp (disch := omega) only [fa_lt, fa_le, fa_eq, nI_toInt, pk_sub_toInt, nI_m1, nI_m1', not_false_eq_true, true_and, and_true]); first | done | omega))) ?_)
        | (refine df (by (first | assumption | omega | ((try simp (disch := omega) only [not_true_eq_false, not_false_eq_true, Classical.not_not, ofn, b_z, b_nz, b_z', b_nz', mv_rd, mv_rn, mv_ld, mv_ln_, lit, nI_add, pk_mul, nI_clamp]); (try simp (disch := omega) only [fa_lt, fa_le, fa_eq, nI_toInt, pk_sub_toInt, nI_m1, nI_m1', not_false_eq_true, true_and, and_true]); first | done | omega))) ?_)
        | (refine dt' (by (first | assumption | omega | ((try simp (disch := omega) only [not_true_eq_false, not_false_eq_true, Classical.not_not, ofn, b_z, b_nz, b_z', b_nz', mv_rd, mv_rn, mv_ld, mv_ln_, lit, nI_add, pk_mul, nI_clamp]); (try simp (disch := omega) only [fa_lt, fa_le, fa_eq, nI_toInt, pk_sub_toInt, nI_m1, nI_m1', not_false_eq_true, true_and, and_true]); first | done | omega))) ?_)
        | (refine df' (by (first | assumption | omega | ((try simp (disch := omega) only [not_true_eq_false, not_false_eq_true, Classical.not_not, ofn, b_z, b_nz, b_z', b_nz', mv_rd, mv_rn, mv_ld, mv_ln_, lit, nI_add, pk_mul, nI_clamp]); (try simp (disch := omega) only [fa_lt, fa_le, fa_eq, nI_toInt, pk_sub_toInt, nI_m1, nI_m1', not_false_eq_true, true_and, and_true]); first | done | omega))) ?_)
        )
    refine (w_Ref_why _ _ _ _ _).mpr ?_
    repeat (first
        | (refine And.intro (show mv_sh _ = _ from rfl) ?_)
        | (refine And.intro (show mv_sh _ = _ by assumption) ?_)
        | (refine And.intro (show _ ≤ mv_sh _ from Nat.le_of_ble_eq_true rfl) ?_)
        | (refine And.intro (show _ ≤ mv_sh _ ∧ vp_in _ _ from ⟨Nat.le_of_ble_eq_true rfl, by (first | (simp (disch := omega) only [ln_1, ln_9, ln_62, ln_91, not_true_eq_false, not_false_eq_true, Classical.not_not, ofn, b_z, b_nz, b_z', b_nz', mv_rd, mv_rn, mv_ld, mv_ln_, lit, nI_add, pk_mul, nI_clamp]; exact vp_in_nI (by omega) (by omega)) | (exact vp_in_nI (by omega) (by omega)))⟩) ?_)
        | (refine And.intro (show (_ : Int32) = 0 ∨ (_ : Int32) = 1 from by first | exact Or.inl rfl | exact Or.inr rfl | exact bI_01 _) ?_)
        | (refine And.intro (show mv_sh _ = _ ∧ vp_in _ _ from ⟨rfl, by (first | (simp (disch := omega) only [ln_1, ln_9, ln_62, ln_91, not_true_eq_false, not_false_eq_true, Classical.not_not, ofn, b_z, b_nz, b_z', b_nz', mv_rd, mv_rn, mv_ld, mv_ln_, lit, nI_add, pk_mul, nI_clamp]; exact vp_in_nI (by omega) (by omega)) | (exact vp_in_nI (by omega) (by omega)))⟩) ?_)
        | (refine And.intro (show mv_sh _ = _ ∧ vp_in _ _ from ⟨by assumption, by (first | (simp (disch := omega) only [ln_1, ln_9, ln_62, ln_91, not_true_eq_false, not_false_eq_true, Classical.not_not, ofn, b_z, b_nz, b_z', b_nz', mv_rd, mv_rn, mv_ld, mv_ln_, lit, nI_add, pk_mul, nI_clamp]; exact vp_in_nI (by omega) (by omega)) | (exact vp_in_nI (by omega) (by omega)))⟩) ?_)
        | (refine And.intro (show ¬ (_ : Int32) = 0 by decide) ?_)
        | (refine ⟨_, rfl, ?_⟩)
        | (refine And.intro (show (none : Option Value) = none from rfl) ?_)
        | (refine Or.inl ⟨rfl, ?_⟩)
        | (refine Or.inr ⟨_, rfl, ?_⟩)
        | (refine dt (by (first | assumption | omega | ((try simp (disch := omega) only [not_true_eq_false, not_false_eq_true, Classical.not_not, ofn, b_z, b_nz, b_z', b_nz', mv_rd, mv_rn, mv_ld, mv_ln_, lit, nI_add, pk_mul, nI_clamp]); (try simp (disch := omega) only [fa_lt, fa_le, fa_eq, nI_toInt, pk_sub_toInt, nI_m1, nI_m1', not_false_eq_true, true_and, and_true]); first | done | omega))) ?_)
        | (refine df (by (first | assumption | omega | ((try simp (disch := omega) only [not_true_eq_false, not_false_eq_true, Classical.not_not, ofn, b_z, b_nz, b_z', b_nz', mv_rd, mv_rn, mv_ld, mv_ln_, lit, nI_add, pk_mul, nI_clamp]); (try simp (disch := omega) only [fa_lt, fa_le, fa_eq, nI_toInt, pk_sub_toInt, nI_m1, nI_m1', not_false_eq_true, true_and, and_true]); first | done | omega))) ?_)
        | (refine dt' (by (first | assumption | omega | ((try simp (disch := omega) only [not_true_eq_false, not_false_eq_true, Classical.not_not, ofn, b_z, b_nz, b_z', b_nz', mv_rd, mv_rn, mv_ld, mv_ln_, lit, nI_add, pk_mul, nI_clamp]); (try simp (disch := omega) only [fa_lt, fa_le, fa_eq, nI_toInt, pk_sub_toInt, nI_m1, nI_m1', not_false_eq_true, true_and, and_true]); first | done | omega))) ?_)
        | (refine df' (by (first | assumption | omega | ((try simp (disch := omega) only [not_true_eq_false, not_false_eq_true, Classical.not_not, ofn, b_z, b_nz, b_z', b_nz', mv_rd, mv_rn, mv_ld, mv_ln_, lit, nI_add, pk_mul, nI_clamp]); (try simp (disch := omega) only [fa_lt, fa_le, fa_eq, nI_toInt, pk_sub_toInt, nI_m1, nI_m1', not_false_eq_true, true_and, and_true]); first | done | omega))) ?_)
        )
    exact ⟨rfl, rfl⟩
  by_cases g2 : a1.toInt = -1
  · have g3 : a1 = -1 := (fa_eq _ _).mpr (by rw [nI_m1]; exact g2)
    repeat (first
        | (refine And.intro (show mv_sh _ = _ from rfl) ?_)
        | (refine And.intro (show mv_sh _ = _ by assumption) ?_)
        | (refine And.intro (show _ ≤ mv_sh _ from Nat.le_of_ble_eq_true rfl) ?_)
        | (refine And.intro (show _ ≤ mv_sh _ ∧ vp_in _ _ from ⟨Nat.le_of_ble_eq_true rfl, by (first | (simp (disch := omega) only [ln_1, ln_9, ln_62, ln_91, not_true_eq_false, not_false_eq_true, Classical.not_not, ofn, b_z, b_nz, b_z', b_nz', mv_rd, mv_rn, mv_ld, mv_ln_, lit, nI_add, pk_mul, nI_clamp]; exact vp_in_nI (by omega) (by omega)) | (exact vp_in_nI (by omega) (by omega)))⟩) ?_)
        | (refine And.intro (show (_ : Int32) = 0 ∨ (_ : Int32) = 1 from by first | exact Or.inl rfl | exact Or.inr rfl | exact bI_01 _) ?_)
        | (refine And.intro (show mv_sh _ = _ ∧ vp_in _ _ from ⟨rfl, by (first | (simp (disch := omega) only [ln_1, ln_9, ln_62, ln_91, not_true_eq_false, not_false_eq_true, Classical.not_not, ofn, b_z, b_nz, b_z', b_nz', mv_rd, mv_rn, mv_ld, mv_ln_, lit, nI_add, pk_mul, nI_clamp]; exact vp_in_nI (by omega) (by omega)) | (exact vp_in_nI (by omega) (by omega)))⟩) ?_)
        | (refine And.intro (show mv_sh _ = _ ∧ vp_in _ _ from ⟨by assumption, by (first | (simp (disch := omega) only [ln_1, ln_9, ln_62, ln_91, not_true_eq_false, not_false_eq_true, Classical.not_not, ofn, b_z, b_nz, b_z', b_nz', mv_rd, mv_rn, mv_ld, mv_ln_, lit, nI_add, pk_mul, nI_clamp]; exact vp_in_nI (by omega) (by omega)) | (exact vp_in_nI (by omega) (by omega)))⟩) ?_)
        | (refine And.intro (show ¬ (_ : Int32) = 0 by decide) ?_)
        | (refine ⟨_, rfl, ?_⟩)
        | (refine And.intro (show (none : Option Value) = none from rfl) ?_)
        | (refine Or.inl ⟨rfl, ?_⟩)
        | (refine Or.inr ⟨_, rfl, ?_⟩)
        | (refine dt (by (first | assumption | omega | ((try simp (disch := omega) only [not_true_eq_false, not_false_eq_true, Classical.not_not, ofn, b_z, b_nz, b_z', b_nz', mv_rd, mv_rn, mv_ld, mv_ln_, lit, nI_add, pk_mul, nI_clamp]); (try simp (disch := omega) only [fa_lt, fa_le, fa_eq, nI_toInt, pk_sub_toInt, nI_m1, nI_m1', not_false_eq_true, true_and, and_true]); first | done | omega))) ?_)
        | (refine df (by (first | assumption | omega | ((try simp (disch := omega) only [not_true_eq_false, not_false_eq_true, Classical.not_not, ofn, b_z, b_nz, b_z', b_nz', mv_rd, mv_rn, mv_ld, mv_ln_, lit, nI_add, pk_mul, nI_clamp]); (try simp (disch := omega) only [fa_lt, fa_le, fa_eq, nI_toInt, pk_sub_toInt, nI_m1, nI_m1', not_false_eq_true, true_and, and_true]); first | done | omega))) ?_)
        | (refine dt' (by (first | assumption | omega | ((try simp (disch := omega) only [not_true_eq_false, not_false_eq_true, Classical.not_not, ofn, b_z, b_nz, b_z', b_nz', mv_rd, mv_rn, mv_ld, mv_ln_, lit, nI_add, pk_mul, nI_clamp]); (try simp (disch := omega) only [fa_lt, fa_le, fa_eq, nI_toInt, pk_sub_toInt, nI_m1, nI_m1', not_false_eq_true, true_and, and_true]); first | done | omega))) ?_)
        | (refine df' (by (first | assumption | omega | ((try simp (disch := omega) only [not_true_eq_false, not_false_eq_true, Classical.not_not, ofn, b_z, b_nz, b_z', b_nz', mv_rd, mv_rn, mv_ld, mv_ln_, lit, nI_add, pk_mul, nI_clamp]); (try simp (disch := omega) only [fa_lt, fa_le, fa_eq, nI_toInt, pk_sub_toInt, nI_m1, nI_m1', not_false_eq_true, true_and, and_true]); first | done | omega))) ?_)
        )
    refine (w_Ref_why _ _ _ _ _).mpr ?_
    repeat (first
        | (refine And.intro (show mv_sh _ = _ from rfl) ?_)
        | (refine And.intro (show mv_sh _ = _ by assumption) ?_)
        | (refine And.intro (show _ ≤ mv_sh _ from Nat.le_of_ble_eq_true rfl) ?_)
        | (refine And.intro (show _ ≤ mv_sh _ ∧ vp_in _ _ from ⟨Nat.le_of_ble_eq_true rfl, by (first | (simp (disch := omega) only [ln_1, ln_9, ln_62, ln_91, not_true_eq_false, not_false_eq_true, Classical.not_not, ofn, b_z, b_nz, b_z', b_nz', mv_rd, mv_rn, mv_ld, mv_ln_, lit, nI_add, pk_mul, nI_clamp]; exact vp_in_nI (by omega) (by omega)) | (exact vp_in_nI (by omega) (by omega)))⟩) ?_)
        | (refine And.intro (show (_ : Int32) = 0 ∨ (_ : Int32) = 1 from by first | exact Or.inl rfl | exact Or.inr rfl | exact bI_01 _) ?_)
        | (refine And.intro (show mv_sh _ = _ ∧ vp_in _ _ from ⟨rfl, by (first | (simp (disch := omega) only [ln_1, ln_9, ln_62, ln_91, not_true_eq_false, not_false_eq_true, Classical.not_not, ofn, b_z, b_nz, b_z', b_nz', mv_rd, mv_rn, mv_ld, mv_ln_, lit, nI_add, pk_mul, nI_clamp]; exact vp_in_nI (by omega) (by omega)) | (exact vp_in_nI (by omega) (by omega)))⟩) ?_)
        | (refine And.intro (show mv_sh _ = _ ∧ vp_in _ _ from ⟨by assumption, by (first | (simp (disch := omega) only [ln_1, ln_9, ln_62, ln_91, not_true_eq_false, not_false_eq_true, Classical.not_not, ofn, b_z, b_nz, b_z', b_nz', mv_rd, mv_rn, mv_ld, mv_ln_, lit, nI_add, pk_mul, nI_clamp]; exact vp_in_nI (by omega) (by omega)) | (exact vp_in_nI (by omega) (by omega)))⟩) ?_)
        | (refine And.intro (show ¬ (_ : Int32) = 0 by decide) ?_)
        | (refine ⟨_, rfl, ?_⟩)
        | (refine And.intro (show (none : Option Value) = none from rfl) ?_)
        | (refine Or.inl ⟨rfl, ?_⟩)
        | (refine Or.inr ⟨_, rfl, ?_⟩)
        | (refine dt (by (first | assumption | omega | ((try simp (disch := omega) only [not_true_eq_false, not_false_eq_true, Classical.not_not, ofn, b_z, b_nz, b_z', b_nz', mv_rd, mv_rn, mv_ld, mv_ln_, lit, nI_add, pk_mul, nI_clamp]); (try simp (disch := omega) only [fa_lt, fa_le, fa_eq, nI_toInt, pk_sub_toInt, nI_m1, nI_m1', not_false_eq_true, true_and, and_true]); first | done | omega))) ?_)
        | (refine df (by (first | assumption | omega | ((try simp (disch := omega) only [not_true_eq_false, not_false_eq_true, Classical.not_not, ofn, b_z, b_nz, b_z', b_nz', mv_rd, mv_rn, mv_ld, mv_ln_, lit, nI_add, pk_mul, nI_clamp]); (try simp (disch := omega) only [fa_lt, fa_le, fa_eq, nI_toInt, pk_sub_toInt, nI_m1, nI_m1', not_false_eq_true, true_and, and_true]); first | done | omega))) ?_)
        | (refine dt' (by (first | assumption | omega | ((try simp (disch := omega) only [not_true_eq_false, not_false_eq_true, Classical.not_not, ofn, b_z, b_nz, b_z', b_nz', mv_rd, mv_rn, mv_ld, mv_ln_, lit, nI_add, pk_mul, nI_clamp]); (try simp (disch := omega) only [fa_lt, fa_le, fa_eq, nI_toInt, pk_sub_toInt, nI_m1, nI_m1', not_false_eq_true, true_and, and_true]); first | done | omega))) ?_)
        | (refine df' (by (first | assumption | omega | ((try simp (disch := omega) only [not_true_eq_false, not_false_eq_true, Classical.not_not, ofn, b_z, b_nz, b_z', b_nz', mv_rd, mv_rn, mv_ld, mv_ln_, lit, nI_add, pk_mul, nI_clamp]); (try simp (disch := omega) only [fa_lt, fa_le, fa_eq, nI_toInt, pk_sub_toInt, nI_m1, nI_m1', not_false_eq_true, true_and, and_true]); first | done | omega))) ?_)
        )
    exact ⟨by rw [h2, h3], rfl⟩
  obtain ⟨k, hk, rfl⟩ := (ix_cs2 a1).resolve_left (by omega)
  by_cases g4 : k < r
  · repeat (first
        | (refine And.intro (show mv_sh _ = _ from rfl) ?_)
        | (refine And.intro (show mv_sh _ = _ by assumption) ?_)
        | (refine And.intro (show _ ≤ mv_sh _ from Nat.le_of_ble_eq_true rfl) ?_)
        | (refine And.intro (show _ ≤ mv_sh _ ∧ vp_in _ _ from ⟨Nat.le_of_ble_eq_true rfl, by (first | (simp (disch := omega) only [ln_1, ln_9, ln_62, ln_91, not_true_eq_false, not_false_eq_true, Classical.not_not, ofn, b_z, b_nz, b_z', b_nz', mv_rd, mv_rn, mv_ld, mv_ln_, lit, nI_add, pk_mul, nI_clamp, h2, nI_toInt, ln_9]; exact vp_in_nI (by omega) (by omega)) | (exact vp_in_nI (by omega) (by omega)))⟩) ?_)
        | (refine And.intro (show (_ : Int32) = 0 ∨ (_ : Int32) = 1 from by first | exact Or.inl rfl | exact Or.inr rfl | exact bI_01 _) ?_)
        | (refine And.intro (show mv_sh _ = _ ∧ vp_in _ _ from ⟨rfl, by (first | (simp (disch := omega) only [ln_1, ln_9, ln_62, ln_91, not_true_eq_false, not_false_eq_true, Classical.not_not, ofn, b_z, b_nz, b_z', b_nz', mv_rd, mv_rn, mv_ld, mv_ln_, lit, nI_add, pk_mul, nI_clamp, h2, nI_toInt, ln_9]; exact vp_in_nI (by omega) (by omega)) | (exact vp_in_nI (by omega) (by omega)))⟩) ?_)
        | (refine And.intro (show mv_sh _ = _ ∧ vp_in _ _ from ⟨by assumption, by (first | (simp (disch := omega) only [ln_1, ln_9, ln_62, ln_91, not_true_eq_false, not_false_eq_true, Classical.not_not, ofn, b_z, b_nz, b_z', b_nz', mv_rd, mv_rn, mv_ld, mv_ln_, lit, nI_add, pk_mul, nI_clamp, h2, nI_toInt, ln_9]; exact vp_in_nI (by omega) (by omega)) | (exact vp_in_nI (by omega) (by omega)))⟩) ?_)
        | (refine And.intro (show ¬ (_ : Int32) = 0 by decide) ?_)
        | (refine ⟨_, rfl, ?_⟩)
        | (refine And.intro (show (none : Option Value) = none from rfl) ?_)
        | (refine Or.inl ⟨rfl, ?_⟩)
        | (refine Or.inr ⟨_, rfl, ?_⟩)
        | (refine dt (by (first | assumption | omega | ((try simp (disch := omega) only [not_true_eq_false, not_false_eq_true, Classical.not_not, ofn, b_z, b_nz, b_z', b_nz', mv_rd, mv_rn, mv_ld, mv_ln_, lit, nI_add, pk_mul, nI_clamp, h2, nI_toInt, ln_9]); (try simp (disch := omega) only [fa_lt, fa_le, fa_eq, nI_toInt, pk_sub_toInt, nI_m1, nI_m1', not_false_eq_true, true_and, and_true, h2, nI_toInt, ln_9]); first | done | omega))) ?_)
        | (refine df (by (first | assumption | omega | ((try simp (disch := omega) only [not_true_eq_false, not_false_eq_true, Classical.not_not, ofn, b_z, b_nz, b_z', b_nz', mv_rd, mv_rn, mv_ld, mv_ln_, lit, nI_add, pk_mul, nI_clamp, h2, nI_toInt, ln_9]); (try simp (disch := omega) only [fa_lt, fa_le, fa_eq, nI_toInt, pk_sub_toInt, nI_m1, nI_m1', not_false_eq_true, true_and, and_true, h2, nI_toInt, ln_9]); first | done | omega))) ?_)
        | (refine dt' (by (first | assumption | omega | ((try simp (disch := omega) only [not_true_eq_false, not_false_eq_true, Classical.not_not, ofn, b_z, b_nz, b_z', b_nz', mv_rd, mv_rn, mv_ld, mv_ln_, lit, nI_add, pk_mul, nI_clamp, h2, nI_toInt, ln_9]); (try simp (disch := omega) only [fa_lt, fa_le, fa_eq, nI_toInt, pk_sub_toInt, nI_m1, nI_m1', not_false_eq_true, true_and, and_true, h2, nI_toInt, ln_9]); first | done | omega))) ?_)
        | (refine df' (by (first | assumption | omega | ((try simp (disch := omega) only [not_true_eq_false, not_false_eq_true, Classical.not_not, ofn, b_z, b_nz, b_z', b_nz', mv_rd, mv_rn, mv_ld, mv_ln_, lit, nI_add, pk_mul, nI_clamp, h2, nI_toInt, ln_9]); (try simp (disch := omega) only [fa_lt, fa_le, fa_eq, nI_toInt, pk_sub_toInt, nI_m1, nI_m1', not_false_eq_true, true_and, and_true, h2, nI_toInt, ln_9]); first | done | omega))) ?_)
        | (refine (w_Reader_causeAt _ _ _ _ _).mpr ?_)
        )
    refine (w_Ref_why _ _ _ _ _).mpr ?_
    repeat (first
        | (refine And.intro (show mv_sh _ = _ from rfl) ?_)
        | (refine And.intro (show mv_sh _ = _ by assumption) ?_)
        | (refine And.intro (show _ ≤ mv_sh _ from Nat.le_of_ble_eq_true rfl) ?_)
        | (refine And.intro (show _ ≤ mv_sh _ ∧ vp_in _ _ from ⟨Nat.le_of_ble_eq_true rfl, by (first | (simp (disch := omega) only [ln_1, ln_9, ln_62, ln_91, not_true_eq_false, not_false_eq_true, Classical.not_not, ofn, b_z, b_nz, b_z', b_nz', mv_rd, mv_rn, mv_ld, mv_ln_, lit, nI_add, pk_mul, nI_clamp, h3, nI_toInt]; exact vp_in_nI (by omega) (by omega)) | (exact vp_in_nI (by omega) (by omega)))⟩) ?_)
        | (refine And.intro (show (_ : Int32) = 0 ∨ (_ : Int32) = 1 from by first | exact Or.inl rfl | exact Or.inr rfl | exact bI_01 _) ?_)
        | (refine And.intro (show mv_sh _ = _ ∧ vp_in _ _ from ⟨rfl, by (first | (simp (disch := omega) only [ln_1, ln_9, ln_62, ln_91, not_true_eq_false, not_false_eq_true, Classical.not_not, ofn, b_z, b_nz, b_z', b_nz', mv_rd, mv_rn, mv_ld, mv_ln_, lit, nI_add, pk_mul, nI_clamp, h3, nI_toInt]; exact vp_in_nI (by omega) (by omega)) | (exact vp_in_nI (by omega) (by omega)))⟩) ?_)
        | (refine And.intro (show mv_sh _ = _ ∧ vp_in _ _ from ⟨by assumption, by (first | (simp (disch := omega) only [ln_1, ln_9, ln_62, ln_91, not_true_eq_false, not_false_eq_true, Classical.not_not, ofn, b_z, b_nz, b_z', b_nz', mv_rd, mv_rn, mv_ld, mv_ln_, lit, nI_add, pk_mul, nI_clamp, h3, nI_toInt]; exact vp_in_nI (by omega) (by omega)) | (exact vp_in_nI (by omega) (by omega)))⟩) ?_)
        | (refine And.intro (show ¬ (_ : Int32) = 0 by decide) ?_)
        | (refine ⟨_, rfl, ?_⟩)
        | (refine And.intro (show (none : Option Value) = none from rfl) ?_)
        | (refine Or.inl ⟨rfl, ?_⟩)
        | (refine Or.inr ⟨_, rfl, ?_⟩)
        | (refine dt (by (first | assumption | omega | ((try simp (disch := omega) only [not_true_eq_false, not_false_eq_true, Classical.not_not, ofn, b_z, b_nz, b_z', b_nz', mv_rd, mv_rn, mv_ld, mv_ln_, lit, nI_add, pk_mul, nI_clamp, h3, nI_toInt]); (try simp (disch := omega) only [fa_lt, fa_le, fa_eq, nI_toInt, pk_sub_toInt, nI_m1, nI_m1', not_false_eq_true, true_and, and_true, h3, nI_toInt]); first | done | omega))) ?_)
        | (refine df (by (first | assumption | omega | ((try simp (disch := omega) only [not_true_eq_false, not_false_eq_true, Classical.not_not, ofn, b_z, b_nz, b_z', b_nz', mv_rd, mv_rn, mv_ld, mv_ln_, lit, nI_add, pk_mul, nI_clamp, h3, nI_toInt]); (try simp (disch := omega) only [fa_lt, fa_le, fa_eq, nI_toInt, pk_sub_toInt, nI_m1, nI_m1', not_false_eq_true, true_and, and_true, h3, nI_toInt]); first | done | omega))) ?_)
        | (refine dt' (by (first | assumption | omega | ((try simp (disch := omega) only [not_true_eq_false, not_false_eq_true, Classical.not_not, ofn, b_z, b_nz, b_z', b_nz', mv_rd, mv_rn, mv_ld, mv_ln_, lit, nI_add, pk_mul, nI_clamp, h3, nI_toInt]); (try simp (disch := omega) only [fa_lt, fa_le, fa_eq, nI_toInt, pk_sub_toInt, nI_m1, nI_m1', not_false_eq_true, true_and, and_true, h3, nI_toInt]); first | done | omega))) ?_)
        | (refine df' (by (first | assumption | omega | ((try simp (disch := omega) only [not_true_eq_false, not_false_eq_true, Classical.not_not, ofn, b_z, b_nz, b_z', b_nz', mv_rd, mv_rn, mv_ld, mv_ln_, lit, nI_add, pk_mul, nI_clamp, h3, nI_toInt]); (try simp (disch := omega) only [fa_lt, fa_le, fa_eq, nI_toInt, pk_sub_toInt, nI_m1, nI_m1', not_false_eq_true, true_and, and_true, h3, nI_toInt]); first | done | omega))) ?_)
        )
    rw [nI_clamp (by omega)]
    exact ⟨by rw [h4 k g4], rfl⟩
  · repeat (first
        | (refine And.intro (show mv_sh _ = _ from rfl) ?_)
        | (refine And.intro (show mv_sh _ = _ by assumption) ?_)
        | (refine And.intro (show _ ≤ mv_sh _ from Nat.le_of_ble_eq_true rfl) ?_)
        | (refine And.intro (show _ ≤ mv_sh _ ∧ vp_in _ _ from ⟨Nat.le_of_ble_eq_true rfl, by (first | (simp (disch := omega) only [ln_1, ln_9, ln_62, ln_91, not_true_eq_false, not_false_eq_true, Classical.not_not, ofn, b_z, b_nz, b_z', b_nz', mv_rd, mv_rn, mv_ld, mv_ln_, lit, nI_add, pk_mul, nI_clamp, h2, nI_toInt, ln_9]; exact vp_in_nI (by omega) (by omega)) | (exact vp_in_nI (by omega) (by omega)))⟩) ?_)
        | (refine And.intro (show (_ : Int32) = 0 ∨ (_ : Int32) = 1 from by first | exact Or.inl rfl | exact Or.inr rfl | exact bI_01 _) ?_)
        | (refine And.intro (show mv_sh _ = _ ∧ vp_in _ _ from ⟨rfl, by (first | (simp (disch := omega) only [ln_1, ln_9, ln_62, ln_91, not_true_eq_false, not_false_eq_true, Classical.not_not, ofn, b_z, b_nz, b_z', b_nz', mv_rd, mv_rn, mv_ld, mv_ln_, lit, nI_add, pk_mul, nI_clamp, h2, nI_toInt, ln_9]; exact vp_in_nI (by omega) (by omega)) | (exact vp_in_nI (by omega) (by omega)))⟩) ?_)
        | (refine And.intro (show mv_sh _ = _ ∧ vp_in _ _ from ⟨by assumption, by (first | (simp (disch := omega) only [ln_1, ln_9, ln_62, ln_91, not_true_eq_false, not_false_eq_true, Classical.not_not, ofn, b_z, b_nz, b_z', b_nz', mv_rd, mv_rn, mv_ld, mv_ln_, lit, nI_add, pk_mul, nI_clamp, h2, nI_toInt, ln_9]; exact vp_in_nI (by omega) (by omega)) | (exact vp_in_nI (by omega) (by omega)))⟩) ?_)
        | (refine And.intro (show ¬ (_ : Int32) = 0 by decide) ?_)
        | (refine ⟨_, rfl, ?_⟩)
        | (refine And.intro (show (none : Option Value) = none from rfl) ?_)
        | (refine Or.inl ⟨rfl, ?_⟩)
        | (refine Or.inr ⟨_, rfl, ?_⟩)
        | (refine dt (by (first | assumption | omega | ((try simp (disch := omega) only [not_true_eq_false, not_false_eq_true, Classical.not_not, ofn, b_z, b_nz, b_z', b_nz', mv_rd, mv_rn, mv_ld, mv_ln_, lit, nI_add, pk_mul, nI_clamp, h2, nI_toInt, ln_9]); (try simp (disch := omega) only [fa_lt, fa_le, fa_eq, nI_toInt, pk_sub_toInt, nI_m1, nI_m1', not_false_eq_true, true_and, and_true, h2, nI_toInt, ln_9]); first | done | omega))) ?_)
        | (refine df (by (first | assumption | omega | ((try simp (disch := omega) only [not_true_eq_false, not_false_eq_true, Classical.not_not, ofn, b_z, b_nz, b_z', b_nz', mv_rd, mv_rn, mv_ld, mv_ln_, lit, nI_add, pk_mul, nI_clamp, h2, nI_toInt, ln_9]); (try simp (disch := omega) only [fa_lt, fa_le, fa_eq, nI_toInt, pk_sub_toInt, nI_m1, nI_m1', not_false_eq_true, true_and, and_true, h2, nI_toInt, ln_9]); first | done | omega))) ?_)
        | (refine dt' (by (first | assumption | omega | ((try simp (disch := omega) only [not_true_eq_false, not_false_eq_true, Classical.not_not, ofn, b_z, b_nz, b_z', b_nz', mv_rd, mv_rn, mv_ld, mv_ln_, lit, nI_add, pk_mul, nI_clamp, h2, nI_toInt, ln_9]); (try simp (disch := omega) only [fa_lt, fa_le, fa_eq, nI_toInt, pk_sub_toInt, nI_m1, nI_m1', not_false_eq_true, true_and, and_true, h2, nI_toInt, ln_9]); first | done | omega))) ?_)
        | (refine df' (by (first | assumption | omega | ((try simp (disch := omega) only [not_true_eq_false, not_false_eq_true, Classical.not_not, ofn, b_z, b_nz, b_z', b_nz', mv_rd, mv_rn, mv_ld, mv_ln_, lit, nI_add, pk_mul, nI_clamp, h2, nI_toInt, ln_9]); (try simp (disch := omega) only [fa_lt, fa_le, fa_eq, nI_toInt, pk_sub_toInt, nI_m1, nI_m1', not_false_eq_true, true_and, and_true, h2, nI_toInt, ln_9]); first | done | omega))) ?_)
        | (refine (w_Reader_causeAt _ _ _ _ _).mpr ?_)
        )
    refine (w_Ref_why _ _ _ _ _).mpr ?_
    repeat (first
        | (refine And.intro (show mv_sh _ = _ from rfl) ?_)
        | (refine And.intro (show mv_sh _ = _ by assumption) ?_)
        | (refine And.intro (show _ ≤ mv_sh _ from Nat.le_of_ble_eq_true rfl) ?_)
        | (refine And.intro (show _ ≤ mv_sh _ ∧ vp_in _ _ from ⟨Nat.le_of_ble_eq_true rfl, by (first | (simp (disch := omega) only [ln_1, ln_9, ln_62, ln_91, not_true_eq_false, not_false_eq_true, Classical.not_not, ofn, b_z, b_nz, b_z', b_nz', mv_rd, mv_rn, mv_ld, mv_ln_, lit, nI_add, pk_mul, nI_clamp, h3, nI_toInt]; exact vp_in_nI (by omega) (by omega)) | (exact vp_in_nI (by omega) (by omega)))⟩) ?_)
        | (refine And.intro (show (_ : Int32) = 0 ∨ (_ : Int32) = 1 from by first | exact Or.inl rfl | exact Or.inr rfl | exact bI_01 _) ?_)
        | (refine And.intro (show mv_sh _ = _ ∧ vp_in _ _ from ⟨rfl, by (first | (simp (disch := omega) only [ln_1, ln_9, ln_62, ln_91, not_true_eq_false, not_false_eq_true, Classical.not_not, ofn, b_z, b_nz, b_z', b_nz', mv_rd, mv_rn, mv_ld, mv_ln_, lit, nI_add, pk_mul, nI_clamp, h3, nI_toInt]; exact vp_in_nI (by omega) (by omega)) | (exact vp_in_nI (by omega) (by omega)))⟩) ?_)
        | (refine And.intro (show mv_sh _ = _ ∧ vp_in _ _ from ⟨by assumption, by (first | (simp (disch := omega) only [ln_1, ln_9, ln_62, ln_91, not_true_eq_false, not_false_eq_true, Classical.not_not, ofn, b_z, b_nz, b_z', b_nz', mv_rd, mv_rn, mv_ld, mv_ln_, lit, nI_add, pk_mul, nI_clamp, h3, nI_toInt]; exact vp_in_nI (by omega) (by omega)) | (exact vp_in_nI (by omega) (by omega)))⟩) ?_)
        | (refine And.intro (show ¬ (_ : Int32) = 0 by decide) ?_)
        | (refine ⟨_, rfl, ?_⟩)
        | (refine And.intro (show (none : Option Value) = none from rfl) ?_)
        | (refine Or.inl ⟨rfl, ?_⟩)
        | (refine Or.inr ⟨_, rfl, ?_⟩)
        | (refine dt (by (first | assumption | omega | ((try simp (disch := omega) only [not_true_eq_false, not_false_eq_true, Classical.not_not, ofn, b_z, b_nz, b_z', b_nz', mv_rd, mv_rn, mv_ld, mv_ln_, lit, nI_add, pk_mul, nI_clamp, h3, nI_toInt]); (try simp (disch := omega) only [fa_lt, fa_le, fa_eq, nI_toInt, pk_sub_toInt, nI_m1, nI_m1', not_false_eq_true, true_and, and_true, h3, nI_toInt]); first | done | omega))) ?_)
        | (refine df (by (first | assumption | omega | ((try simp (disch := omega) only [not_true_eq_false, not_false_eq_true, Classical.not_not, ofn, b_z, b_nz, b_z', b_nz', mv_rd, mv_rn, mv_ld, mv_ln_, lit, nI_add, pk_mul, nI_clamp, h3, nI_toInt]); (try simp (disch := omega) only [fa_lt, fa_le, fa_eq, nI_toInt, pk_sub_toInt, nI_m1, nI_m1', not_false_eq_true, true_and, and_true, h3, nI_toInt]); first | done | omega))) ?_)
        | (refine dt' (by (first | assumption | omega | ((try simp (disch := omega) only [not_true_eq_false, not_false_eq_true, Classical.not_not, ofn, b_z, b_nz, b_z', b_nz', mv_rd, mv_rn, mv_ld, mv_ln_, lit, nI_add, pk_mul, nI_clamp, h3, nI_toInt]); (try simp (disch := omega) only [fa_lt, fa_le, fa_eq, nI_toInt, pk_sub_toInt, nI_m1, nI_m1', not_false_eq_true, true_and, and_true, h3, nI_toInt]); first | done | omega))) ?_)
        | (refine df' (by (first | assumption | omega | ((try simp (disch := omega) only [not_true_eq_false, not_false_eq_true, Classical.not_not, ofn, b_z, b_nz, b_z', b_nz', mv_rd, mv_rn, mv_ld, mv_ln_, lit, nI_add, pk_mul, nI_clamp, h3, nI_toInt]); (try simp (disch := omega) only [fa_lt, fa_le, fa_eq, nI_toInt, pk_sub_toInt, nI_m1, nI_m1', not_false_eq_true, true_and, and_true, h3, nI_toInt]); first | done | omega))) ?_)
        )
    exact ⟨rfl, rfl⟩
def pt_sum (Ms : Nat → md_T) : Nat → Nat
  | 0 => 0
  | k + 1 => pt_sum Ms k + (Ms k).1
theorem s_pointsOfAll {n : Nat} {Ms : Nat → md_T} (h : iv_M n Ms σ) (hQ : Q (some (.int (nI (pt_sum Ms n)))) σ) : mv_wp X (d + 1) 142 [.ref 0] σ Q := by
  obtain ⟨b1, b2, b3, b4⟩ := h
  have loop : ∀ j i, i + j = n → mv_wf X (mv_wp X d) m_WM_pointsOfAll Q 4 [.ref 0, .int (nI (pt_sum Ms i)), .int (nI i)] [] σ := by
    intro j
    induction j with
    | zero =>
      intro i hi
      obtain rfl : i = n := by omega
      refine h_WM_pointsOfAll_4 ?_
      repeat (first
          | (refine And.intro (show mv_sh _ = _ from rfl) ?_)
          | (refine And.intro (show mv_sh _ = _ by assumption) ?_)
          | (refine And.intro (show _ ≤ mv_sh _ from Nat.le_of_ble_eq_true rfl) ?_)
          | (refine And.intro (show _ ≤ mv_sh _ ∧ vp_in _ _ from ⟨Nat.le_of_ble_eq_true rfl, by (first | (simp (disch := omega) only [ln_1, ln_9, ln_62, ln_91, not_true_eq_false, not_false_eq_true, Classical.not_not, ofn, b_z, b_nz, b_z', b_nz', mv_rd, mv_rn, mv_ld, mv_ln_, lit, nI_add, pk_mul, nI_clamp, b2]; exact vp_in_nI (by omega) (by omega)) | (exact vp_in_nI (by omega) (by omega)))⟩) ?_)
          | (refine And.intro (show (_ : Int32) = 0 ∨ (_ : Int32) = 1 from by first | exact Or.inl rfl | exact Or.inr rfl | exact bI_01 _) ?_)
          | (refine And.intro (show mv_sh _ = _ ∧ vp_in _ _ from ⟨rfl, by (first | (simp (disch := omega) only [ln_1, ln_9, ln_62, ln_91, not_true_eq_false, not_false_eq_true, Classical.not_not, ofn, b_z, b_nz, b_z', b_nz', mv_rd, mv_rn, mv_ld, mv_ln_, lit, nI_add, pk_mul, nI_clamp, b2]; exact vp_in_nI (by omega) (by omega)) | (exact vp_in_nI (by omega) (by omega)))⟩) ?_)
          | (refine And.intro (show mv_sh _ = _ ∧ vp_in _ _ from ⟨by assumption, by (first | (simp (disch := omega) only [ln_1, ln_9, ln_62, ln_91, not_true_eq_false, not_false_eq_true, Classical.not_not, ofn, b_z, b_nz, b_z', b_nz', mv_rd, mv_rn, mv_ld, mv_ln_, lit, nI_add, pk_mul, nI_clamp, b2]; exact vp_in_nI (by omega) (by omega)) | (exact vp_in_nI (by omega) (by omega)))⟩) ?_)
          | (refine And.intro (show ¬ (_ : Int32) = 0 by decide) ?_)
          | (refine ⟨_, rfl, ?_⟩)
          | (refine And.intro (show (none : Option Value) = none from rfl) ?_)
          | (refine Or.inl ⟨rfl, ?_⟩)
          | (refine Or.inr ⟨_, rfl, ?_⟩)
          | (refine dt (by (first | assumption | omega | ((try simp (disch := omega) only [not_true_eq_false, not_false_eq_true, Classical.not_not, ofn, b_z, b_nz, b_z', b_nz', mv_rd, mv_rn, mv_ld, mv_ln_, lit, nI_add, pk_mul, nI_clamp, b2]); (try simp (disch := omega) only [fa_lt, fa_le, fa_eq, nI_toInt, pk_sub_toInt, nI_m1, nI_m1', not_false_eq_true, true_and, and_true, b2]); first | done | omega))) ?_)
          | (refine df (by (first | assumption | omega | ((try simp (disch := omega) only [not_true_eq_false, not_false_eq_true, Classical.not_not, ofn, b_z, b_nz, b_z', b_nz', mv_rd, mv_rn, mv_ld, mv_ln_, lit, nI_add, pk_mul, nI_clamp, b2]); (try simp (disch := omega) only [fa_lt, fa_le, fa_eq, nI_toInt, pk_sub_toInt, nI_m1, nI_m1', not_false_eq_true, true_and, and_true, b2]); first | done | omega))) ?_)
          | (refine dt' (by (first | assumption | omega | ((try simp (disch := omega) only [not_true_eq_false, not_false_eq_true, Classical.not_not, ofn, b_z, b_nz, b_z', b_nz', mv_rd, mv_rn, mv_ld, mv_ln_, lit, nI_add, pk_mul, nI_clamp, b2]); (try simp (disch := omega) only [fa_lt, fa_le, fa_eq, nI_toInt, pk_sub_toInt, nI_m1, nI_m1', not_false_eq_true, true_and, and_true, b2]); first | done | omega))) ?_)
          | (refine df' (by (first | assumption | omega | ((try simp (disch := omega) only [not_true_eq_false, not_false_eq_true, Classical.not_not, ofn, b_z, b_nz, b_z', b_nz', mv_rd, mv_rn, mv_ld, mv_ln_, lit, nI_add, pk_mul, nI_clamp, b2]); (try simp (disch := omega) only [fa_lt, fa_le, fa_eq, nI_toInt, pk_sub_toInt, nI_m1, nI_m1', not_false_eq_true, true_and, and_true, b2]); first | done | omega))) ?_)
          )
      exact hQ
    | succ j ih =>
      intro i hi
      have ht := mc_now i (by omega)
      refine h_WM_pointsOfAll_4 ?_
      rw [nI_clamp (by omega), ht.2, (b4 i (by omega)).2.1.1, nI_add, nI_1]
      have hs := ht.1.1
      repeat (first
          | (refine And.intro (show mv_sh _ = _ from rfl) ?_)
          | (refine And.intro (show mv_sh _ = _ by assumption) ?_)
          | (refine And.intro (show _ ≤ mv_sh _ from Nat.le_of_ble_eq_true rfl) ?_)
          | (refine And.intro (show _ ≤ mv_sh _ ∧ vp_in _ _ from ⟨Nat.le_of_ble_eq_true rfl, by (first | (simp (disch := omega) only [ln_1, ln_9, ln_62, ln_91, not_true_eq_false, not_false_eq_true, Classical.not_not, ofn, b_z, b_nz, b_z', b_nz', mv_rd, mv_rn, mv_ld, mv_ln_, lit, nI_add, pk_mul, nI_clamp, b2]; exact vp_in_nI (by omega) (by omega)) | (exact vp_in_nI (by omega) (by omega)))⟩) ?_)
          | (refine And.intro (show (_ : Int32) = 0 ∨ (_ : Int32) = 1 from by first | exact Or.inl rfl | exact Or.inr rfl | exact bI_01 _) ?_)
          | (refine And.intro (show mv_sh _ = _ ∧ vp_in _ _ from ⟨rfl, by (first | (simp (disch := omega) only [ln_1, ln_9, ln_62, ln_91, not_true_eq_false, not_false_eq_true, Classical.not_not, ofn, b_z, b_nz, b_z', b_nz', mv_rd, mv_rn, mv_ld, mv_ln_, lit, nI_add, pk_mul, nI_clamp, b2]; exact vp_in_nI (by omega) (by omega)) | (exact vp_in_nI (by omega) (by omega)))⟩) ?_)
          | (refine And.intro (show mv_sh _ = _ ∧ vp_in _ _ from ⟨by assumption, by (first | (simp (disch := omega) only [ln_1, ln_9, ln_62, ln_91, not_true_eq_false, not_false_eq_true, Classical.not_not, ofn, b_z, b_nz, b_z', b_nz', mv_rd, mv_rn, mv_ld, mv_ln_, lit, nI_add, pk_mul, nI_clamp, b2]; exact vp_in_nI (by omega) (by omega)) | (exact vp_in_nI (by omega) (by omega)))⟩) ?_)
          | (refine And.intro (show ¬ (_ : Int32) = 0 by decide) ?_)
          | (refine ⟨_, rfl, ?_⟩)
          | (refine And.intro (show (none : Option Value) = none from rfl) ?_)
          | (refine Or.inl ⟨rfl, ?_⟩)
          | (refine Or.inr ⟨_, rfl, ?_⟩)
          | (refine dt (by (first | assumption | omega | ((try simp (disch := omega) only [not_true_eq_false, not_false_eq_true, Classical.not_not, ofn, b_z, b_nz, b_z', b_nz', mv_rd, mv_rn, mv_ld, mv_ln_, lit, nI_add, pk_mul, nI_clamp, b2]); (try simp (disch := omega) only [fa_lt, fa_le, fa_eq, nI_toInt, pk_sub_toInt, nI_m1, nI_m1', not_false_eq_true, true_and, and_true, b2]); first | done | omega))) ?_)
          | (refine df (by (first | assumption | omega | ((try simp (disch := omega) only [not_true_eq_false, not_false_eq_true, Classical.not_not, ofn, b_z, b_nz, b_z', b_nz', mv_rd, mv_rn, mv_ld, mv_ln_, lit, nI_add, pk_mul, nI_clamp, b2]); (try simp (disch := omega) only [fa_lt, fa_le, fa_eq, nI_toInt, pk_sub_toInt, nI_m1, nI_m1', not_false_eq_true, true_and, and_true, b2]); first | done | omega))) ?_)
          | (refine dt' (by (first | assumption | omega | ((try simp (disch := omega) only [not_true_eq_false, not_false_eq_true, Classical.not_not, ofn, b_z, b_nz, b_z', b_nz', mv_rd, mv_rn, mv_ld, mv_ln_, lit, nI_add, pk_mul, nI_clamp, b2]); (try simp (disch := omega) only [fa_lt, fa_le, fa_eq, nI_toInt, pk_sub_toInt, nI_m1, nI_m1', not_false_eq_true, true_and, and_true, b2]); first | done | omega))) ?_)
          | (refine df' (by (first | assumption | omega | ((try simp (disch := omega) only [not_true_eq_false, not_false_eq_true, Classical.not_not, ofn, b_z, b_nz, b_z', b_nz', mv_rd, mv_rn, mv_ld, mv_ln_, lit, nI_add, pk_mul, nI_clamp, b2]); (try simp (disch := omega) only [fa_lt, fa_le, fa_eq, nI_toInt, pk_sub_toInt, nI_m1, nI_m1', not_false_eq_true, true_and, and_true, b2]); first | done | omega))) ?_)
          )
      exact ih (i + 1) (by omega)
  exact w_WM_pointsOfAll (loop n 0 (by omega))
theorem r_countPoints {n : Nat} {Ms : Nat → md_T} (h : iv_M n Ms σ) (hQ : Q (some (.int (nI (pt_sum Ms n)))) σ) : mv_wf X (mv_wp X (d + 1)) m_Ref_count Q 51 [.ref 61, .retAddr 0, .int (nI 0), .int (nI 0)] [] σ := by
  obtain ⟨b1, b2, b3, b4⟩ := h
  have loop : ∀ j i, i + j = n → mv_wf X (mv_wp X (d + 1)) m_Ref_count Q 51 [.ref 61, .retAddr 0, .int (nI (pt_sum Ms i)), .int (nI i)] [] σ := by
    intro j
    induction j with
    | zero =>
      intro i hi
      obtain rfl : i = n := by omega
      refine h_Ref_count_51 ?_
      repeat (first
          | (refine And.intro (show mv_sh _ = _ from rfl) ?_)
          | (refine And.intro (show mv_sh _ = _ by assumption) ?_)
          | (refine And.intro (show _ ≤ mv_sh _ from Nat.le_of_ble_eq_true rfl) ?_)
          | (refine And.intro (show _ ≤ mv_sh _ ∧ vp_in _ _ from ⟨Nat.le_of_ble_eq_true rfl, by (first | (simp (disch := omega) only [ln_1, ln_9, ln_62, ln_91, not_true_eq_false, not_false_eq_true, Classical.not_not, ofn, b_z, b_nz, b_z', b_nz', mv_rd, mv_rn, mv_ld, mv_ln_, lit, nI_add, pk_mul, nI_clamp, b3]; exact vp_in_nI (by omega) (by omega)) | (exact vp_in_nI (by omega) (by omega)))⟩) ?_)
          | (refine And.intro (show (_ : Int32) = 0 ∨ (_ : Int32) = 1 from by first | exact Or.inl rfl | exact Or.inr rfl | exact bI_01 _) ?_)
          | (refine And.intro (show mv_sh _ = _ ∧ vp_in _ _ from ⟨rfl, by (first | (simp (disch := omega) only [ln_1, ln_9, ln_62, ln_91, not_true_eq_false, not_false_eq_true, Classical.not_not, ofn, b_z, b_nz, b_z', b_nz', mv_rd, mv_rn, mv_ld, mv_ln_, lit, nI_add, pk_mul, nI_clamp, b3]; exact vp_in_nI (by omega) (by omega)) | (exact vp_in_nI (by omega) (by omega)))⟩) ?_)
          | (refine And.intro (show mv_sh _ = _ ∧ vp_in _ _ from ⟨by assumption, by (first | (simp (disch := omega) only [ln_1, ln_9, ln_62, ln_91, not_true_eq_false, not_false_eq_true, Classical.not_not, ofn, b_z, b_nz, b_z', b_nz', mv_rd, mv_rn, mv_ld, mv_ln_, lit, nI_add, pk_mul, nI_clamp, b3]; exact vp_in_nI (by omega) (by omega)) | (exact vp_in_nI (by omega) (by omega)))⟩) ?_)
          | (refine And.intro (show ¬ (_ : Int32) = 0 by decide) ?_)
          | (refine ⟨_, rfl, ?_⟩)
          | (refine And.intro (show (none : Option Value) = none from rfl) ?_)
          | (refine Or.inl ⟨rfl, ?_⟩)
          | (refine Or.inr ⟨_, rfl, ?_⟩)
          | (refine dt (by (first | assumption | omega | ((try simp (disch := omega) only [not_true_eq_false, not_false_eq_true, Classical.not_not, ofn, b_z, b_nz, b_z', b_nz', mv_rd, mv_rn, mv_ld, mv_ln_, lit, nI_add, pk_mul, nI_clamp, b3]); (try simp (disch := omega) only [fa_lt, fa_le, fa_eq, nI_toInt, pk_sub_toInt, nI_m1, nI_m1', not_false_eq_true, true_and, and_true, b3]); first | done | omega))) ?_)
          | (refine df (by (first | assumption | omega | ((try simp (disch := omega) only [not_true_eq_false, not_false_eq_true, Classical.not_not, ofn, b_z, b_nz, b_z', b_nz', mv_rd, mv_rn, mv_ld, mv_ln_, lit, nI_add, pk_mul, nI_clamp, b3]); (try simp (disch := omega) only [fa_lt, fa_le, fa_eq, nI_toInt, pk_sub_toInt, nI_m1, nI_m1', not_false_eq_true, true_and, and_true, b3]); first | done | omega))) ?_)
          | (refine dt' (by (first | assumption | omega | ((try simp (disch := omega) only [not_true_eq_false, not_false_eq_true, Classical.not_not, ofn, b_z, b_nz, b_z', b_nz', mv_rd, mv_rn, mv_ld, mv_ln_, lit, nI_add, pk_mul, nI_clamp, b3]); (try simp (disch := omega) only [fa_lt, fa_le, fa_eq, nI_toInt, pk_sub_toInt, nI_m1, nI_m1', not_false_eq_true, true_and, and_true, b3]); first | done | omega))) ?_)
          | (refine df' (by (first | assumption | omega | ((try simp (disch := omega) only [not_true_eq_false, not_false_eq_true, Classical.not_not, ofn, b_z, b_nz, b_z', b_nz', mv_rd, mv_rn, mv_ld, mv_ln_, lit, nI_add, pk_mul, nI_clamp, b3]); (try simp (disch := omega) only [fa_lt, fa_le, fa_eq, nI_toInt, pk_sub_toInt, nI_m1, nI_m1', not_false_eq_true, true_and, and_true, b3]); first | done | omega))) ?_)
          )
      exact hQ
    | succ j ih =>
      intro i hi
      refine h_Ref_count_51 ?_
      repeat (first
          | (refine And.intro (show mv_sh _ = _ from rfl) ?_)
          | (refine And.intro (show mv_sh _ = _ by assumption) ?_)
          | (refine And.intro (show _ ≤ mv_sh _ from Nat.le_of_ble_eq_true rfl) ?_)
          | (refine And.intro (show _ ≤ mv_sh _ ∧ vp_in _ _ from ⟨Nat.le_of_ble_eq_true rfl, by (first | (simp (disch := omega) only [ln_1, ln_9, ln_62, ln_91, not_true_eq_false, not_false_eq_true, Classical.not_not, ofn, b_z, b_nz, b_z', b_nz', mv_rd, mv_rn, mv_ld, mv_ln_, lit, nI_add, pk_mul, nI_clamp, b3]; exact vp_in_nI (by omega) (by omega)) | (exact vp_in_nI (by omega) (by omega)))⟩) ?_)
          | (refine And.intro (show (_ : Int32) = 0 ∨ (_ : Int32) = 1 from by first | exact Or.inl rfl | exact Or.inr rfl | exact bI_01 _) ?_)
          | (refine And.intro (show mv_sh _ = _ ∧ vp_in _ _ from ⟨rfl, by (first | (simp (disch := omega) only [ln_1, ln_9, ln_62, ln_91, not_true_eq_false, not_false_eq_true, Classical.not_not, ofn, b_z, b_nz, b_z', b_nz', mv_rd, mv_rn, mv_ld, mv_ln_, lit, nI_add, pk_mul, nI_clamp, b3]; exact vp_in_nI (by omega) (by omega)) | (exact vp_in_nI (by omega) (by omega)))⟩) ?_)
          | (refine And.intro (show mv_sh _ = _ ∧ vp_in _ _ from ⟨by assumption, by (first | (simp (disch := omega) only [ln_1, ln_9, ln_62, ln_91, not_true_eq_false, not_false_eq_true, Classical.not_not, ofn, b_z, b_nz, b_z', b_nz', mv_rd, mv_rn, mv_ld, mv_ln_, lit, nI_add, pk_mul, nI_clamp, b3]; exact vp_in_nI (by omega) (by omega)) | (exact vp_in_nI (by omega) (by omega)))⟩) ?_)
          | (refine And.intro (show ¬ (_ : Int32) = 0 by decide) ?_)
          | (refine ⟨_, rfl, ?_⟩)
          | (refine And.intro (show (none : Option Value) = none from rfl) ?_)
          | (refine Or.inl ⟨rfl, ?_⟩)
          | (refine Or.inr ⟨_, rfl, ?_⟩)
          | (refine dt (by (first | assumption | omega | ((try simp (disch := omega) only [not_true_eq_false, not_false_eq_true, Classical.not_not, ofn, b_z, b_nz, b_z', b_nz', mv_rd, mv_rn, mv_ld, mv_ln_, lit, nI_add, pk_mul, nI_clamp, b3]); (try simp (disch := omega) only [fa_lt, fa_le, fa_eq, nI_toInt, pk_sub_toInt, nI_m1, nI_m1', not_false_eq_true, true_and, and_true, b3]); first | done | omega))) ?_)
          | (refine df (by (first | assumption | omega | ((try simp (disch := omega) only [not_true_eq_false, not_false_eq_true, Classical.not_not, ofn, b_z, b_nz, b_z', b_nz', mv_rd, mv_rn, mv_ld, mv_ln_, lit, nI_add, pk_mul, nI_clamp, b3]); (try simp (disch := omega) only [fa_lt, fa_le, fa_eq, nI_toInt, pk_sub_toInt, nI_m1, nI_m1', not_false_eq_true, true_and, and_true, b3]); first | done | omega))) ?_)
          | (refine dt' (by (first | assumption | omega | ((try simp (disch := omega) only [not_true_eq_false, not_false_eq_true, Classical.not_not, ofn, b_z, b_nz, b_z', b_nz', mv_rd, mv_rn, mv_ld, mv_ln_, lit, nI_add, pk_mul, nI_clamp, b3]); (try simp (disch := omega) only [fa_lt, fa_le, fa_eq, nI_toInt, pk_sub_toInt, nI_m1, nI_m1', not_false_eq_true, true_and, and_true, b3]); first | done | omega))) ?_)
          | (refine df' (by (first | assumption | omega | ((try simp (disch := omega) only [not_true_eq_false, not_false_eq_true, Classical.not_not, ofn, b_z, b_nz, b_z', b_nz', mv_rd, mv_rn, mv_ld, mv_ln_, lit, nI_add, pk_mul, nI_clamp, b3]); (try simp (disch := omega) only [fa_lt, fa_le, fa_eq, nI_toInt, pk_sub_toInt, nI_m1, nI_m1', not_false_eq_true, true_and, and_true, b3]); first | done | omega))) ?_)
          | (refine (r_pointsOf (by omega)).mpr ?_)
          )
      rw [(b4 i (by omega)).2.2.1, nI_add, nI_1]
      exact ih (i + 1) (by omega)
  exact loop n 0 (by omega)
theorem op_count {a1 : Int32} {n m q : Nat} {Ms : Nat → md_T} (h : iv_M n Ms σ) (hT : iv_T m σ) (hf : σ.1 0 12 = σ.1 61 41) : lw_op X (d + 5) (fun σ2 => σ2 = σ) 131 240 [.int a1] σ := by
  unfold lw_op
  refine (w_WM_count _ _ _ _ _).mpr ?_
  have e1 : (0 : Int32) + 1 = nI 1 := rfl
  have e2 : nI 1 + (1 : Int32) = nI 2 := rfl
  have e3 : nI 2 + (1 : Int32) = nI 3 := rfl
  rw [e1, e2, e3]
  by_cases g0 : a1 = 0
  · subst g0
    repeat (first
        | (refine And.intro (show mv_sh _ = _ from rfl) ?_)
        | (refine And.intro (show mv_sh _ = _ by assumption) ?_)
        | (refine And.intro (show _ ≤ mv_sh _ from Nat.le_of_ble_eq_true rfl) ?_)
        | (refine And.intro (show _ ≤ mv_sh _ ∧ vp_in _ _ from ⟨Nat.le_of_ble_eq_true rfl, by (first | (simp (disch := omega) only [ln_1, ln_9, ln_62, ln_91, not_true_eq_false, not_false_eq_true, Classical.not_not, ofn, b_z, b_nz, b_z', b_nz', mv_rd, mv_rn, mv_ld, mv_ln_, lit, nI_add, pk_mul, nI_clamp]; exact vp_in_nI (by omega) (by omega)) | (exact vp_in_nI (by omega) (by omega)))⟩) ?_)
        | (refine And.intro (show (_ : Int32) = 0 ∨ (_ : Int32) = 1 from by first | exact Or.inl rfl | exact Or.inr rfl | exact bI_01 _) ?_)
        | (refine And.intro (show mv_sh _ = _ ∧ vp_in _ _ from ⟨rfl, by (first | (simp (disch := omega) only [ln_1, ln_9, ln_62, ln_91, not_true_eq_false, not_false_eq_true, Classical.not_not, ofn, b_z, b_nz, b_z', b_nz', mv_rd, mv_rn, mv_ld, mv_ln_, lit, nI_add, pk_mul, nI_clamp]; exact vp_in_nI (by omega) (by omega)) | (exact vp_in_nI (by omega) (by omega)))⟩) ?_)
        | (refine And.intro (show mv_sh _ = _ ∧ vp_in _ _ from ⟨by assumption, by (first | (simp (disch := omega) only [ln_1, ln_9, ln_62, ln_91, not_true_eq_false, not_false_eq_true, Classical.not_not, ofn, b_z, b_nz, b_z', b_nz', mv_rd, mv_rn, mv_ld, mv_ln_, lit, nI_add, pk_mul, nI_clamp]; exact vp_in_nI (by omega) (by omega)) | (exact vp_in_nI (by omega) (by omega)))⟩) ?_)
        | (refine And.intro (show ¬ (_ : Int32) = 0 by decide) ?_)
        | (refine ⟨_, rfl, ?_⟩)
        | (refine And.intro (show (none : Option Value) = none from rfl) ?_)
        | (refine Or.inl ⟨rfl, ?_⟩)
        | (refine Or.inr ⟨_, rfl, ?_⟩)
        | (refine dt (by (first | assumption | omega | ((try simp (disch := omega) only [not_true_eq_false, not_false_eq_true, Classical.not_not, ofn, b_z, b_nz, b_z', b_nz', mv_rd, mv_rn, mv_ld, mv_ln_, lit, nI_add, pk_mul, nI_clamp]); (try simp (disch := omega) only [fa_lt, fa_le, fa_eq, nI_toInt, pk_sub_toInt, nI_m1, nI_m1', not_false_eq_true, true_and, and_true]); first | done | omega))) ?_)
        | (refine df (by (first | assumption | omega | ((try simp (disch := omega) only [not_true_eq_false, not_false_eq_true, Classical.not_not, ofn, b_z, b_nz, b_z', b_nz', mv_rd, mv_rn, mv_ld, mv_ln_, lit, nI_add, pk_mul, nI_clamp]); (try simp (disch := omega) only [fa_lt, fa_le, fa_eq, nI_toInt, pk_sub_toInt, nI_m1, nI_m1', not_false_eq_true, true_and, and_true]); first | done | omega))) ?_)
        | (refine dt' (by (first | assumption | omega | ((try simp (disch := omega) only [not_true_eq_false, not_false_eq_true, Classical.not_not, ofn, b_z, b_nz, b_z', b_nz', mv_rd, mv_rn, mv_ld, mv_ln_, lit, nI_add, pk_mul, nI_clamp]); (try simp (disch := omega) only [fa_lt, fa_le, fa_eq, nI_toInt, pk_sub_toInt, nI_m1, nI_m1', not_false_eq_true, true_and, and_true]); first | done | omega))) ?_)
        | (refine df' (by (first | assumption | omega | ((try simp (disch := omega) only [not_true_eq_false, not_false_eq_true, Classical.not_not, ofn, b_z, b_nz, b_z', b_nz', mv_rd, mv_rn, mv_ld, mv_ln_, lit, nI_add, pk_mul, nI_clamp]); (try simp (disch := omega) only [fa_lt, fa_le, fa_eq, nI_toInt, pk_sub_toInt, nI_m1, nI_m1', not_false_eq_true, true_and, and_true]); first | done | omega))) ?_)
        )
    refine w_Ref_count ?_
    repeat (first
        | (refine And.intro (show mv_sh _ = _ from rfl) ?_)
        | (refine And.intro (show mv_sh _ = _ by assumption) ?_)
        | (refine And.intro (show _ ≤ mv_sh _ from Nat.le_of_ble_eq_true rfl) ?_)
        | (refine And.intro (show _ ≤ mv_sh _ ∧ vp_in _ _ from ⟨Nat.le_of_ble_eq_true rfl, by (first | (simp (disch := omega) only [ln_1, ln_9, ln_62, ln_91, not_true_eq_false, not_false_eq_true, Classical.not_not, ofn, b_z, b_nz, b_z', b_nz', mv_rd, mv_rn, mv_ld, mv_ln_, lit, nI_add, pk_mul, nI_clamp]; exact vp_in_nI (by omega) (by omega)) | (exact vp_in_nI (by omega) (by omega)))⟩) ?_)
        | (refine And.intro (show (_ : Int32) = 0 ∨ (_ : Int32) = 1 from by first | exact Or.inl rfl | exact Or.inr rfl | exact bI_01 _) ?_)
        | (refine And.intro (show mv_sh _ = _ ∧ vp_in _ _ from ⟨rfl, by (first | (simp (disch := omega) only [ln_1, ln_9, ln_62, ln_91, not_true_eq_false, not_false_eq_true, Classical.not_not, ofn, b_z, b_nz, b_z', b_nz', mv_rd, mv_rn, mv_ld, mv_ln_, lit, nI_add, pk_mul, nI_clamp]; exact vp_in_nI (by omega) (by omega)) | (exact vp_in_nI (by omega) (by omega)))⟩) ?_)
        | (refine And.intro (show mv_sh _ = _ ∧ vp_in _ _ from ⟨by assumption, by (first | (simp (disch := omega) only [ln_1, ln_9, ln_62, ln_91, not_true_eq_false, not_false_eq_true, Classical.not_not, ofn, b_z, b_nz, b_z', b_nz', mv_rd, mv_rn, mv_ld, mv_ln_, lit, nI_add, pk_mul, nI_clamp]; exact vp_in_nI (by omega) (by omega)) | (exact vp_in_nI (by omega) (by omega)))⟩) ?_)
        | (refine And.intro (show ¬ (_ : Int32) = 0 by decide) ?_)
        | (refine ⟨_, rfl, ?_⟩)
        | (refine And.intro (show (none : Option Value) = none from rfl) ?_)
        | (refine Or.inl ⟨rfl, ?_⟩)
        | (refine Or.inr ⟨_, rfl, ?_⟩)
        | (refine dt (by (first | assumption | omega | ((try simp (disch := omega) only [not_true_eq_false, not_false_eq_true, Classical.not_not, ofn, b_z, b_nz, b_z', b_nz', mv_rd, mv_rn, mv_ld, mv_ln_, lit, nI_add, pk_mul, nI_clamp]); (try simp (disch := omega) only [fa_lt, fa_le, fa_eq, nI_toInt, pk_sub_toInt, nI_m1, nI_m1', not_false_eq_true, true_and, and_true]); first | done | omega))) ?_)
        | (refine df (by (first | assumption | omega | ((try simp (disch := omega) only [not_true_eq_false, not_false_eq_true, Classical.not_not, ofn, b_z, b_nz, b_z', b_nz', mv_rd, mv_rn, mv_ld, mv_ln_, lit, nI_add, pk_mul, nI_clamp]); (try simp (disch := omega) only [fa_lt, fa_le, fa_eq, nI_toInt, pk_sub_toInt, nI_m1, nI_m1', not_false_eq_true, true_and, and_true]); first | done | omega))) ?_)
        | (refine dt' (by (first | assumption | omega | ((try simp (disch := omega) only [not_true_eq_false, not_false_eq_true, Classical.not_not, ofn, b_z, b_nz, b_z', b_nz', mv_rd, mv_rn, mv_ld, mv_ln_, lit, nI_add, pk_mul, nI_clamp]); (try simp (disch := omega) only [fa_lt, fa_le, fa_eq, nI_toInt, pk_sub_toInt, nI_m1, nI_m1', not_false_eq_true, true_and, and_true]); first | done | omega))) ?_)
        | (refine df' (by (first | assumption | omega | ((try simp (disch := omega) only [not_true_eq_false, not_false_eq_true, Classical.not_not, ofn, b_z, b_nz, b_z', b_nz', mv_rd, mv_rn, mv_ld, mv_ln_, lit, nI_add, pk_mul, nI_clamp]); (try simp (disch := omega) only [fa_lt, fa_le, fa_eq, nI_toInt, pk_sub_toInt, nI_m1, nI_m1', not_false_eq_true, true_and, and_true]); first | done | omega))) ?_)
        )
    exact ⟨by rw [h.2.1, h.2.2.1], rfl⟩
  by_cases g1 : a1 = nI 1
  · subst g1
    repeat (first
        | (refine And.intro (show mv_sh _ = _ from rfl) ?_)
        | (refine And.intro (show mv_sh _ = _ by assumption) ?_)
        | (refine And.intro (show _ ≤ mv_sh _ from Nat.le_of_ble_eq_true rfl) ?_)
        | (refine And.intro (show _ ≤ mv_sh _ ∧ vp_in _ _ from ⟨Nat.le_of_ble_eq_true rfl, by (first | (simp (disch := omega) only [ln_1, ln_9, ln_62, ln_91, not_true_eq_false, not_false_eq_true, Classical.not_not, ofn, b_z, b_nz, b_z', b_nz', mv_rd, mv_rn, mv_ld, mv_ln_, lit, nI_add, pk_mul, nI_clamp]; exact vp_in_nI (by omega) (by omega)) | (exact vp_in_nI (by omega) (by omega)))⟩) ?_)
        | (refine And.intro (show (_ : Int32) = 0 ∨ (_ : Int32) = 1 from by first | exact Or.inl rfl | exact Or.inr rfl | exact bI_01 _) ?_)
        | (refine And.intro (show mv_sh _ = _ ∧ vp_in _ _ from ⟨rfl, by (first | (simp (disch := omega) only [ln_1, ln_9, ln_62, ln_91, not_true_eq_false, not_false_eq_true, Classical.not_not, ofn, b_z, b_nz, b_z', b_nz', mv_rd, mv_rn, mv_ld, mv_ln_, lit, nI_add, pk_mul, nI_clamp]; exact vp_in_nI (by omega) (by omega)) | (exact vp_in_nI (by omega) (by omega)))⟩) ?_)
        | (refine And.intro (show mv_sh _ = _ ∧ vp_in _ _ from ⟨by assumption, by (first | (simp (disch := omega) only [ln_1, ln_9, ln_62, ln_91, not_true_eq_false, not_false_eq_true, Classical.not_not, ofn, b_z, b_nz, b_z', b_nz', mv_rd, mv_rn, mv_ld, mv_ln_, lit, nI_add, pk_mul, nI_clamp]; exact vp_in_nI (by omega) (by omega)) | (exact vp_in_nI (by omega) (by omega)))⟩) ?_)
        | (refine And.intro (show ¬ (_ : Int32) = 0 by decide) ?_)
        | (refine ⟨_, rfl, ?_⟩)
        | (refine And.intro (show (none : Option Value) = none from rfl) ?_)
        | (refine Or.inl ⟨rfl, ?_⟩)
        | (refine Or.inr ⟨_, rfl, ?_⟩)
        | (refine dt (by (first | assumption | omega | ((try simp (disch := omega) only [not_true_eq_false, not_false_eq_true, Classical.not_not, ofn, b_z, b_nz, b_z', b_nz', mv_rd, mv_rn, mv_ld, mv_ln_, lit, nI_add, pk_mul, nI_clamp]); (try simp (disch := omega) only [fa_lt, fa_le, fa_eq, nI_toInt, pk_sub_toInt, nI_m1, nI_m1', not_false_eq_true, true_and, and_true]); first | done | omega))) ?_)
        | (refine df (by (first | assumption | omega | ((try simp (disch := omega) only [not_true_eq_false, not_false_eq_true, Classical.not_not, ofn, b_z, b_nz, b_z', b_nz', mv_rd, mv_rn, mv_ld, mv_ln_, lit, nI_add, pk_mul, nI_clamp]); (try simp (disch := omega) only [fa_lt, fa_le, fa_eq, nI_toInt, pk_sub_toInt, nI_m1, nI_m1', not_false_eq_true, true_and, and_true]); first | done | omega))) ?_)
        | (refine dt' (by (first | assumption | omega | ((try simp (disch := omega) only [not_true_eq_false, not_false_eq_true, Classical.not_not, ofn, b_z, b_nz, b_z', b_nz', mv_rd, mv_rn, mv_ld, mv_ln_, lit, nI_add, pk_mul, nI_clamp]); (try simp (disch := omega) only [fa_lt, fa_le, fa_eq, nI_toInt, pk_sub_toInt, nI_m1, nI_m1', not_false_eq_true, true_and, and_true]); first | done | omega))) ?_)
        | (refine df' (by (first | assumption | omega | ((try simp (disch := omega) only [not_true_eq_false, not_false_eq_true, Classical.not_not, ofn, b_z, b_nz, b_z', b_nz', mv_rd, mv_rn, mv_ld, mv_ln_, lit, nI_add, pk_mul, nI_clamp]); (try simp (disch := omega) only [fa_lt, fa_le, fa_eq, nI_toInt, pk_sub_toInt, nI_m1, nI_m1', not_false_eq_true, true_and, and_true]); first | done | omega))) ?_)
        )
    refine w_Ref_count ?_
    rw [e1, e2, e3]
    repeat (first
        | (refine And.intro (show mv_sh _ = _ from rfl) ?_)
        | (refine And.intro (show mv_sh _ = _ by assumption) ?_)
        | (refine And.intro (show _ ≤ mv_sh _ from Nat.le_of_ble_eq_true rfl) ?_)
        | (refine And.intro (show _ ≤ mv_sh _ ∧ vp_in _ _ from ⟨Nat.le_of_ble_eq_true rfl, by (first | (simp (disch := omega) only [ln_1, ln_9, ln_62, ln_91, not_true_eq_false, not_false_eq_true, Classical.not_not, ofn, b_z, b_nz, b_z', b_nz', mv_rd, mv_rn, mv_ld, mv_ln_, lit, nI_add, pk_mul, nI_clamp]; exact vp_in_nI (by omega) (by omega)) | (exact vp_in_nI (by omega) (by omega)))⟩) ?_)
        | (refine And.intro (show (_ : Int32) = 0 ∨ (_ : Int32) = 1 from by first | exact Or.inl rfl | exact Or.inr rfl | exact bI_01 _) ?_)
        | (refine And.intro (show mv_sh _ = _ ∧ vp_in _ _ from ⟨rfl, by (first | (simp (disch := omega) only [ln_1, ln_9, ln_62, ln_91, not_true_eq_false, not_false_eq_true, Classical.not_not, ofn, b_z, b_nz, b_z', b_nz', mv_rd, mv_rn, mv_ld, mv_ln_, lit, nI_add, pk_mul, nI_clamp]; exact vp_in_nI (by omega) (by omega)) | (exact vp_in_nI (by omega) (by omega)))⟩) ?_)
        | (refine And.intro (show mv_sh _ = _ ∧ vp_in _ _ from ⟨by assumption, by (first | (simp (disch := omega) only [ln_1, ln_9, ln_62, ln_91, not_true_eq_false, not_false_eq_true, Classical.not_not, ofn, b_z, b_nz, b_z', b_nz', mv_rd, mv_rn, mv_ld, mv_ln_, lit, nI_add, pk_mul, nI_clamp]; exact vp_in_nI (by omega) (by omega)) | (exact vp_in_nI (by omega) (by omega)))⟩) ?_)
        | (refine And.intro (show ¬ (_ : Int32) = 0 by decide) ?_)
        | (refine ⟨_, rfl, ?_⟩)
        | (refine And.intro (show (none : Option Value) = none from rfl) ?_)
        | (refine Or.inl ⟨rfl, ?_⟩)
        | (refine Or.inr ⟨_, rfl, ?_⟩)
        | (refine dt (by (first | assumption | omega | ((try simp (disch := omega) only [not_true_eq_false, not_false_eq_true, Classical.not_not, ofn, b_z, b_nz, b_z', b_nz', mv_rd, mv_rn, mv_ld, mv_ln_, lit, nI_add, pk_mul, nI_clamp]); (try simp (disch := omega) only [fa_lt, fa_le, fa_eq, nI_toInt, pk_sub_toInt, nI_m1, nI_m1', not_false_eq_true, true_and, and_true]); first | done | omega))) ?_)
        | (refine df (by (first | assumption | omega | ((try simp (disch := omega) only [not_true_eq_false, not_false_eq_true, Classical.not_not, ofn, b_z, b_nz, b_z', b_nz', mv_rd, mv_rn, mv_ld, mv_ln_, lit, nI_add, pk_mul, nI_clamp]); (try simp (disch := omega) only [fa_lt, fa_le, fa_eq, nI_toInt, pk_sub_toInt, nI_m1, nI_m1', not_false_eq_true, true_and, and_true]); first | done | omega))) ?_)
        | (refine dt' (by (first | assumption | omega | ((try simp (disch := omega) only [not_true_eq_false, not_false_eq_true, Classical.not_not, ofn, b_z, b_nz, b_z', b_nz', mv_rd, mv_rn, mv_ld, mv_ln_, lit, nI_add, pk_mul, nI_clamp]); (try simp (disch := omega) only [fa_lt, fa_le, fa_eq, nI_toInt, pk_sub_toInt, nI_m1, nI_m1', not_false_eq_true, true_and, and_true]); first | done | omega))) ?_)
        | (refine df' (by (first | assumption | omega | ((try simp (disch := omega) only [not_true_eq_false, not_false_eq_true, Classical.not_not, ofn, b_z, b_nz, b_z', b_nz', mv_rd, mv_rn, mv_ld, mv_ln_, lit, nI_add, pk_mul, nI_clamp]); (try simp (disch := omega) only [fa_lt, fa_le, fa_eq, nI_toInt, pk_sub_toInt, nI_m1, nI_m1', not_false_eq_true, true_and, and_true]); first | done | omega))) ?_)
        )
    exact ⟨by rw [hf], rfl⟩
  by_cases g2 : a1 = nI 2
  · subst g2
    repeat (first
        | (refine And.intro (show mv_sh _ = _ from rfl) ?_)
        | (refine And.intro (show mv_sh _ = _ by assumption) ?_)
        | (refine And.intro (show _ ≤ mv_sh _ from Nat.le_of_ble_eq_true rfl) ?_)
        | (refine And.intro (show _ ≤ mv_sh _ ∧ vp_in _ _ from ⟨Nat.le_of_ble_eq_true rfl, by (first | (simp (disch := omega) only [ln_1, ln_9, ln_62, ln_91, not_true_eq_false, not_false_eq_true, Classical.not_not, ofn, b_z, b_nz, b_z', b_nz', mv_rd, mv_rn, mv_ld, mv_ln_, lit, nI_add, pk_mul, nI_clamp]; exact vp_in_nI (by omega) (by omega)) | (exact vp_in_nI (by omega) (by omega)))⟩) ?_)
        | (refine And.intro (show (_ : Int32) = 0 ∨ (_ : Int32) = 1 from by first | exact Or.inl rfl | exact Or.inr rfl | exact bI_01 _) ?_)
        | (refine And.intro (show mv_sh _ = _ ∧ vp_in _ _ from ⟨rfl, by (first | (simp (disch := omega) only [ln_1, ln_9, ln_62, ln_91, not_true_eq_false, not_false_eq_true, Classical.not_not, ofn, b_z, b_nz, b_z', b_nz', mv_rd, mv_rn, mv_ld, mv_ln_, lit, nI_add, pk_mul, nI_clamp]; exact vp_in_nI (by omega) (by omega)) | (exact vp_in_nI (by omega) (by omega)))⟩) ?_)
        | (refine And.intro (show mv_sh _ = _ ∧ vp_in _ _ from ⟨by assumption, by (first | (simp (disch := omega) only [ln_1, ln_9, ln_62, ln_91, not_true_eq_false, not_false_eq_true, Classical.not_not, ofn, b_z, b_nz, b_z', b_nz', mv_rd, mv_rn, mv_ld, mv_ln_, lit, nI_add, pk_mul, nI_clamp]; exact vp_in_nI (by omega) (by omega)) | (exact vp_in_nI (by omega) (by omega)))⟩) ?_)
        | (refine And.intro (show ¬ (_ : Int32) = 0 by decide) ?_)
        | (refine ⟨_, rfl, ?_⟩)
        | (refine And.intro (show (none : Option Value) = none from rfl) ?_)
        | (refine Or.inl ⟨rfl, ?_⟩)
        | (refine Or.inr ⟨_, rfl, ?_⟩)
        | (refine dt (by (first | assumption | omega | ((try simp (disch := omega) only [not_true_eq_false, not_false_eq_true, Classical.not_not, ofn, b_z, b_nz, b_z', b_nz', mv_rd, mv_rn, mv_ld, mv_ln_, lit, nI_add, pk_mul, nI_clamp]); (try simp (disch := omega) only [fa_lt, fa_le, fa_eq, nI_toInt, pk_sub_toInt, nI_m1, nI_m1', not_false_eq_true, true_and, and_true]); first | done | omega))) ?_)
        | (refine df (by (first | assumption | omega | ((try simp (disch := omega) only [not_true_eq_false, not_false_eq_true, Classical.not_not, ofn, b_z, b_nz, b_z', b_nz', mv_rd, mv_rn, mv_ld, mv_ln_, lit, nI_add, pk_mul, nI_clamp]); (try simp (disch := omega) only [fa_lt, fa_le, fa_eq, nI_toInt, pk_sub_toInt, nI_m1, nI_m1', not_false_eq_true, true_and, and_true]); first | done | omega))) ?_)
        | (refine dt' (by (first | assumption | omega | ((try simp (disch := omega) only [not_true_eq_false, not_false_eq_true, Classical.not_not, ofn, b_z, b_nz, b_z', b_nz', mv_rd, mv_rn, mv_ld, mv_ln_, lit, nI_add, pk_mul, nI_clamp]); (try simp (disch := omega) only [fa_lt, fa_le, fa_eq, nI_toInt, pk_sub_toInt, nI_m1, nI_m1', not_false_eq_true, true_and, and_true]); first | done | omega))) ?_)
        | (refine df' (by (first | assumption | omega | ((try simp (disch := omega) only [not_true_eq_false, not_false_eq_true, Classical.not_not, ofn, b_z, b_nz, b_z', b_nz', mv_rd, mv_rn, mv_ld, mv_ln_, lit, nI_add, pk_mul, nI_clamp]); (try simp (disch := omega) only [fa_lt, fa_le, fa_eq, nI_toInt, pk_sub_toInt, nI_m1, nI_m1', not_false_eq_true, true_and, and_true]); first | done | omega))) ?_)
        )
    refine w_Ref_count ?_
    rw [e1, e2, e3]
    repeat (first
        | (refine And.intro (show mv_sh _ = _ from rfl) ?_)
        | (refine And.intro (show mv_sh _ = _ by assumption) ?_)
        | (refine And.intro (show _ ≤ mv_sh _ from Nat.le_of_ble_eq_true rfl) ?_)
        | (refine And.intro (show _ ≤ mv_sh _ ∧ vp_in _ _ from ⟨Nat.le_of_ble_eq_true rfl, by (first | (simp (disch := omega) only [ln_1, ln_9, ln_62, ln_91, not_true_eq_false, not_false_eq_true, Classical.not_not, ofn, b_z, b_nz, b_z', b_nz', mv_rd, mv_rn, mv_ld, mv_ln_, lit, nI_add, pk_mul, nI_clamp]; exact vp_in_nI (by omega) (by omega)) | (exact vp_in_nI (by omega) (by omega)))⟩) ?_)
        | (refine And.intro (show (_ : Int32) = 0 ∨ (_ : Int32) = 1 from by first | exact Or.inl rfl | exact Or.inr rfl | exact bI_01 _) ?_)
        | (refine And.intro (show mv_sh _ = _ ∧ vp_in _ _ from ⟨rfl, by (first | (simp (disch := omega) only [ln_1, ln_9, ln_62, ln_91, not_true_eq_false, not_false_eq_true, Classical.not_not, ofn, b_z, b_nz, b_z', b_nz', mv_rd, mv_rn, mv_ld, mv_ln_, lit, nI_add, pk_mul, nI_clamp]; exact vp_in_nI (by omega) (by omega)) | (exact vp_in_nI (by omega) (by omega)))⟩) ?_)
        | (refine And.intro (show mv_sh _ = _ ∧ vp_in _ _ from ⟨by assumption, by (first | (simp (disch := omega) only [ln_1, ln_9, ln_62, ln_91, not_true_eq_false, not_false_eq_true, Classical.not_not, ofn, b_z, b_nz, b_z', b_nz', mv_rd, mv_rn, mv_ld, mv_ln_, lit, nI_add, pk_mul, nI_clamp]; exact vp_in_nI (by omega) (by omega)) | (exact vp_in_nI (by omega) (by omega)))⟩) ?_)
        | (refine And.intro (show ¬ (_ : Int32) = 0 by decide) ?_)
        | (refine ⟨_, rfl, ?_⟩)
        | (refine And.intro (show (none : Option Value) = none from rfl) ?_)
        | (refine Or.inl ⟨rfl, ?_⟩)
        | (refine Or.inr ⟨_, rfl, ?_⟩)
        | (refine dt (by (first | assumption | omega | ((try simp (disch := omega) only [not_true_eq_false, not_false_eq_true, Classical.not_not, ofn, b_z, b_nz, b_z', b_nz', mv_rd, mv_rn, mv_ld, mv_ln_, lit, nI_add, pk_mul, nI_clamp]); (try simp (disch := omega) only [fa_lt, fa_le, fa_eq, nI_toInt, pk_sub_toInt, nI_m1, nI_m1', not_false_eq_true, true_and, and_true]); first | done | omega))) ?_)
        | (refine df (by (first | assumption | omega | ((try simp (disch := omega) only [not_true_eq_false, not_false_eq_true, Classical.not_not, ofn, b_z, b_nz, b_z', b_nz', mv_rd, mv_rn, mv_ld, mv_ln_, lit, nI_add, pk_mul, nI_clamp]); (try simp (disch := omega) only [fa_lt, fa_le, fa_eq, nI_toInt, pk_sub_toInt, nI_m1, nI_m1', not_false_eq_true, true_and, and_true]); first | done | omega))) ?_)
        | (refine dt' (by (first | assumption | omega | ((try simp (disch := omega) only [not_true_eq_false, not_false_eq_true, Classical.not_not, ofn, b_z, b_nz, b_z', b_nz', mv_rd, mv_rn, mv_ld, mv_ln_, lit, nI_add, pk_mul, nI_clamp]); (try simp (disch := omega) only [fa_lt, fa_le, fa_eq, nI_toInt, pk_sub_toInt, nI_m1, nI_m1', not_false_eq_true, true_and, and_true]); first | done | omega))) ?_)
        | (refine df' (by (first | assumption | omega | ((try simp (disch := omega) only [not_true_eq_false, not_false_eq_true, Classical.not_not, ofn, b_z, b_nz, b_z', b_nz', mv_rd, mv_rn, mv_ld, mv_ln_, lit, nI_add, pk_mul, nI_clamp]); (try simp (disch := omega) only [fa_lt, fa_le, fa_eq, nI_toInt, pk_sub_toInt, nI_m1, nI_m1', not_false_eq_true, true_and, and_true]); first | done | omega))) ?_)
        )
    exact ⟨by rw [hT.2.1, hT.2.2.1], rfl⟩
  by_cases g3 : a1 = nI 3
  · subst g3
    repeat (first
        | (refine And.intro (show mv_sh _ = _ from rfl) ?_)
        | (refine And.intro (show mv_sh _ = _ by assumption) ?_)
        | (refine And.intro (show _ ≤ mv_sh _ from Nat.le_of_ble_eq_true rfl) ?_)
        | (refine And.intro (show _ ≤ mv_sh _ ∧ vp_in _ _ from ⟨Nat.le_of_ble_eq_true rfl, by (first | (simp (disch := omega) only [ln_1, ln_9, ln_62, ln_91, not_true_eq_false, not_false_eq_true, Classical.not_not, ofn, b_z, b_nz, b_z', b_nz', mv_rd, mv_rn, mv_ld, mv_ln_, lit, nI_add, pk_mul, nI_clamp]; exact vp_in_nI (by omega) (by omega)) | (exact vp_in_nI (by omega) (by omega)))⟩) ?_)
        | (refine And.intro (show (_ : Int32) = 0 ∨ (_ : Int32) = 1 from by first | exact Or.inl rfl | exact Or.inr rfl | exact bI_01 _) ?_)
        | (refine And.intro (show mv_sh _ = _ ∧ vp_in _ _ from ⟨rfl, by (first | (simp (disch := omega) only [ln_1, ln_9, ln_62, ln_91, not_true_eq_false, not_false_eq_true, Classical.not_not, ofn, b_z, b_nz, b_z', b_nz', mv_rd, mv_rn, mv_ld, mv_ln_, lit, nI_add, pk_mul, nI_clamp]; exact vp_in_nI (by omega) (by omega)) | (exact vp_in_nI (by omega) (by omega)))⟩) ?_)
        | (refine And.intro (show mv_sh _ = _ ∧ vp_in _ _ from ⟨by assumption, by (first | (simp (disch := omega) only [ln_1, ln_9, ln_62, ln_91, not_true_eq_false, not_false_eq_true, Classical.not_not, ofn, b_z, b_nz, b_z', b_nz', mv_rd, mv_rn, mv_ld, mv_ln_, lit, nI_add, pk_mul, nI_clamp]; exact vp_in_nI (by omega) (by omega)) | (exact vp_in_nI (by omega) (by omega)))⟩) ?_)
        | (refine And.intro (show ¬ (_ : Int32) = 0 by decide) ?_)
        | (refine ⟨_, rfl, ?_⟩)
        | (refine And.intro (show (none : Option Value) = none from rfl) ?_)
        | (refine Or.inl ⟨rfl, ?_⟩)
        | (refine Or.inr ⟨_, rfl, ?_⟩)
        | (refine dt (by (first | assumption | omega | ((try simp (disch := omega) only [not_true_eq_false, not_false_eq_true, Classical.not_not, ofn, b_z, b_nz, b_z', b_nz', mv_rd, mv_rn, mv_ld, mv_ln_, lit, nI_add, pk_mul, nI_clamp]); (try simp (disch := omega) only [fa_lt, fa_le, fa_eq, nI_toInt, pk_sub_toInt, nI_m1, nI_m1', not_false_eq_true, true_and, and_true]); first | done | omega))) ?_)
        | (refine df (by (first | assumption | omega | ((try simp (disch := omega) only [not_true_eq_false, not_false_eq_true, Classical.not_not, ofn, b_z, b_nz, b_z', b_nz', mv_rd, mv_rn, mv_ld, mv_ln_, lit, nI_add, pk_mul, nI_clamp]); (try simp (disch := omega) only [fa_lt, fa_le, fa_eq, nI_toInt, pk_sub_toInt, nI_m1, nI_m1', not_false_eq_true, true_and, and_true]); first | done | omega))) ?_)
        | (refine dt' (by (first | assumption | omega | ((try simp (disch := omega) only [not_true_eq_false, not_false_eq_true, Classical.not_not, ofn, b_z, b_nz, b_z', b_nz', mv_rd, mv_rn, mv_ld, mv_ln_, lit, nI_add, pk_mul, nI_clamp]); (try simp (disch := omega) only [fa_lt, fa_le, fa_eq, nI_toInt, pk_sub_toInt, nI_m1, nI_m1', not_false_eq_true, true_and, and_true]); first | done | omega))) ?_)
        | (refine df' (by (first | assumption | omega | ((try simp (disch := omega) only [not_true_eq_false, not_false_eq_true, Classical.not_not, ofn, b_z, b_nz, b_z', b_nz', mv_rd, mv_rn, mv_ld, mv_ln_, lit, nI_add, pk_mul, nI_clamp]); (try simp (disch := omega) only [fa_lt, fa_le, fa_eq, nI_toInt, pk_sub_toInt, nI_m1, nI_m1', not_false_eq_true, true_and, and_true]); first | done | omega))) ?_)
        | (refine s_pointsOfAll h ?_)
        )
    refine w_Ref_count ?_
    rw [e1, e2, e3]
    repeat (first
        | (refine And.intro (show mv_sh _ = _ from rfl) ?_)
        | (refine And.intro (show mv_sh _ = _ by assumption) ?_)
        | (refine And.intro (show _ ≤ mv_sh _ from Nat.le_of_ble_eq_true rfl) ?_)
        | (refine And.intro (show _ ≤ mv_sh _ ∧ vp_in _ _ from ⟨Nat.le_of_ble_eq_true rfl, by (first | (simp (disch := omega) only [ln_1, ln_9, ln_62, ln_91, not_true_eq_false, not_false_eq_true, Classical.not_not, ofn, b_z, b_nz, b_z', b_nz', mv_rd, mv_rn, mv_ld, mv_ln_, lit, nI_add, pk_mul, nI_clamp]; exact vp_in_nI (by omega) (by omega)) | (exact vp_in_nI (by omega) (by omega)))⟩) ?_)
        | (refine And.intro (show (_ : Int32) = 0 ∨ (_ : Int32) = 1 from by first | exact Or.inl rfl | exact Or.inr rfl | exact bI_01 _) ?_)
        | (refine And.intro (show mv_sh _ = _ ∧ vp_in _ _ from ⟨rfl, by (first | (simp (disch := omega) only [ln_1, ln_9, ln_62, ln_91, not_true_eq_false, not_false_eq_true, Classical.not_not, ofn, b_z, b_nz, b_z', b_nz', mv_rd, mv_rn, mv_ld, mv_ln_, lit, nI_add, pk_mul, nI_clamp]; exact vp_in_nI (by omega) (by omega)) | (exact vp_in_nI (by omega) (by omega)))⟩) ?_)
        | (refine And.intro (show mv_sh _ = _ ∧ vp_in _ _ from ⟨by assumption, by (first | (simp (disch := omega) only [ln_1, ln_9, ln_62, ln_91, not_true_eq_false, not_false_eq_true, Classical.not_not, ofn, b_z, b_nz, b_z', b_nz', mv_rd, mv_rn, mv_ld, mv_ln_, lit, nI_add, pk_mul, nI_clamp]; exact vp_in_nI (by omega) (by omega)) | (exact vp_in_nI (by omega) (by omega)))⟩) ?_)
        | (refine And.intro (show ¬ (_ : Int32) = 0 by decide) ?_)
        | (refine ⟨_, rfl, ?_⟩)
        | (refine And.intro (show (none : Option Value) = none from rfl) ?_)
        | (refine Or.inl ⟨rfl, ?_⟩)
        | (refine Or.inr ⟨_, rfl, ?_⟩)
        | (refine dt (by (first | assumption | omega | ((try simp (disch := omega) only [not_true_eq_false, not_false_eq_true, Classical.not_not, ofn, b_z, b_nz, b_z', b_nz', mv_rd, mv_rn, mv_ld, mv_ln_, lit, nI_add, pk_mul, nI_clamp]); (try simp (disch := omega) only [fa_lt, fa_le, fa_eq, nI_toInt, pk_sub_toInt, nI_m1, nI_m1', not_false_eq_true, true_and, and_true]); first | done | omega))) ?_)
        | (refine df (by (first | assumption | omega | ((try simp (disch := omega) only [not_true_eq_false, not_false_eq_true, Classical.not_not, ofn, b_z, b_nz, b_z', b_nz', mv_rd, mv_rn, mv_ld, mv_ln_, lit, nI_add, pk_mul, nI_clamp]); (try simp (disch := omega) only [fa_lt, fa_le, fa_eq, nI_toInt, pk_sub_toInt, nI_m1, nI_m1', not_false_eq_true, true_and, and_true]); first | done | omega))) ?_)
        | (refine dt' (by (first | assumption | omega | ((try simp (disch := omega) only [not_true_eq_false, not_false_eq_true, Classical.not_not, ofn, b_z, b_nz, b_z', b_nz', mv_rd, mv_rn, mv_ld, mv_ln_, lit, nI_add, pk_mul, nI_clamp]); (try simp (disch := omega) only [fa_lt, fa_le, fa_eq, nI_toInt, pk_sub_toInt, nI_m1, nI_m1', not_false_eq_true, true_and, and_true]); first | done | omega))) ?_)
        | (refine df' (by (first | assumption | omega | ((try simp (disch := omega) only [not_true_eq_false, not_false_eq_true, Classical.not_not, ofn, b_z, b_nz, b_z', b_nz', mv_rd, mv_rn, mv_ld, mv_ln_, lit, nI_add, pk_mul, nI_clamp]); (try simp (disch := omega) only [fa_lt, fa_le, fa_eq, nI_toInt, pk_sub_toInt, nI_m1, nI_m1', not_false_eq_true, true_and, and_true]); first | done | omega))) ?_)
        )
    exact r_countPoints h ⟨rfl, rfl⟩
  repeat (first
      | (refine And.intro (show mv_sh _ = _ from rfl) ?_)
      | (refine And.intro (show mv_sh _ = _ by assumption) ?_)
      | (refine And.intro (show _ ≤ mv_sh _ from Nat.le_of_ble_eq_true rfl) ?_)
      | (refine And.intro (show _ ≤ mv_sh _ ∧ vp_in _ _ from ⟨Nat.le_of_ble_eq_true rfl, by (first | (simp (disch := omega) only [ln_1, ln_9, ln_62, ln_91, not_true_eq_false, not_false_eq_true, Classical.not_not, ofn, b_z, b_nz, b_z', b_nz', mv_rd, mv_rn, mv_ld, mv_ln_, lit, nI_add, pk_mul, nI_clamp]; exact vp_in_nI (by omega) (by omega)) | (exact vp_in_nI (by omega) (by omega)))⟩) ?_)
      | (refine And.intro (show (_ : Int32) = 0 ∨ (_ : Int32) = 1 from by first | exact Or.inl rfl | exact Or.inr rfl | exact bI_01 _) ?_)
      | (refine And.intro (show mv_sh _ = _ ∧ vp_in _ _ from ⟨rfl, by (first | (simp (disch := omega) only [ln_1, ln_9, ln_62, ln_91, not_true_eq_false, not_false_eq_true, Classical.not_not, ofn, b_z, b_nz, b_z', b_nz', mv_rd, mv_rn, mv_ld, mv_ln_, lit, nI_add, pk_mul, nI_clamp]; exact vp_in_nI (by omega) (by omega)) | (exact vp_in_nI (by omega) (by omega)))⟩) ?_)
      | (refine And.intro (show mv_sh _ = _ ∧ vp_in _ _ from ⟨by assumption, by (first | (simp (disch := omega) only [ln_1, ln_9, ln_62, ln_91, not_true_eq_false, not_false_eq_true, Classical.not_not, ofn, b_z, b_nz, b_z', b_nz', mv_rd, mv_rn, mv_ld, mv_ln_, lit, nI_add, pk_mul, nI_clamp]; exact vp_in_nI (by omega) (by omega)) | (exact vp_in_nI (by omega) (by omega)))⟩) ?_)
      | (refine And.intro (show ¬ (_ : Int32) = 0 by decide) ?_)
      | (refine ⟨_, rfl, ?_⟩)
      | (refine And.intro (show (none : Option Value) = none from rfl) ?_)
      | (refine Or.inl ⟨rfl, ?_⟩)
      | (refine Or.inr ⟨_, rfl, ?_⟩)
      | (refine dt (by (first | assumption | omega | ((try simp (disch := omega) only [not_true_eq_false, not_false_eq_true, Classical.not_not, ofn, b_z, b_nz, b_z', b_nz', mv_rd, mv_rn, mv_ld, mv_ln_, lit, nI_add, pk_mul, nI_clamp]); (try simp (disch := omega) only [fa_lt, fa_le, fa_eq, nI_toInt, pk_sub_toInt, nI_m1, nI_m1', not_false_eq_true, true_and, and_true]); first | done | omega))) ?_)
      | (refine df (by (first | assumption | omega | ((try simp (disch := omega) only [not_true_eq_false, not_false_eq_true, Classical.not_not, ofn, b_z, b_nz, b_z', b_nz', mv_rd, mv_rn, mv_ld, mv_ln_, lit, nI_add, pk_mul, nI_clamp]); (try simp (disch := omega) only [fa_lt, fa_le, fa_eq, nI_toInt, pk_sub_toInt, nI_m1, nI_m1', not_false_eq_true, true_and, and_true]); first | done | omega))) ?_)
      | (refine dt' (by (first | assumption | omega | ((try simp (disch := omega) only [not_true_eq_false, not_false_eq_true, Classical.not_not, ofn, b_z, b_nz, b_z', b_nz', mv_rd, mv_rn, mv_ld, mv_ln_, lit, nI_add, pk_mul, nI_clamp]); (try simp (disch := omega) only [fa_lt, fa_le, fa_eq, nI_toInt, pk_sub_toInt, nI_m1, nI_m1', not_false_eq_true, true_and, and_true]); first | done | omega))) ?_)
      | (refine df' (by (first | assumption | omega | ((try simp (disch := omega) only [not_true_eq_false, not_false_eq_true, Classical.not_not, ofn, b_z, b_nz, b_z', b_nz', mv_rd, mv_rn, mv_ld, mv_ln_, lit, nI_add, pk_mul, nI_clamp]); (try simp (disch := omega) only [fa_lt, fa_le, fa_eq, nI_toInt, pk_sub_toInt, nI_m1, nI_m1', not_false_eq_true, true_and, and_true]); first | done | omega))) ?_)
      )
  refine w_Ref_count ?_
  rw [e1, e2, e3]
  repeat (first
      | (refine And.intro (show mv_sh _ = _ from rfl) ?_)
      | (refine And.intro (show mv_sh _ = _ by assumption) ?_)
      | (refine And.intro (show _ ≤ mv_sh _ from Nat.le_of_ble_eq_true rfl) ?_)
      | (refine And.intro (show _ ≤ mv_sh _ ∧ vp_in _ _ from ⟨Nat.le_of_ble_eq_true rfl, by (first | (simp (disch := omega) only [ln_1, ln_9, ln_62, ln_91, not_true_eq_false, not_false_eq_true, Classical.not_not, ofn, b_z, b_nz, b_z', b_nz', mv_rd, mv_rn, mv_ld, mv_ln_, lit, nI_add, pk_mul, nI_clamp]; exact vp_in_nI (by omega) (by omega)) | (exact vp_in_nI (by omega) (by omega)))⟩) ?_)
      | (refine And.intro (show (_ : Int32) = 0 ∨ (_ : Int32) = 1 from by first | exact Or.inl rfl | exact Or.inr rfl | exact bI_01 _) ?_)
      | (refine And.intro (show mv_sh _ = _ ∧ vp_in _ _ from ⟨rfl, by (first | (simp (disch := omega) only [ln_1, ln_9, ln_62, ln_91, not_true_eq_false, not_false_eq_true, Classical.not_not, ofn, b_z, b_nz, b_z', b_nz', mv_rd, mv_rn, mv_ld, mv_ln_, lit, nI_add, pk_mul, nI_clamp]; exact vp_in_nI (by omega) (by omega)) | (exact vp_in_nI (by omega) (by omega)))⟩) ?_)
      | (refine And.intro (show mv_sh _ = _ ∧ vp_in _ _ from ⟨by assumption, by (first | (simp (disch := omega) only [ln_1, ln_9, ln_62, ln_91, not_true_eq_false, not_false_eq_true, Classical.not_not, ofn, b_z, b_nz, b_z', b_nz', mv_rd, mv_rn, mv_ld, mv_ln_, lit, nI_add, pk_mul, nI_clamp]; exact vp_in_nI (by omega) (by omega)) | (exact vp_in_nI (by omega) (by omega)))⟩) ?_)
      | (refine And.intro (show ¬ (_ : Int32) = 0 by decide) ?_)
      | (refine ⟨_, rfl, ?_⟩)
      | (refine And.intro (show (none : Option Value) = none from rfl) ?_)
      | (refine Or.inl ⟨rfl, ?_⟩)
      | (refine Or.inr ⟨_, rfl, ?_⟩)
      | (refine dt (by (first | assumption | omega | ((try simp (disch := omega) only [not_true_eq_false, not_false_eq_true, Classical.not_not, ofn, b_z, b_nz, b_z', b_nz', mv_rd, mv_rn, mv_ld, mv_ln_, lit, nI_add, pk_mul, nI_clamp]); (try simp (disch := omega) only [fa_lt, fa_le, fa_eq, nI_toInt, pk_sub_toInt, nI_m1, nI_m1', not_false_eq_true, true_and, and_true]); first | done | omega))) ?_)
      | (refine df (by (first | assumption | omega | ((try simp (disch := omega) only [not_true_eq_false, not_false_eq_true, Classical.not_not, ofn, b_z, b_nz, b_z', b_nz', mv_rd, mv_rn, mv_ld, mv_ln_, lit, nI_add, pk_mul, nI_clamp]); (try simp (disch := omega) only [fa_lt, fa_le, fa_eq, nI_toInt, pk_sub_toInt, nI_m1, nI_m1', not_false_eq_true, true_and, and_true]); first | done | omega))) ?_)
      | (refine dt' (by (first | assumption | omega | ((try simp (disch := omega) only [not_true_eq_false, not_false_eq_true, Classical.not_not, ofn, b_z, b_nz, b_z', b_nz', mv_rd, mv_rn, mv_ld, mv_ln_, lit, nI_add, pk_mul, nI_clamp]); (try simp (disch := omega) only [fa_lt, fa_le, fa_eq, nI_toInt, pk_sub_toInt, nI_m1, nI_m1', not_false_eq_true, true_and, and_true]); first | done | omega))) ?_)
      | (refine df' (by (first | assumption | omega | ((try simp (disch := omega) only [not_true_eq_false, not_false_eq_true, Classical.not_not, ofn, b_z, b_nz, b_z', b_nz', mv_rd, mv_rn, mv_ld, mv_ln_, lit, nI_add, pk_mul, nI_clamp]); (try simp (disch := omega) only [fa_lt, fa_le, fa_eq, nI_toInt, pk_sub_toInt, nI_m1, nI_m1', not_false_eq_true, true_and, and_true]); first | done | omega))) ?_)
      )
  exact ⟨rfl, rfl⟩
end HOST
