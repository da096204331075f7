/-! ===== load ===== -/
set_option maxRecDepth 10000 in
theorem h_Ref_load_66L {X : mv_X} {d : Nat} {σ : mv_S} {Q : mv_Q} {y7 : Int64} {x1 : Int32} {x3 : Int32} {x4 : Int32} {x5 : Int32} {x6 : Int32} (h : mv_sh 61 = 12 ∧ mv_wp X d 150 [.ref 61, .int x4] σ (fun r1 σ1 => ∃ v1, r1 = some (.int v1) ∧ (((3 * v1) ≤ x6 → Q (some (.int x5)) σ1) ∧ (¬ (3 * v1) ≤ x6 → mv_sh 61 = 12 ∧ ((mv_sh 94 = 20 ∧ vp_in x1 (mv_ln 94)) ∧ (mv_wp X d 147 [.long (((x3 : Int32).toInt64) + ((x6 : Int32).toInt64)), .long 0, .long (((σ1.1 94 (x1 : Int32).toNatClampNeg : Int32).toInt64) - 1)] σ1 (fun r2 σ2 => ∃ v2, r2 = some (.int v2) ∧ ((¬ v2 = 0 → mv_sh 61 = 12 ∧ ((mv_sh 95 = 20 ∧ vp_in ((40 * x1) + ((((x3 : Int32).toInt64) + ((x6 : Int32).toInt64) : Int64).toInt32)) (mv_ln 95)) ∧ (mv_sh 61 = 12 ∧ mv_wp X d 151 [.ref 61, .int x4, .int (σ2.1 95 (((40 * x1) + ((((x3 : Int32).toInt64) + ((x6 : Int32).toInt64) : Int64).toInt32)) : Int32).toNatClampNeg)] σ2 (fun r3 σ3 => ∃ v3, r3 = some (.int v3) ∧ ((v3 = 0 → mv_wf X (mv_wp X d) m_Ref_load Q 66 [.ref 61, .int x1, .retAddr 0, .int x3, .int x4, .int x5, .int (x6 + 1), .long (((x3 : Int32).toInt64) + ((x6 : Int32).toInt64)), .retAddr 0, .retAddr 0] [] σ3) ∧ (¬ v3 = 0 → mv_sh 61 = 12 ∧ ((mv_sh 62 = 20 ∧ vp_in (((15 * x4) + 3) + x6) (mv_ln 62)) ∧ (mv_wf X (mv_wp X d) m_Ref_load Q 66 [.ref 61, .int x1, .retAddr 0, .int x3, .int x4, .int (x5 + 1), .int (x6 + 1), .long (((x3 : Int32).toInt64) + ((x6 : Int32).toInt64)), .retAddr 0, .retAddr 0] [] (mv_pi σ3 62 ((((15 * x4) + 3) + x6) : Int32).toNatClampNeg (σ2.1 95 (((40 * x1) + ((((x3 : Int32).toInt64) + ((x6 : Int32).toInt64) : Int64).toInt32)) : Int32).toNatClampNeg)))))))))) ∧ (v2 = 0 → Q (some (.int (-12))) σ2))))))))) : mv_wf X (mv_wp X d) m_Ref_load Q 66 [.ref 61, .int x1, .retAddr 0, .int x3, .int x4, .int x5, .int x6, .long y7, .retAddr 0, .retAddr 0] [] σ :=
  mv_run2 [(66, [2, 7, 8, 9])] 97 h
section LOAD
variable {X : mv_X} {d : Nat} {σ : mv_S} {Q : mv_Q}
def pk_pt (p : Nat) (x : Int32) : Prop := 0 ≤ x.toInt ∧ x.toInt ≤ (p : Int) - 1
theorem pk_pt_x {p : Nat} {x : Int32} (h : pk_pt p x) (hp : p ≤ 4) : x = nI x.toNatClampNeg ∧ x.toNatClampNeg < p := by
  unfold pk_pt at h
  obtain ⟨k, hk, rfl⟩ := (ix_cs2 x).resolve_left (by omega)
  rw [nI_toInt hk] at h
  rw [nI_clamp hk]
  exact ⟨rfl, by omega⟩
def ld_mv (p f : Nat) (I : Nat → Int32) (mv : Nat → Nat) (k j : Nat) : Nat := if j < k ∧ 0 ≤ (I (f + j)).toInt ∧ (I (f + j)).toInt ≤ (p : Int) - 1 then (I (f + j)).toNatClampNeg else mv j
def ld_c (p f : Nat) (I : Nat → Int32) : Nat → Nat
  | 0 => 0
  | k + 1 => ld_c p f I k + if 0 ≤ (I (f + k)).toInt ∧ (I (f + k)).toInt ≤ (p : Int) - 1 then 1 else 0
theorem ld_c_s (p f : Nat) (I : Nat → Int32) (k : Nat) : ld_c p f I (k + 1) = ld_c p f I k + if 0 ≤ (I (f + k)).toInt ∧ (I (f + k)).toInt ≤ (p : Int) - 1 then 1 else 0 := rfl
theorem ld_c_le (p f : Nat) (I : Nat → Int32) : ∀ k, ld_c p f I k ≤ k
  | 0 => Nat.le_refl _
  | k + 1 => by
    have := ld_c_le p f I k
    rw [ld_c_s]; split <;> omega
theorem s_item {t i : Nat} (ht : sh_at t) (hi : i < 40) (hQ : Q (some (.int (σ.1 (t + 1) i))) σ) : mv_wp X (d + 1) 22 [.ref t, .int (nI i)] σ Q := by
  refine (w_Sheet_item _ _ _ _ _ _).mpr ?_
  rw [ht.2.1, ht.2.2.2, ht.2.2.1, nI_clamp (by omega)]
  have h1 := ht.1
  repeat (first
      | (refine And.intro (show mv_sh _ = _ from rfl) ?_)
      | (refine And.intro (show mv_sh _ = _ by assumption) ?_)
      | (refine And.intro (show _ ≤ mv_sh _ from Nat.le_of_ble_eq_true rfl) ?_)
      | (refine And.intro (show _ ≤ mv_sh _ ∧ vp_in _ _ from ⟨Nat.le_of_ble_eq_true rfl, by (first | (simp (disch := omega) only [ln_62, ln_93, ln_94, ln_95, not_true_eq_false, not_false_eq_true, Classical.not_not, ofn, b_z, b_nz, b_z', b_nz', mv_rd, mv_rn, mv_ld, mv_ln_, lit, nI_add, pk_mul, nI_clamp]; exact vp_in_nI (by omega) (by omega)) | (exact vp_in_nI (by omega) (by omega)))⟩) ?_)
      | (refine And.intro (show (_ : Int32) = 0 ∨ (_ : Int32) = 1 from by first | exact Or.inl rfl | exact Or.inr rfl | exact bI_01 _) ?_)
      | (refine And.intro (show mv_sh _ = _ ∧ vp_in _ _ from ⟨rfl, by (first | (simp (disch := omega) only [ln_62, ln_93, ln_94, ln_95, not_true_eq_false, not_false_eq_true, Classical.not_not, ofn, b_z, b_nz, b_z', b_nz', mv_rd, mv_rn, mv_ld, mv_ln_, lit, nI_add, pk_mul, nI_clamp]; exact vp_in_nI (by omega) (by omega)) | (exact vp_in_nI (by omega) (by omega)))⟩) ?_)
      | (refine And.intro (show mv_sh _ = _ ∧ vp_in _ _ from ⟨by assumption, by (first | (simp (disch := omega) only [ln_62, ln_93, ln_94, ln_95, not_true_eq_false, not_false_eq_true, Classical.not_not, ofn, b_z, b_nz, b_z', b_nz', mv_rd, mv_rn, mv_ld, mv_ln_, lit, nI_add, pk_mul, nI_clamp]; exact vp_in_nI (by omega) (by omega)) | (exact vp_in_nI (by omega) (by omega)))⟩) ?_)
      | (refine And.intro (show ¬ (_ : Int32) = 0 by decide) ?_)
      | (refine ⟨_, rfl, ?_⟩)
      | (refine And.intro (show (none : Option Value) = none from rfl) ?_)
      | (refine Or.inl ⟨rfl, ?_⟩)
      | (refine Or.inr ⟨_, rfl, ?_⟩)
      | (refine dt (by (first | assumption | omega | ((try simp (disch := omega) only [not_true_eq_false, not_false_eq_true, Classical.not_not, ofn, b_z, b_nz, b_z', b_nz', mv_rd, mv_rn, mv_ld, mv_ln_, lit, nI_add, pk_mul, nI_clamp]); (try simp (disch := omega) only [fa_lt, fa_le, fa_eq, nI_toInt, pk_sub_toInt, nI_m1, nI_m1', not_false_eq_true, true_and, and_true]); first | done | omega))) ?_)
      | (refine df (by (first | assumption | omega | ((try simp (disch := omega) only [not_true_eq_false, not_false_eq_true, Classical.not_not, ofn, b_z, b_nz, b_z', b_nz', mv_rd, mv_rn, mv_ld, mv_ln_, lit, nI_add, pk_mul, nI_clamp]); (try simp (disch := omega) only [fa_lt, fa_le, fa_eq, nI_toInt, pk_sub_toInt, nI_m1, nI_m1', not_false_eq_true, true_and, and_true]); first | done | omega))) ?_)
      | (refine dt' (by (first | assumption | omega | ((try simp (disch := omega) only [not_true_eq_false, not_false_eq_true, Classical.not_not, ofn, b_z, b_nz, b_z', b_nz', mv_rd, mv_rn, mv_ld, mv_ln_, lit, nI_add, pk_mul, nI_clamp]); (try simp (disch := omega) only [fa_lt, fa_le, fa_eq, nI_toInt, pk_sub_toInt, nI_m1, nI_m1', not_false_eq_true, true_and, and_true]); first | done | omega))) ?_)
      | (refine df' (by (first | assumption | omega | ((try simp (disch := omega) only [not_true_eq_false, not_false_eq_true, Classical.not_not, ofn, b_z, b_nz, b_z', b_nz', mv_rd, mv_rn, mv_ld, mv_ln_, lit, nI_add, pk_mul, nI_clamp]); (try simp (disch := omega) only [fa_lt, fa_le, fa_eq, nI_toInt, pk_sub_toInt, nI_m1, nI_m1', not_false_eq_true, true_and, and_true]); first | done | omega))) ?_)
      )
  exact ⟨⟨rfl, vp_in_nI (by omega) (by omega)⟩, hQ⟩
theorem s_hasItem' {t m : Nat} {x : Int32} (ht : sh_at t) (hm : σ.1 t 2 = nI m) (h4 : m ≤ 40) (hQ : Q (some (.int (if 0 ≤ x.toInt ∧ x.toInt ≤ (m : Int) - 1 then 1 else 0))) σ) : mv_wp X (d + 1) 20 [.ref t, .int x] σ Q := (s_hasItem ht hm h4).mpr hQ
theorem s_hasPt {t p : Nat} {x : Int32} (ht : mc_at t) (hp : σ.1 t 1 = nI p) (hp4 : p ≤ 4) (hQ : Q (some (.int (if 0 ≤ x.toInt ∧ x.toInt ≤ (p : Int) - 1 then 1 else 0))) σ) : mv_wp X (d + 1) 10 [.ref t, .int x] σ Q := by
  rcases ix_cs x p (by omega) with ⟨e1, e2⟩ | ⟨q, hq, rfl, e1⟩
  · rw [if_neg e2] at hQ
    exact (s_hasPoint_no ht hp e1).mpr hQ
  · rw [if_pos e1] at hQ
    exact (s_hasPoint_ok ht hp hp4 hq).mpr hQ
/-- how far both come, and what they answer -/
def ld_n (p f m : Nat) : Nat := if f + 3 * p ≤ m then 3 * p else m - f
def ld_r (p f m : Nat) (I : Nat → Int32) : Int32 := if f + 3 * p ≤ m then nI (ld_c p f I (3 * p)) else -12
theorem ld_set {p f k j : Nat} {I : Nat → Int32} {mv : Nat → Nat} (h : 0 ≤ (I (f + k)).toInt ∧ (I (f + k)).toInt ≤ (p : Int) - 1) : ld_mv p f I mv (k + 1) j = if j = k then (I (f + k)).toNatClampNeg else ld_mv p f I mv k j := by
  unfold ld_mv
  by_cases e : j = k
  · subst e; rw [if_pos ⟨by omega, h⟩, if_pos rfl]
  · rw [if_neg e]
    by_cases e2 : j < k
    · by_cases e3 : 0 ≤ (I (f + j)).toInt ∧ (I (f + j)).toInt ≤ (p : Int) - 1
      · rw [if_pos ⟨by omega, e3⟩, if_pos ⟨e2, e3⟩]
      · rw [if_neg (fun z => e3 z.2), if_neg (fun z => e3 z.2)]
    · rw [if_neg (by omega), if_neg (by omega)]
theorem ld_keep {p f k j : Nat} {I : Nat → Int32} {mv : Nat → Nat} (h : ¬ (0 ≤ (I (f + k)).toInt ∧ (I (f + k)).toInt ≤ (p : Int) - 1)) : ld_mv p f I mv (k + 1) j = ld_mv p f I mv k j := by
  unfold ld_mv
  by_cases e : j = k
  · subst e; rw [if_neg (fun z => h z.2), if_neg (fun z => h z.2)]
  · by_cases e3 : 0 ≤ (I (f + j)).toInt ∧ (I (f + j)).toInt ≤ (p : Int) - 1
    · by_cases e2 : j < k
      · rw [if_pos ⟨by omega, e3⟩, if_pos ⟨e2, e3⟩]
      · rw [if_neg (by omega), if_neg (by omega)]
    · rw [if_neg (fun z => e3 z.2), if_neg (fun z => e3 z.2)]
theorem ld_cl {t u p f m : Nat} {mv : Nat → Nat} {I : Nat → Int32} (ht : sh_at t) (hu : mc_at u) (hp : p ≤ 4) (hm : m ≤ 40) (hf : f < m) (hne : ¬ u + 1 = t) (hne2 : ¬ u + 1 = t + 1) (hm2 : σ.1 t 2 = nI m) (hI : ∀ j, j < 40 → σ.1 (t + 1) j = I j) (hpp : σ.1 u 1 = nI p)
    (hQ : ∀ τ : mv_S, (∀ j, j < 12 → τ.1 (u + 1) j = nI (ld_mv p f I mv (ld_n p f m) j)) → (∀ c j, ¬ c = u + 1 → τ.1 c j = σ.1 c j) → τ.2 = σ.2 → Q (some (.int (ld_r p f m I))) τ) :
    ∀ k i (τ : mv_S), i + k = 3 * p → f + i ≤ m → (∀ j, j < 12 → τ.1 (u + 1) j = nI (ld_mv p f I mv i j)) → (∀ c j, ¬ c = u + 1 → τ.1 c j = σ.1 c j) → τ.2 = σ.2 → mv_wf X (mv_wp X (d + 1)) m_WM_load Q 78 [.retAddr 0, .retAddr 0, .retAddr 0, .int (nI f), .retAddr 0, .ref t, .ref u, .int (nI (ld_c p f I i)), .int (nI i), .retAddr 0] [] τ := by
  intro k
  have ht1 := ht.1
  have hu1 := hu.1
  induction k with
  | zero =>
    intro i τ h1 h2 h3 h4 h5
    have hpp' := (h4 u 1 (by omega)).trans hpp
    refine h_WM_load_78 ?_
    repeat (first
        | (refine And.intro (show mv_sh _ = _ from rfl) ?_)
        | (refine And.intro (show mv_sh _ = _ by assumption) ?_)
        | (refine And.intro (show _ ≤ mv_sh _ from Nat.le_of_ble_eq_true rfl) ?_)
        | (refine And.intro (show _ ≤ mv_sh _ ∧ vp_in _ _ from ⟨Nat.le_of_ble_eq_true rfl, by (first | (simp (disch := omega) only [ln_62, ln_93, ln_94, ln_95, not_true_eq_false, not_false_eq_true, Classical.not_not, ofn, b_z, b_nz, b_z', b_nz', mv_rd, mv_rn, mv_ld, mv_ln_, lit, nI_add, pk_mul, nI_clamp, hpp']; exact vp_in_nI (by omega) (by omega)) | (exact vp_in_nI (by omega) (by omega)))⟩) ?_)
        | (refine And.intro (show (_ : Int32) = 0 ∨ (_ : Int32) = 1 from by first | exact Or.inl rfl | exact Or.inr rfl | exact bI_01 _) ?_)
        | (refine And.intro (show mv_sh _ = _ ∧ vp_in _ _ from ⟨rfl, by (first | (simp (disch := omega) only [ln_62, ln_93, ln_94, ln_95, not_true_eq_false, not_false_eq_true, Classical.not_not, ofn, b_z, b_nz, b_z', b_nz', mv_rd, mv_rn, mv_ld, mv_ln_, lit, nI_add, pk_mul, nI_clamp, hpp']; exact vp_in_nI (by omega) (by omega)) | (exact vp_in_nI (by omega) (by omega)))⟩) ?_)
        | (refine And.intro (show mv_sh _ = _ ∧ vp_in _ _ from ⟨by assumption, by (first | (simp (disch := omega) only [ln_62, ln_93, ln_94, ln_95, not_true_eq_false, not_false_eq_true, Classical.not_not, ofn, b_z, b_nz, b_z', b_nz', mv_rd, mv_rn, mv_ld, mv_ln_, lit, nI_add, pk_mul, nI_clamp, hpp']; exact vp_in_nI (by omega) (by omega)) | (exact vp_in_nI (by omega) (by omega)))⟩) ?_)
        | (refine And.intro (show ¬ (_ : Int32) = 0 by decide) ?_)
        | (refine ⟨_, rfl, ?_⟩)
        | (refine And.intro (show (none : Option Value) = none from rfl) ?_)
        | (refine Or.inl ⟨rfl, ?_⟩)
        | (refine Or.inr ⟨_, rfl, ?_⟩)
        | (refine dt (by (first | assumption | omega | ((try simp (disch := omega) only [not_true_eq_false, not_false_eq_true, Classical.not_not, ofn, b_z, b_nz, b_z', b_nz', mv_rd, mv_rn, mv_ld, mv_ln_, lit, nI_add, pk_mul, nI_clamp, hpp']); (try simp (disch := omega) only [fa_lt, fa_le, fa_eq, nI_toInt, pk_sub_toInt, nI_m1, nI_m1', not_false_eq_true, true_and, and_true, hpp']); first | done | omega))) ?_)
        | (refine df (by (first | assumption | omega | ((try simp (disch := omega) only [not_true_eq_false, not_false_eq_true, Classical.not_not, ofn, b_z, b_nz, b_z', b_nz', mv_rd, mv_rn, mv_ld, mv_ln_, lit, nI_add, pk_mul, nI_clamp, hpp']); (try simp (disch := omega) only [fa_lt, fa_le, fa_eq, nI_toInt, pk_sub_toInt, nI_m1, nI_m1', not_false_eq_true, true_and, and_true, hpp']); first | done | omega))) ?_)
        | (refine dt' (by (first | assumption | omega | ((try simp (disch := omega) only [not_true_eq_false, not_false_eq_true, Classical.not_not, ofn, b_z, b_nz, b_z', b_nz', mv_rd, mv_rn, mv_ld, mv_ln_, lit, nI_add, pk_mul, nI_clamp, hpp']); (try simp (disch := omega) only [fa_lt, fa_le, fa_eq, nI_toInt, pk_sub_toInt, nI_m1, nI_m1', not_false_eq_true, true_and, and_true, hpp']); first | done | omega))) ?_)
        | (refine df' (by (first | assumption | omega | ((try simp (disch := omega) only [not_true_eq_false, not_false_eq_true, Classical.not_not, ofn, b_z, b_nz, b_z', b_nz', mv_rd, mv_rn, mv_ld, mv_ln_, lit, nI_add, pk_mul, nI_clamp, hpp']); (try simp (disch := omega) only [fa_lt, fa_le, fa_eq, nI_toInt, pk_sub_toInt, nI_m1, nI_m1', not_false_eq_true, true_and, and_true, hpp']); first | done | omega))) ?_)
        )
    have e : ld_n p f m = i := by unfold ld_n; rw [if_pos (by omega)]; omega
    have := hQ τ (by rw [e]; exact h3) h4 h5
    unfold ld_r at this
    rw [if_pos (by omega), show 3 * p = i by omega] at this
    exact this
  | succ k ih =>
    intro i τ h1 h2 h3 h4 h5
    have hpp' := (h4 u 1 (by omega)).trans hpp
    have hm' := (h4 t 2 (by omega)).trans hm2
    refine h_WM_load_78 ?_
    by_cases e : f + i < m
    case neg =>
      repeat (first
          | (refine And.intro (show mv_sh _ = _ from rfl) ?_)
          | (refine And.intro (show mv_sh _ = _ by assumption) ?_)
          | (refine And.intro (show _ ≤ mv_sh _ from Nat.le_of_ble_eq_true rfl) ?_)
          | (refine And.intro (show _ ≤ mv_sh _ ∧ vp_in _ _ from ⟨Nat.le_of_ble_eq_true rfl, by (first | (simp (disch := omega) only [ln_62, ln_93, ln_94, ln_95, not_true_eq_false, not_false_eq_true, Classical.not_not, ofn, b_z, b_nz, b_z', b_nz', mv_rd, mv_rn, mv_ld, mv_ln_, lit, nI_add, pk_mul, nI_clamp, hpp']; exact vp_in_nI (by omega) (by omega)) | (exact vp_in_nI (by omega) (by omega)))⟩) ?_)
          | (refine And.intro (show (_ : Int32) = 0 ∨ (_ : Int32) = 1 from by first | exact Or.inl rfl | exact Or.inr rfl | exact bI_01 _) ?_)
          | (refine And.intro (show mv_sh _ = _ ∧ vp_in _ _ from ⟨rfl, by (first | (simp (disch := omega) only [ln_62, ln_93, ln_94, ln_95, not_true_eq_false, not_false_eq_true, Classical.not_not, ofn, b_z, b_nz, b_z', b_nz', mv_rd, mv_rn, mv_ld, mv_ln_, lit, nI_add, pk_mul, nI_clamp, hpp']; exact vp_in_nI (by omega) (by omega)) | (exact vp_in_nI (by omega) (by omega)))⟩) ?_)
          | (refine And.intro (show mv_sh _ = _ ∧ vp_in _ _ from ⟨by assumption, by (first | (simp (disch := omega) only [ln_62, ln_93, ln_94, ln_95, not_true_eq_false, not_false_eq_true, Classical.not_not, ofn, b_z, b_nz, b_z', b_nz', mv_rd, mv_rn, mv_ld, mv_ln_, lit, nI_add, pk_mul, nI_clamp, hpp']; exact vp_in_nI (by omega) (by omega)) | (exact vp_in_nI (by omega) (by omega)))⟩) ?_)
          | (refine And.intro (show ¬ (_ : Int32) = 0 by decide) ?_)
          | (refine ⟨_, rfl, ?_⟩)
          | (refine And.intro (show (none : Option Value) = none from rfl) ?_)
          | (refine Or.inl ⟨rfl, ?_⟩)
          | (refine Or.inr ⟨_, rfl, ?_⟩)
          | (refine dt (by (first | assumption | omega | ((try simp (disch := omega) only [not_true_eq_false, not_false_eq_true, Classical.not_not, ofn, b_z, b_nz, b_z', b_nz', mv_rd, mv_rn, mv_ld, mv_ln_, lit, nI_add, pk_mul, nI_clamp, hpp']); (try simp (disch := omega) only [fa_lt, fa_le, fa_eq, nI_toInt, pk_sub_toInt, nI_m1, nI_m1', not_false_eq_true, true_and, and_true, hpp']); first | done | omega))) ?_)
          | (refine df (by (first | assumption | omega | ((try simp (disch := omega) only [not_true_eq_false, not_false_eq_true, Classical.not_not, ofn, b_z, b_nz, b_z', b_nz', mv_rd, mv_rn, mv_ld, mv_ln_, lit, nI_add, pk_mul, nI_clamp, hpp']); (try simp (disch := omega) only [fa_lt, fa_le, fa_eq, nI_toInt, pk_sub_toInt, nI_m1, nI_m1', not_false_eq_true, true_and, and_true, hpp']); first | done | omega))) ?_)
          | (refine dt' (by (first | assumption | omega | ((try simp (disch := omega) only [not_true_eq_false, not_false_eq_true, Classical.not_not, ofn, b_z, b_nz, b_z', b_nz', mv_rd, mv_rn, mv_ld, mv_ln_, lit, nI_add, pk_mul, nI_clamp, hpp']); (try simp (disch := omega) only [fa_lt, fa_le, fa_eq, nI_toInt, pk_sub_toInt, nI_m1, nI_m1', not_false_eq_true, true_and, and_true, hpp']); first | done | omega))) ?_)
          | (refine df' (by (first | assumption | omega | ((try simp (disch := omega) only [not_true_eq_false, not_false_eq_true, Classical.not_not, ofn, b_z, b_nz, b_z', b_nz', mv_rd, mv_rn, mv_ld, mv_ln_, lit, nI_add, pk_mul, nI_clamp, hpp']); (try simp (disch := omega) only [fa_lt, fa_le, fa_eq, nI_toInt, pk_sub_toInt, nI_m1, nI_m1', not_false_eq_true, true_and, and_true, hpp']); first | done | omega))) ?_)
          | (refine s_hasItem' ht hm' hm ?_)
          )
      have e : ld_n p f m = i := by unfold ld_n; rw [if_neg (by omega)]; omega
      have := hQ τ (by rw [e]; exact h3) h4 h5
      unfold ld_r at this
      rw [if_neg (by omega)] at this
      exact this
    have hI' : τ.1 (t + 1) (f + i) = I (f + i) := (h4 _ _ (by omega)).trans (hI _ (by omega))
    rw [nI_add]
    by_cases e3 : 0 ≤ (I (f + i)).toInt ∧ (I (f + i)).toInt ≤ (p : Int) - 1
    · repeat (first
          | (refine And.intro (show mv_sh _ = _ from rfl) ?_)
          | (refine And.intro (show mv_sh _ = _ by assumption) ?_)
          | (refine And.intro (show _ ≤ mv_sh _ from Nat.le_of_ble_eq_true rfl) ?_)
          | (refine And.intro (show _ ≤ mv_sh _ ∧ vp_in _ _ from ⟨Nat.le_of_ble_eq_true rfl, by (first | (simp (disch := omega) only [ln_62, ln_93, ln_94, ln_95, not_true_eq_false, not_false_eq_true, Classical.not_not, ofn, b_z, b_nz, b_z', b_nz', mv_rd, mv_rn, mv_ld, mv_ln_, lit, nI_add, pk_mul, nI_clamp, hpp', hI']; exact vp_in_nI (by omega) (by omega)) | (exact vp_in_nI (by omega) (by omega)))⟩) ?_)
          | (refine And.intro (show (_ : Int32) = 0 ∨ (_ : Int32) = 1 from by first | exact Or.inl rfl | exact Or.inr rfl | exact bI_01 _) ?_)
          | (refine And.intro (show mv_sh _ = _ ∧ vp_in _ _ from ⟨rfl, by (first | (simp (disch := omega) only [ln_62, ln_93, ln_94, ln_95, not_true_eq_false, not_false_eq_true, Classical.not_not, ofn, b_z, b_nz, b_z', b_nz', mv_rd, mv_rn, mv_ld, mv_ln_, lit, nI_add, pk_mul, nI_clamp, hpp', hI']; exact vp_in_nI (by omega) (by omega)) | (exact vp_in_nI (by omega) (by omega)))⟩) ?_)
          | (refine And.intro (show mv_sh _ = _ ∧ vp_in _ _ from ⟨by assumption, by (first | (simp (disch := omega) only [ln_62, ln_93, ln_94, ln_95, not_true_eq_false, not_false_eq_true, Classical.not_not, ofn, b_z, b_nz, b_z', b_nz', mv_rd, mv_rn, mv_ld, mv_ln_, lit, nI_add, pk_mul, nI_clamp, hpp', hI']; exact vp_in_nI (by omega) (by omega)) | (exact vp_in_nI (by omega) (by omega)))⟩) ?_)
          | (refine And.intro (show ¬ (_ : Int32) = 0 by decide) ?_)
          | (refine ⟨_, rfl, ?_⟩)
          | (refine And.intro (show (none : Option Value) = none from rfl) ?_)
          | (refine Or.inl ⟨rfl, ?_⟩)
          | (refine Or.inr ⟨_, rfl, ?_⟩)
          | (refine dt (by (first | assumption | omega | ((try simp (disch := omega) only [not_true_eq_false, not_false_eq_true, Classical.not_not, ofn, b_z, b_nz, b_z', b_nz', mv_rd, mv_rn, mv_ld, mv_ln_, lit, nI_add, pk_mul, nI_clamp, hpp', hI']); (try simp (disch := omega) only [fa_lt, fa_le, fa_eq, nI_toInt, pk_sub_toInt, nI_m1, nI_m1', not_false_eq_true, true_and, and_true, hpp', hI']); first | done | omega))) ?_)
          | (refine df (by (first | assumption | omega | ((try simp (disch := omega) only [not_true_eq_false, not_false_eq_true, Classical.not_not, ofn, b_z, b_nz, b_z', b_nz', mv_rd, mv_rn, mv_ld, mv_ln_, lit, nI_add, pk_mul, nI_clamp, hpp', hI']); (try simp (disch := omega) only [fa_lt, fa_le, fa_eq, nI_toInt, pk_sub_toInt, nI_m1, nI_m1', not_false_eq_true, true_and, and_true, hpp', hI']); first | done | omega))) ?_)
          | (refine dt' (by (first | assumption | omega | ((try simp (disch := omega) only [not_true_eq_false, not_false_eq_true, Classical.not_not, ofn, b_z, b_nz, b_z', b_nz', mv_rd, mv_rn, mv_ld, mv_ln_, lit, nI_add, pk_mul, nI_clamp, hpp', hI']); (try simp (disch := omega) only [fa_lt, fa_le, fa_eq, nI_toInt, pk_sub_toInt, nI_m1, nI_m1', not_false_eq_true, true_and, and_true, hpp', hI']); first | done | omega))) ?_)
          | (refine df' (by (first | assumption | omega | ((try simp (disch := omega) only [not_true_eq_false, not_false_eq_true, Classical.not_not, ofn, b_z, b_nz, b_z', b_nz', mv_rd, mv_rn, mv_ld, mv_ln_, lit, nI_add, pk_mul, nI_clamp, hpp', hI']); (try simp (disch := omega) only [fa_lt, fa_le, fa_eq, nI_toInt, pk_sub_toInt, nI_m1, nI_m1', not_false_eq_true, true_and, and_true, hpp', hI']); first | done | omega))) ?_)
          | (refine s_hasItem' ht hm' hm ?_)
          | (refine s_item ht (by omega) ?_)
          | (refine s_hasPt hu hpp' hp ?_)
          )
      rw [q_rem3 (by omega), q_div3 (by omega)]
      refine (s_lead hu (by omega) (by omega)).mpr ⟨rfl, ?_⟩
      have hx := pk_pt_x (p := p) (x := I (f + i)) e3 hp
      rw [show 3 * (i / 3) + i % 3 = i by omega, nI_1, nI_1, show ld_c p f I i + 1 = ld_c p f I (i + 1) by rw [ld_c_s, if_pos e3]]
      refine ih (i + 1) _ (by omega) (by omega) (fun j hj => ?_) (fun c j hc => ?_) h5
      · rw [ld_set e3]
        by_cases ej : j = i
        · subst ej; rw [if_pos rfl, mv_rd, hI']; exact hx.1
        · rw [if_neg ej, mv_rn (by omega)]; exact h3 j hj
      · rw [mv_rn (by omega)]; exact h4 c j hc
    · repeat (first
          | (refine And.intro (show mv_sh _ = _ from rfl) ?_)
          | (refine And.intro (show mv_sh _ = _ by assumption) ?_)
          | (refine And.intro (show _ ≤ mv_sh _ from Nat.le_of_ble_eq_true rfl) ?_)
          | (refine And.intro (show _ ≤ mv_sh _ ∧ vp_in _ _ from ⟨Nat.le_of_ble_eq_true rfl, by (first | (simp (disch := omega) only [ln_62, ln_93, ln_94, ln_95, not_true_eq_false, not_false_eq_true, Classical.not_not, ofn, b_z, b_nz, b_z', b_nz', mv_rd, mv_rn, mv_ld, mv_ln_, lit, nI_add, pk_mul, nI_clamp, hpp', hI']; exact vp_in_nI (by omega) (by omega)) | (exact vp_in_nI (by omega) (by omega)))⟩) ?_)
          | (refine And.intro (show (_ : Int32) = 0 ∨ (_ : Int32) = 1 from by first | exact Or.inl rfl | exact Or.inr rfl | exact bI_01 _) ?_)
          | (refine And.intro (show mv_sh _ = _ ∧ vp_in _ _ from ⟨rfl, by (first | (simp (disch := omega) only [ln_62, ln_93, ln_94, ln_95, not_true_eq_false, not_false_eq_true, Classical.not_not, ofn, b_z, b_nz, b_z', b_nz', mv_rd, mv_rn, mv_ld, mv_ln_, lit, nI_add, pk_mul, nI_clamp, hpp', hI']; exact vp_in_nI (by omega) (by omega)) | (exact vp_in_nI (by omega) (by omega)))⟩) ?_)
          | (refine And.intro (show mv_sh _ = _ ∧ vp_in _ _ from ⟨by assumption, by (first | (simp (disch := omega) only [ln_62, ln_93, ln_94, ln_95, not_true_eq_false, not_false_eq_true, Classical.not_not, ofn, b_z, b_nz, b_z', b_nz', mv_rd, mv_rn, mv_ld, mv_ln_, lit, nI_add, pk_mul, nI_clamp, hpp', hI']; exact vp_in_nI (by omega) (by omega)) | (exact vp_in_nI (by omega) (by omega)))⟩) ?_)
          | (refine And.intro (show ¬ (_ : Int32) = 0 by decide) ?_)
          | (refine ⟨_, rfl, ?_⟩)
          | (refine And.intro (show (none : Option Value) = none from rfl) ?_)
          | (refine Or.inl ⟨rfl, ?_⟩)
          | (refine Or.inr ⟨_, rfl, ?_⟩)
          | (refine dt (by (first | assumption | omega | ((try simp (disch := omega) only [not_true_eq_false, not_false_eq_true, Classical.not_not, ofn, b_z, b_nz, b_z', b_nz', mv_rd, mv_rn, mv_ld, mv_ln_, lit, nI_add, pk_mul, nI_clamp, hpp', hI']); (try simp (disch := omega) only [fa_lt, fa_le, fa_eq, nI_toInt, pk_sub_toInt, nI_m1, nI_m1', not_false_eq_true, true_and, and_true, hpp', hI']); first | done | omega))) ?_)
          | (refine df (by (first | assumption | omega | ((try simp (disch := omega) only [not_true_eq_false, not_false_eq_true, Classical.not_not, ofn, b_z, b_nz, b_z', b_nz', mv_rd, mv_rn, mv_ld, mv_ln_, lit, nI_add, pk_mul, nI_clamp, hpp', hI']); (try simp (disch := omega) only [fa_lt, fa_le, fa_eq, nI_toInt, pk_sub_toInt, nI_m1, nI_m1', not_false_eq_true, true_and, and_true, hpp', hI']); first | done | omega))) ?_)
          | (refine dt' (by (first | assumption | omega | ((try simp (disch := omega) only [not_true_eq_false, not_false_eq_true, Classical.not_not, ofn, b_z, b_nz, b_z', b_nz', mv_rd, mv_rn, mv_ld, mv_ln_, lit, nI_add, pk_mul, nI_clamp, hpp', hI']); (try simp (disch := omega) only [fa_lt, fa_le, fa_eq, nI_toInt, pk_sub_toInt, nI_m1, nI_m1', not_false_eq_true, true_and, and_true, hpp', hI']); first | done | omega))) ?_)
          | (refine df' (by (first | assumption | omega | ((try simp (disch := omega) only [not_true_eq_false, not_false_eq_true, Classical.not_not, ofn, b_z, b_nz, b_z', b_nz', mv_rd, mv_rn, mv_ld, mv_ln_, lit, nI_add, pk_mul, nI_clamp, hpp', hI']); (try simp (disch := omega) only [fa_lt, fa_le, fa_eq, nI_toInt, pk_sub_toInt, nI_m1, nI_m1', not_false_eq_true, true_and, and_true, hpp', hI']); first | done | omega))) ?_)
          | (refine s_hasItem' ht hm' hm ?_)
          | (refine s_item ht (by omega) ?_)
          | (refine s_hasPt hu hpp' hp ?_)
          )
      rw [nI_1]
      have := ih (i + 1) τ (by omega) (by omega) (fun j hj => by rw [ld_keep e3]; exact h3 j hj) h4 h5
      rw [ld_c_s, if_neg e3, Nat.add_zero] at this
      exact this
theorem ld_rf {s a p f m : Nat} {mv : Nat → Nat} {I : Nat → Int32} (hs : s < 4) (ha : a < 3) (hp : p ≤ 4) (hm : m ≤ 40) (hf : f < m) (hm2 : σ.1 94 s = nI m) (hI : ∀ j, j < 40 → σ.1 95 (40 * s + j) = I j) (hpp : σ.1 62 (15 * a) = nI p)
    (hQ : ∀ τ : mv_S, (∀ j, j < 12 → τ.1 62 (15 * a + 3 + j) = nI (ld_mv p f I mv (ld_n p f m) j)) → (∀ c j, ¬ (c = 62 ∧ 15 * a + 3 ≤ j ∧ j < 15 * a + 15) → τ.1 c j = σ.1 c j) → τ.2 = σ.2 → Q (some (.int (ld_r p f m I))) τ) :
    ∀ k i (τ : mv_S) (v7 : Value), (v7 = .retAddr 0 ∨ ∃ y, v7 = .long y) → i + k = 3 * p → f + i ≤ m → (∀ j, j < 12 → τ.1 62 (15 * a + 3 + j) = nI (ld_mv p f I mv i j)) → (∀ c j, ¬ (c = 62 ∧ 15 * a + 3 ≤ j ∧ j < 15 * a + 15) → τ.1 c j = σ.1 c j) → τ.2 = σ.2 → mv_wf X (mv_wp X (d + 2)) m_Ref_load Q 66 [.ref 61, .int (nI s), .retAddr 0, .int (nI f), .int (nI a), .int (nI (ld_c p f I i)), .int (nI i), v7, .retAddr 0, .retAddr 0] [] τ := by
  intro k
  induction k with
  | zero =>
    intro i τ v7 hv h1 h2 h3 h4 h5
    have hpp' := (h4 62 (15 * a) (by omega)).trans hpp
    have fin : Q (some (.int (nI (ld_c p f I i)))) τ := by
      have e : ld_n p f m = i := by unfold ld_n; rw [if_pos (by omega)]; omega
      have := hQ τ (by rw [e]; exact h3) h4 h5
      unfold ld_r at this
      rw [if_pos (by omega), show 3 * p = i by omega] at this
      exact this
    rcases hv with rfl | ⟨y, rfl⟩
    · refine h_Ref_load_66 ?_
      repeat (first
          | (refine And.intro (show mv_sh _ = _ from rfl) ?_)
          | (refine And.intro (show mv_sh _ = _ by assumption) ?_)
          | (refine And.intro (show _ ≤ mv_sh _ from Nat.le_of_ble_eq_true rfl) ?_)
          | (refine And.intro (show _ ≤ mv_sh _ ∧ vp_in _ _ from ⟨Nat.le_of_ble_eq_true rfl, by (first | (simp (disch := omega) only [ln_62, ln_93, ln_94, ln_95, not_true_eq_false, not_false_eq_true, Classical.not_not, ofn, b_z, b_nz, b_z', b_nz', mv_rd, mv_rn, mv_ld, mv_ln_, lit, nI_add, pk_mul, nI_clamp, hpp']; exact vp_in_nI (by omega) (by omega)) | (exact vp_in_nI (by omega) (by omega)))⟩) ?_)
          | (refine And.intro (show (_ : Int32) = 0 ∨ (_ : Int32) = 1 from by first | exact Or.inl rfl | exact Or.inr rfl | exact bI_01 _) ?_)
          | (refine And.intro (show mv_sh _ = _ ∧ vp_in _ _ from ⟨rfl, by (first | (simp (disch := omega) only [ln_62, ln_93, ln_94, ln_95, not_true_eq_false, not_false_eq_true, Classical.not_not, ofn, b_z, b_nz, b_z', b_nz', mv_rd, mv_rn, mv_ld, mv_ln_, lit, nI_add, pk_mul, nI_clamp, hpp']; exact vp_in_nI (by omega) (by omega)) | (exact vp_in_nI (by omega) (by omega)))⟩) ?_)
          | (refine And.intro (show mv_sh _ = _ ∧ vp_in _ _ from ⟨by assumption, by (first | (simp (disch := omega) only [ln_62, ln_93, ln_94, ln_95, not_true_eq_false, not_false_eq_true, Classical.not_not, ofn, b_z, b_nz, b_z', b_nz', mv_rd, mv_rn, mv_ld, mv_ln_, lit, nI_add, pk_mul, nI_clamp, hpp']; exact vp_in_nI (by omega) (by omega)) | (exact vp_in_nI (by omega) (by omega)))⟩) ?_)
          | (refine And.intro (show ¬ (_ : Int32) = 0 by decide) ?_)
          | (refine ⟨_, rfl, ?_⟩)
          | (refine And.intro (show (none : Option Value) = none from rfl) ?_)
          | (refine Or.inl ⟨rfl, ?_⟩)
          | (refine Or.inr ⟨_, rfl, ?_⟩)
          | (refine dt (by (first | assumption | omega | ((try simp (disch := omega) only [not_true_eq_false, not_false_eq_true, Classical.not_not, ofn, b_z, b_nz, b_z', b_nz', mv_rd, mv_rn, mv_ld, mv_ln_, lit, nI_add, pk_mul, nI_clamp, hpp']); (try simp (disch := omega) only [fa_lt, fa_le, fa_eq, nI_toInt, pk_sub_toInt, nI_m1, nI_m1', not_false_eq_true, true_and, and_true, hpp']); first | done | omega))) ?_)
          | (refine df (by (first | assumption | omega | ((try simp (disch := omega) only [not_true_eq_false, not_false_eq_true, Classical.not_not, ofn, b_z, b_nz, b_z', b_nz', mv_rd, mv_rn, mv_ld, mv_ln_, lit, nI_add, pk_mul, nI_clamp, hpp']); (try simp (disch := omega) only [fa_lt, fa_le, fa_eq, nI_toInt, pk_sub_toInt, nI_m1, nI_m1', not_false_eq_true, true_and, and_true, hpp']); first | done | omega))) ?_)
          | (refine dt' (by (first | assumption | omega | ((try simp (disch := omega) only [not_true_eq_false, not_false_eq_true, Classical.not_not, ofn, b_z, b_nz, b_z', b_nz', mv_rd, mv_rn, mv_ld, mv_ln_, lit, nI_add, pk_mul, nI_clamp, hpp']); (try simp (disch := omega) only [fa_lt, fa_le, fa_eq, nI_toInt, pk_sub_toInt, nI_m1, nI_m1', not_false_eq_true, true_and, and_true, hpp']); first | done | omega))) ?_)
          | (refine df' (by (first | assumption | omega | ((try simp (disch := omega) only [not_true_eq_false, not_false_eq_true, Classical.not_not, ofn, b_z, b_nz, b_z', b_nz', mv_rd, mv_rn, mv_ld, mv_ln_, lit, nI_add, pk_mul, nI_clamp, hpp']); (try simp (disch := omega) only [fa_lt, fa_le, fa_eq, nI_toInt, pk_sub_toInt, nI_m1, nI_m1', not_false_eq_true, true_and, and_true, hpp']); first | done | omega))) ?_)
          | (refine (r_pointsOf ha).mpr ?_)
          )
      exact fin
    · refine h_Ref_load_66L ?_
      repeat (first
          | (refine And.intro (show mv_sh _ = _ from rfl) ?_)
          | (refine And.intro (show mv_sh _ = _ by assumption) ?_)
          | (refine And.intro (show _ ≤ mv_sh _ from Nat.le_of_ble_eq_true rfl) ?_)
          | (refine And.intro (show _ ≤ mv_sh _ ∧ vp_in _ _ from ⟨Nat.le_of_ble_eq_true rfl, by (first | (simp (disch := omega) only [ln_62, ln_93, ln_94, ln_95, not_true_eq_false, not_false_eq_true, Classical.not_not, ofn, b_z, b_nz, b_z', b_nz', mv_rd, mv_rn, mv_ld, mv_ln_, lit, nI_add, pk_mul, nI_clamp, hpp']; exact vp_in_nI (by omega) (by omega)) | (exact vp_in_nI (by omega) (by omega)))⟩) ?_)
          | (refine And.intro (show (_ : Int32) = 0 ∨ (_ : Int32) = 1 from by first | exact Or.inl rfl | exact Or.inr rfl | exact bI_01 _) ?_)
          | (refine And.intro (show mv_sh _ = _ ∧ vp_in _ _ from ⟨rfl, by (first | (simp (disch := omega) only [ln_62, ln_93, ln_94, ln_95, not_true_eq_false, not_false_eq_true, Classical.not_not, ofn, b_z, b_nz, b_z', b_nz', mv_rd, mv_rn, mv_ld, mv_ln_, lit, nI_add, pk_mul, nI_clamp, hpp']; exact vp_in_nI (by omega) (by omega)) | (exact vp_in_nI (by omega) (by omega)))⟩) ?_)
          | (refine And.intro (show mv_sh _ = _ ∧ vp_in _ _ from ⟨by assumption, by (first | (simp (disch := omega) only [ln_62, ln_93, ln_94, ln_95, not_true_eq_false, not_false_eq_true, Classical.not_not, ofn, b_z, b_nz, b_z', b_nz', mv_rd, mv_rn, mv_ld, mv_ln_, lit, nI_add, pk_mul, nI_clamp, hpp']; exact vp_in_nI (by omega) (by omega)) | (exact vp_in_nI (by omega) (by omega)))⟩) ?_)
          | (refine And.intro (show ¬ (_ : Int32) = 0 by decide) ?_)
          | (refine ⟨_, rfl, ?_⟩)
          | (refine And.intro (show (none : Option Value) = none from rfl) ?_)
          | (refine Or.inl ⟨rfl, ?_⟩)
          | (refine Or.inr ⟨_, rfl, ?_⟩)
          | (refine dt (by (first | assumption | omega | ((try simp (disch := omega) only [not_true_eq_false, not_false_eq_true, Classical.not_not, ofn, b_z, b_nz, b_z', b_nz', mv_rd, mv_rn, mv_ld, mv_ln_, lit, nI_add, pk_mul, nI_clamp, hpp']); (try simp (disch := omega) only [fa_lt, fa_le, fa_eq, nI_toInt, pk_sub_toInt, nI_m1, nI_m1', not_false_eq_true, true_and, and_true, hpp']); first | done | omega))) ?_)
          | (refine df (by (first | assumption | omega | ((try simp (disch := omega) only [not_true_eq_false, not_false_eq_true, Classical.not_not, ofn, b_z, b_nz, b_z', b_nz', mv_rd, mv_rn, mv_ld, mv_ln_, lit, nI_add, pk_mul, nI_clamp, hpp']); (try simp (disch := omega) only [fa_lt, fa_le, fa_eq, nI_toInt, pk_sub_toInt, nI_m1, nI_m1', not_false_eq_true, true_and, and_true, hpp']); first | done | omega))) ?_)
          | (refine dt' (by (first | assumption | omega | ((try simp (disch := omega) only [not_true_eq_false, not_false_eq_true, Classical.not_not, ofn, b_z, b_nz, b_z', b_nz', mv_rd, mv_rn, mv_ld, mv_ln_, lit, nI_add, pk_mul, nI_clamp, hpp']); (try simp (disch := omega) only [fa_lt, fa_le, fa_eq, nI_toInt, pk_sub_toInt, nI_m1, nI_m1', not_false_eq_true, true_and, and_true, hpp']); first | done | omega))) ?_)
          | (refine df' (by (first | assumption | omega | ((try simp (disch := omega) only [not_true_eq_false, not_false_eq_true, Classical.not_not, ofn, b_z, b_nz, b_z', b_nz', mv_rd, mv_rn, mv_ld, mv_ln_, lit, nI_add, pk_mul, nI_clamp, hpp']); (try simp (disch := omega) only [fa_lt, fa_le, fa_eq, nI_toInt, pk_sub_toInt, nI_m1, nI_m1', not_false_eq_true, true_and, and_true, hpp']); first | done | omega))) ?_)
          | (refine (r_pointsOf ha).mpr ?_)
          )
      exact fin
  | succ k ih =>
    intro i τ v7 hv h1 h2 h3 h4 h5
    have hpp' := (h4 62 (15 * a) (by omega)).trans hpp
    have hm' := (h4 94 s (by omega)).trans hm2
    have hC : ((τ.1 94 (nI s).toNatClampNeg).toInt64 - 1 : Int64).toInt = (m : Int) - 1 := by rw [nI_clamp (by omega), hm']; exact q_l1 (by omega)
    have e64 : (nI f).toInt64 + (nI i).toInt64 = (nI (f + i)).toInt64 := by rw [nI_l (by omega), nI_l (by omega), nI_l (by omega), lN_add]
    have e32 : ((nI (f + i)).toInt64).toInt32 = nI (f + i) := by rw [nI_l (by omega), q_lI]
    have e40 : (40 : Int32) * nI s + nI (f + i) = nI (40 * s + (f + i)) := by rw [show (40 : Int32) = nI 40 from rfl, pk_mul, nI_add]
    have e15 : (15 : Int32) * nI a + 3 + nI i = nI (15 * a + 3 + i) := by rw [show (15 : Int32) = nI 15 from rfl, show (3 : Int32) = nI 3 from rfl, pk_mul, nI_add, nI_add]
    by_cases e : f + i < m
    case neg =>
      have fin : Q (some (.int (-12))) τ := by
        have e : ld_n p f m = i := by unfold ld_n; rw [if_neg (by omega)]; omega
        have := hQ τ (by rw [e]; exact h3) h4 h5
        unfold ld_r at this
        rw [if_neg (by omega)] at this
        exact this
      rcases hv with rfl | ⟨y, rfl⟩
      · refine h_Ref_load_66 ?_
        rw [e64]
        repeat (first
            | (refine And.intro (show mv_sh _ = _ from rfl) ?_)
            | (refine And.intro (show mv_sh _ = _ by assumption) ?_)
            | (refine And.intro (show _ ≤ mv_sh _ from Nat.le_of_ble_eq_true rfl) ?_)
            | (refine And.intro (show _ ≤ mv_sh _ ∧ vp_in _ _ from ⟨Nat.le_of_ble_eq_true rfl, by (first | (simp (disch := omega) only [ln_62, ln_93, ln_94, ln_95, not_true_eq_false, not_false_eq_true, Classical.not_not, ofn, b_z, b_nz, b_z', b_nz', mv_rd, mv_rn, mv_ld, mv_ln_, lit, nI_add, pk_mul, nI_clamp, hpp', hm']; exact vp_in_nI (by omega) (by omega)) | (exact vp_in_nI (by omega) (by omega)))⟩) ?_)
            | (refine And.intro (show (_ : Int32) = 0 ∨ (_ : Int32) = 1 from by first | exact Or.inl rfl | exact Or.inr rfl | exact bI_01 _) ?_)
            | (refine And.intro (show mv_sh _ = _ ∧ vp_in _ _ from ⟨rfl, by (first | (simp (disch := omega) only [ln_62, ln_93, ln_94, ln_95, not_true_eq_false, not_false_eq_true, Classical.not_not, ofn, b_z, b_nz, b_z', b_nz', mv_rd, mv_rn, mv_ld, mv_ln_, lit, nI_add, pk_mul, nI_clamp, hpp', hm']; exact vp_in_nI (by omega) (by omega)) | (exact vp_in_nI (by omega) (by omega)))⟩) ?_)
            | (refine And.intro (show mv_sh _ = _ ∧ vp_in _ _ from ⟨by assumption, by (first | (simp (disch := omega) only [ln_62, ln_93, ln_94, ln_95, not_true_eq_false, not_false_eq_true, Classical.not_not, ofn, b_z, b_nz, b_z', b_nz', mv_rd, mv_rn, mv_ld, mv_ln_, lit, nI_add, pk_mul, nI_clamp, hpp', hm']; exact vp_in_nI (by omega) (by omega)) | (exact vp_in_nI (by omega) (by omega)))⟩) ?_)
            | (refine And.intro (show ¬ (_ : Int32) = 0 by decide) ?_)
            | (refine ⟨_, rfl, ?_⟩)
            | (refine And.intro (show (none : Option Value) = none from rfl) ?_)
            | (refine Or.inl ⟨rfl, ?_⟩)
            | (refine Or.inr ⟨_, rfl, ?_⟩)
            | (refine dt (by (first | assumption | omega | ((try simp (disch := omega) only [not_true_eq_false, not_false_eq_true, Classical.not_not, ofn, b_z, b_nz, b_z', b_nz', mv_rd, mv_rn, mv_ld, mv_ln_, lit, nI_add, pk_mul, nI_clamp, hpp', hm']); (try simp (disch := omega) only [fa_lt, fa_le, fa_eq, nI_toInt, pk_sub_toInt, nI_m1, nI_m1', not_false_eq_true, true_and, and_true, hpp', hm']); first | done | omega))) ?_)
            | (refine df (by (first | assumption | omega | ((try simp (disch := omega) only [not_true_eq_false, not_false_eq_true, Classical.not_not, ofn, b_z, b_nz, b_z', b_nz', mv_rd, mv_rn, mv_ld, mv_ln_, lit, nI_add, pk_mul, nI_clamp, hpp', hm']); (try simp (disch := omega) only [fa_lt, fa_le, fa_eq, nI_toInt, pk_sub_toInt, nI_m1, nI_m1', not_false_eq_true, true_and, and_true, hpp', hm']); first | done | omega))) ?_)
            | (refine dt' (by (first | assumption | omega | ((try simp (disch := omega) only [not_true_eq_false, not_false_eq_true, Classical.not_not, ofn, b_z, b_nz, b_z', b_nz', mv_rd, mv_rn, mv_ld, mv_ln_, lit, nI_add, pk_mul, nI_clamp, hpp', hm']); (try simp (disch := omega) only [fa_lt, fa_le, fa_eq, nI_toInt, pk_sub_toInt, nI_m1, nI_m1', not_false_eq_true, true_and, and_true, hpp', hm']); first | done | omega))) ?_)
            | (refine df' (by (first | assumption | omega | ((try simp (disch := omega) only [not_true_eq_false, not_false_eq_true, Classical.not_not, ofn, b_z, b_nz, b_z', b_nz', mv_rd, mv_rn, mv_ld, mv_ln_, lit, nI_add, pk_mul, nI_clamp, hpp', hm']); (try simp (disch := omega) only [fa_lt, fa_le, fa_eq, nI_toInt, pk_sub_toInt, nI_m1, nI_m1', not_false_eq_true, true_and, and_true, hpp', hm']); first | done | omega))) ?_)
            | (refine (r_pointsOf ha).mpr ?_)
            | (refine (r_inI (A := 0) (C := (m : Int) - 1) rfl hC).mpr ?_)
            )
        exact fin
      · refine h_Ref_load_66L ?_
        rw [e64]
        repeat (first
            | (refine And.intro (show mv_sh _ = _ from rfl) ?_)
            | (refine And.intro (show mv_sh _ = _ by assumption) ?_)
            | (refine And.intro (show _ ≤ mv_sh _ from Nat.le_of_ble_eq_true rfl) ?_)
            | (refine And.intro (show _ ≤ mv_sh _ ∧ vp_in _ _ from ⟨Nat.le_of_ble_eq_true rfl, by (first | (simp (disch := omega) only [ln_62, ln_93, ln_94, ln_95, not_true_eq_false, not_false_eq_true, Classical.not_not, ofn, b_z, b_nz, b_z', b_nz', mv_rd, mv_rn, mv_ld, mv_ln_, lit, nI_add, pk_mul, nI_clamp, hpp', hm']; exact vp_in_nI (by omega) (by omega)) | (exact vp_in_nI (by omega) (by omega)))⟩) ?_)
            | (refine And.intro (show (_ : Int32) = 0 ∨ (_ : Int32) = 1 from by first | exact Or.inl rfl | exact Or.inr rfl | exact bI_01 _) ?_)
            | (refine And.intro (show mv_sh _ = _ ∧ vp_in _ _ from ⟨rfl, by (first | (simp (disch := omega) only [ln_62, ln_93, ln_94, ln_95, not_true_eq_false, not_false_eq_true, Classical.not_not, ofn, b_z, b_nz, b_z', b_nz', mv_rd, mv_rn, mv_ld, mv_ln_, lit, nI_add, pk_mul, nI_clamp, hpp', hm']; exact vp_in_nI (by omega) (by omega)) | (exact vp_in_nI (by omega) (by omega)))⟩) ?_)
            | (refine And.intro (show mv_sh _ = _ ∧ vp_in _ _ from ⟨by assumption, by (first | (simp (disch := omega) only [ln_62, ln_93, ln_94, ln_95, not_true_eq_false, not_false_eq_true, Classical.not_not, ofn, b_z, b_nz, b_z', b_nz', mv_rd, mv_rn, mv_ld, mv_ln_, lit, nI_add, pk_mul, nI_clamp, hpp', hm']; exact vp_in_nI (by omega) (by omega)) | (exact vp_in_nI (by omega) (by omega)))⟩) ?_)
            | (refine And.intro (show ¬ (_ : Int32) = 0 by decide) ?_)
            | (refine ⟨_, rfl, ?_⟩)
            | (refine And.intro (show (none : Option Value) = none from rfl) ?_)
            | (refine Or.inl ⟨rfl, ?_⟩)
            | (refine Or.inr ⟨_, rfl, ?_⟩)
            | (refine dt (by (first | assumption | omega | ((try simp (disch := omega) only [not_true_eq_false, not_false_eq_true, Classical.not_not, ofn, b_z, b_nz, b_z', b_nz', mv_rd, mv_rn, mv_ld, mv_ln_, lit, nI_add, pk_mul, nI_clamp, hpp', hm']); (try simp (disch := omega) only [fa_lt, fa_le, fa_eq, nI_toInt, pk_sub_toInt, nI_m1, nI_m1', not_false_eq_true, true_and, and_true, hpp', hm']); first | done | omega))) ?_)
            | (refine df (by (first | assumption | omega | ((try simp (disch := omega) only [not_true_eq_false, not_false_eq_true, Classical.not_not, ofn, b_z, b_nz, b_z', b_nz', mv_rd, mv_rn, mv_ld, mv_ln_, lit, nI_add, pk_mul, nI_clamp, hpp', hm']); (try simp (disch := omega) only [fa_lt, fa_le, fa_eq, nI_toInt, pk_sub_toInt, nI_m1, nI_m1', not_false_eq_true, true_and, and_true, hpp', hm']); first | done | omega))) ?_)
            | (refine dt' (by (first | assumption | omega | ((try simp (disch := omega) only [not_true_eq_false, not_false_eq_true, Classical.not_not, ofn, b_z, b_nz, b_z', b_nz', mv_rd, mv_rn, mv_ld, mv_ln_, lit, nI_add, pk_mul, nI_clamp, hpp', hm']); (try simp (disch := omega) only [fa_lt, fa_le, fa_eq, nI_toInt, pk_sub_toInt, nI_m1, nI_m1', not_false_eq_true, true_and, and_true, hpp', hm']); first | done | omega))) ?_)
            | (refine df' (by (first | assumption | omega | ((try simp (disch := omega) only [not_true_eq_false, not_false_eq_true, Classical.not_not, ofn, b_z, b_nz, b_z', b_nz', mv_rd, mv_rn, mv_ld, mv_ln_, lit, nI_add, pk_mul, nI_clamp, hpp', hm']); (try simp (disch := omega) only [fa_lt, fa_le, fa_eq, nI_toInt, pk_sub_toInt, nI_m1, nI_m1', not_false_eq_true, true_and, and_true, hpp', hm']); first | done | omega))) ?_)
            | (refine (r_pointsOf ha).mpr ?_)
            | (refine (r_inI (A := 0) (C := (m : Int) - 1) rfl hC).mpr ?_)
            )
        exact fin
    have hI' : τ.1 95 (40 * s + (f + i)) = I (f + i) := (h4 _ _ (by omega)).trans (hI _ (by omega))
    by_cases e3 : 0 ≤ (I (f + i)).toInt ∧ (I (f + i)).toInt ≤ (p : Int) - 1
    · have hx := pk_pt_x (p := p) (x := I (f + i)) e3 hp
      have fin : ∀ y, mv_wf X (mv_wp X (d + 2)) m_Ref_load Q 66 [.ref 61, .int (nI s), .retAddr 0, .int (nI f), .int (nI a), .int (nI (ld_c p f I i) + 1), .int (nI i + 1), .long y, .retAddr 0, .retAddr 0] [] (mv_pi τ 62 (15 * a + 3 + i) (I (f + i))) := by
        intro y
        rw [nI_1, nI_1, show ld_c p f I i + 1 = ld_c p f I (i + 1) by rw [ld_c_s, if_pos e3]]
        refine ih (i + 1) _ _ (Or.inr ⟨y, rfl⟩) (by omega) (by omega) (fun j hj => ?_) (fun c j hc => ?_) h5
        · rw [ld_set e3]
          by_cases ej : j = i
          · subst ej; rw [if_pos rfl, mv_rd]; exact hx.1
          · rw [if_neg ej, mv_rn (by omega)]; exact h3 j hj
        · rw [mv_rn (by omega)]; exact h4 c j hc
      rcases hv with rfl | ⟨y, rfl⟩
      · refine h_Ref_load_66 ?_
        rw [e64, e32, e40, e15]
        repeat (first
            | (refine And.intro (show mv_sh _ = _ from rfl) ?_)
            | (refine And.intro (show mv_sh _ = _ by assumption) ?_)
            | (refine And.intro (show _ ≤ mv_sh _ from Nat.le_of_ble_eq_true rfl) ?_)
            | (refine And.intro (show _ ≤ mv_sh _ ∧ vp_in _ _ from ⟨Nat.le_of_ble_eq_true rfl, by (first | (simp (disch := omega) only [ln_62, ln_93, ln_94, ln_95, not_true_eq_false, not_false_eq_true, Classical.not_not, ofn, b_z, b_nz, b_z', b_nz', mv_rd, mv_rn, mv_ld, mv_ln_, lit, nI_add, pk_mul, nI_clamp, hpp', hm', hI']; exact vp_in_nI (by omega) (by omega)) | (exact vp_in_nI (by omega) (by omega)))⟩) ?_)
            | (refine And.intro (show (_ : Int32) = 0 ∨ (_ : Int32) = 1 from by first | exact Or.inl rfl | exact Or.inr rfl | exact bI_01 _) ?_)
            | (refine And.intro (show mv_sh _ = _ ∧ vp_in _ _ from ⟨rfl, by (first | (simp (disch := omega) only [ln_62, ln_93, ln_94, ln_95, not_true_eq_false, not_false_eq_true, Classical.not_not, ofn, b_z, b_nz, b_z', b_nz', mv_rd, mv_rn, mv_ld, mv_ln_, lit, nI_add, pk_mul, nI_clamp, hpp', hm', hI']; exact vp_in_nI (by omega) (by omega)) | (exact vp_in_nI (by omega) (by omega)))⟩) ?_)
            | (refine And.intro (show mv_sh _ = _ ∧ vp_in _ _ from ⟨by assumption, by (first | (simp (disch := omega) only [ln_62, ln_93, ln_94, ln_95, not_true_eq_false, not_false_eq_true, Classical.not_not, ofn, b_z, b_nz, b_z', b_nz', mv_rd, mv_rn, mv_ld, mv_ln_, lit, nI_add, pk_mul, nI_clamp, hpp', hm', hI']; exact vp_in_nI (by omega) (by omega)) | (exact vp_in_nI (by omega) (by omega)))⟩) ?_)
            | (refine And.intro (show ¬ (_ : Int32) = 0 by decide) ?_)
            | (refine ⟨_, rfl, ?_⟩)
            | (refine And.intro (show (none : Option Value) = none from rfl) ?_)
            | (refine Or.inl ⟨rfl, ?_⟩)
            | (refine Or.inr ⟨_, rfl, ?_⟩)
            | (refine dt (by (first | assumption | omega | ((try simp (disch := omega) only [not_true_eq_false, not_false_eq_true, Classical.not_not, ofn, b_z, b_nz, b_z', b_nz', mv_rd, mv_rn, mv_ld, mv_ln_, lit, nI_add, pk_mul, nI_clamp, hpp', hm', hI']); (try simp (disch := omega) only [fa_lt, fa_le, fa_eq, nI_toInt, pk_sub_toInt, nI_m1, nI_m1', not_false_eq_true, true_and, and_true, hpp', hm', hI']); first | done | omega))) ?_)
            | (refine df (by (first | assumption | omega | ((try simp (disch := omega) only [not_true_eq_false, not_false_eq_true, Classical.not_not, ofn, b_z, b_nz, b_z', b_nz', mv_rd, mv_rn, mv_ld, mv_ln_, lit, nI_add, pk_mul, nI_clamp, hpp', hm', hI']); (try simp (disch := omega) only [fa_lt, fa_le, fa_eq, nI_toInt, pk_sub_toInt, nI_m1, nI_m1', not_false_eq_true, true_and, and_true, hpp', hm', hI']); first | done | omega))) ?_)
            | (refine dt' (by (first | assumption | omega | ((try simp (disch := omega) only [not_true_eq_false, not_false_eq_true, Classical.not_not, ofn, b_z, b_nz, b_z', b_nz', mv_rd, mv_rn, mv_ld, mv_ln_, lit, nI_add, pk_mul, nI_clamp, hpp', hm', hI']); (try simp (disch := omega) only [fa_lt, fa_le, fa_eq, nI_toInt, pk_sub_toInt, nI_m1, nI_m1', not_false_eq_true, true_and, and_true, hpp', hm', hI']); first | done | omega))) ?_)
            | (refine df' (by (first | assumption | omega | ((try simp (disch := omega) only [not_true_eq_false, not_false_eq_true, Classical.not_not, ofn, b_z, b_nz, b_z', b_nz', mv_rd, mv_rn, mv_ld, mv_ln_, lit, nI_add, pk_mul, nI_clamp, hpp', hm', hI']); (try simp (disch := omega) only [fa_lt, fa_le, fa_eq, nI_toInt, pk_sub_toInt, nI_m1, nI_m1', not_false_eq_true, true_and, and_true, hpp', hm', hI']); first | done | omega))) ?_)
            | (refine (r_pointsOf ha).mpr ?_)
            | (refine (r_inI (A := 0) (C := (m : Int) - 1) rfl hC).mpr ?_)
            | (refine (r_isPoint ha hpp' hp).mpr ?_)
            )
        rw [nI_clamp (by omega), nI_clamp (by omega), hI']
        exact fin _
      · refine h_Ref_load_66L ?_
        rw [e64, e32, e40, e15]
        repeat (first
            | (refine And.intro (show mv_sh _ = _ from rfl) ?_)
            | (refine And.intro (show mv_sh _ = _ by assumption) ?_)
            | (refine And.intro (show _ ≤ mv_sh _ from Nat.le_of_ble_eq_true rfl) ?_)
            | (refine And.intro (show _ ≤ mv_sh _ ∧ vp_in _ _ from ⟨Nat.le_of_ble_eq_true rfl, by (first | (simp (disch := omega) only [ln_62, ln_93, ln_94, ln_95, not_true_eq_false, not_false_eq_true, Classical.not_not, ofn, b_z, b_nz, b_z', b_nz', mv_rd, mv_rn, mv_ld, mv_ln_, lit, nI_add, pk_mul, nI_clamp, hpp', hm', hI']; exact vp_in_nI (by omega) (by omega)) | (exact vp_in_nI (by omega) (by omega)))⟩) ?_)
            | (refine And.intro (show (_ : Int32) = 0 ∨ (_ : Int32) = 1 from by first | exact Or.inl rfl | exact Or.inr rfl | exact bI_01 _) ?_)
            | (refine And.intro (show mv_sh _ = _ ∧ vp_in _ _ from ⟨rfl, by (first | (simp (disch := omega) only [ln_62, ln_93, ln_94, ln_95, not_true_eq_false, not_false_eq_true, Classical.not_not, ofn, b_z, b_nz, b_z', b_nz', mv_rd, mv_rn, mv_ld, mv_ln_, lit, nI_add, pk_mul, nI_clamp, hpp', hm', hI']; exact vp_in_nI (by omega) (by omega)) | (exact vp_in_nI (by omega) (by omega)))⟩) ?_)
            | (refine And.intro (show mv_sh _ = _ ∧ vp_in _ _ from ⟨by assumption, by (first | (simp (disch := omega) only [ln_62, ln_93, ln_94, ln_95, not_true_eq_false, not_false_eq_true, Classical.not_not, ofn, b_z, b_nz, b_z', b_nz', mv_rd, mv_rn, mv_ld, mv_ln_, lit, nI_add, pk_mul, nI_clamp, hpp', hm', hI']; exact vp_in_nI (by omega) (by omega)) | (exact vp_in_nI (by omega) (by omega)))⟩) ?_)
            | (refine And.intro (show ¬ (_ : Int32) = 0 by decide) ?_)
            | (refine ⟨_, rfl, ?_⟩)
            | (refine And.intro (show (none : Option Value) = none from rfl) ?_)
            | (refine Or.inl ⟨rfl, ?_⟩)
            | (refine Or.inr ⟨_, rfl, ?_⟩)
            | (refine dt (by (first | assumption | omega | ((try simp (disch := omega) only [not_true_eq_false, not_false_eq_true, Classical.not_not, ofn, b_z, b_nz, b_z', b_nz', mv_rd, mv_rn, mv_ld, mv_ln_, lit, nI_add, pk_mul, nI_clamp, hpp', hm', hI']); (try simp (disch := omega) only [fa_lt, fa_le, fa_eq, nI_toInt, pk_sub_toInt, nI_m1, nI_m1', not_false_eq_true, true_and, and_true, hpp', hm', hI']); first | done | omega))) ?_)
            | (refine df (by (first | assumption | omega | ((try simp (disch := omega) only [not_true_eq_false, not_false_eq_true, Classical.not_not, ofn, b_z, b_nz, b_z', b_nz', mv_rd, mv_rn, mv_ld, mv_ln_, lit, nI_add, pk_mul, nI_clamp, hpp', hm', hI']); (try simp (disch := omega) only [fa_lt, fa_le, fa_eq, nI_toInt, pk_sub_toInt, nI_m1, nI_m1', not_false_eq_true, true_and, and_true, hpp', hm', hI']); first | done | omega))) ?_)
            | (refine dt' (by (first | assumption | omega | ((try simp (disch := omega) only [not_true_eq_false, not_false_eq_true, Classical.not_not, ofn, b_z, b_nz, b_z', b_nz', mv_rd, mv_rn, mv_ld, mv_ln_, lit, nI_add, pk_mul, nI_clamp, hpp', hm', hI']); (try simp (disch := omega) only [fa_lt, fa_le, fa_eq, nI_toInt, pk_sub_toInt, nI_m1, nI_m1', not_false_eq_true, true_and, and_true, hpp', hm', hI']); first | done | omega))) ?_)
            | (refine df' (by (first | assumption | omega | ((try simp (disch := omega) only [not_true_eq_false, not_false_eq_true, Classical.not_not, ofn, b_z, b_nz, b_z', b_nz', mv_rd, mv_rn, mv_ld, mv_ln_, lit, nI_add, pk_mul, nI_clamp, hpp', hm', hI']); (try simp (disch := omega) only [fa_lt, fa_le, fa_eq, nI_toInt, pk_sub_toInt, nI_m1, nI_m1', not_false_eq_true, true_and, and_true, hpp', hm', hI']); first | done | omega))) ?_)
            | (refine (r_pointsOf ha).mpr ?_)
            | (refine (r_inI (A := 0) (C := (m : Int) - 1) rfl hC).mpr ?_)
            | (refine (r_isPoint ha hpp' hp).mpr ?_)
            )
        rw [nI_clamp (by omega), nI_clamp (by omega), hI']
        exact fin _
    · have fin : ∀ y, mv_wf X (mv_wp X (d + 2)) m_Ref_load Q 66 [.ref 61, .int (nI s), .retAddr 0, .int (nI f), .int (nI a), .int (nI (ld_c p f I i)), .int (nI i + 1), .long y, .retAddr 0, .retAddr 0] [] τ := by
        intro y
        rw [nI_1]
        have := ih (i + 1) τ _ (Or.inr ⟨y, rfl⟩) (by omega) (by omega) (fun j hj => by rw [ld_keep e3]; exact h3 j hj) h4 h5
        rw [ld_c_s, if_neg e3, Nat.add_zero] at this
        exact this
      rcases hv with rfl | ⟨y, rfl⟩
      · refine h_Ref_load_66 ?_
        rw [e64, e32, e40, e15]
        repeat (first
            | (refine And.intro (show mv_sh _ = _ from rfl) ?_)
            | (refine And.intro (show mv_sh _ = _ by assumption) ?_)
            | (refine And.intro (show _ ≤ mv_sh _ from Nat.le_of_ble_eq_true rfl) ?_)
            | (refine And.intro (show _ ≤ mv_sh _ ∧ vp_in _ _ from ⟨Nat.le_of_ble_eq_true rfl, by (first | (simp (disch := omega) only [ln_62, ln_93, ln_94, ln_95, not_true_eq_false, not_false_eq_true, Classical.not_not, ofn, b_z, b_nz, b_z', b_nz', mv_rd, mv_rn, mv_ld, mv_ln_, lit, nI_add, pk_mul, nI_clamp, hpp', hm', hI']; exact vp_in_nI (by omega) (by omega)) | (exact vp_in_nI (by omega) (by omega)))⟩) ?_)
            | (refine And.intro (show (_ : Int32) = 0 ∨ (_ : Int32) = 1 from by first | exact Or.inl rfl | exact Or.inr rfl | exact bI_01 _) ?_)
            | (refine And.intro (show mv_sh _ = _ ∧ vp_in _ _ from ⟨rfl, by (first | (simp (disch := omega) only [ln_62, ln_93, ln_94, ln_95, not_true_eq_false, not_false_eq_true, Classical.not_not, ofn, b_z, b_nz, b_z', b_nz', mv_rd, mv_rn, mv_ld, mv_ln_, lit, nI_add, pk_mul, nI_clamp, hpp', hm', hI']; exact vp_in_nI (by omega) (by omega)) | (exact vp_in_nI (by omega) (by omega)))⟩) ?_)
            | (refine And.intro (show mv_sh _ = _ ∧ vp_in _ _ from ⟨by assumption, by (first | (simp (disch := omega) only [ln_62, ln_93, ln_94, ln_95, not_true_eq_false, not_false_eq_true, Classical.not_not, ofn, b_z, b_nz, b_z', b_nz', mv_rd, mv_rn, mv_ld, mv_ln_, lit, nI_add, pk_mul, nI_clamp, hpp', hm', hI']; exact vp_in_nI (by omega) (by omega)) | (exact vp_in_nI (by omega) (by omega)))⟩) ?_)
            | (refine And.intro (show ¬ (_ : Int32) = 0 by decide) ?_)
            | (refine ⟨_, rfl, ?_⟩)
            | (refine And.intro (show (none : Option Value) = none from rfl) ?_)
            | (refine Or.inl ⟨rfl, ?_⟩)
            | (refine Or.inr ⟨_, rfl, ?_⟩)
            | (refine dt (by (first | assumption | omega | ((try simp (disch := omega) only [not_true_eq_false, not_false_eq_true, Classical.not_not, ofn, b_z, b_nz, b_z', b_nz', mv_rd, mv_rn, mv_ld, mv_ln_, lit, nI_add, pk_mul, nI_clamp, hpp', hm', hI']); (try simp (disch := omega) only [fa_lt, fa_le, fa_eq, nI_toInt, pk_sub_toInt, nI_m1, nI_m1', not_false_eq_true, true_and, and_true, hpp', hm', hI']); first | done | omega))) ?_)
            | (refine df (by (first | assumption | omega | ((try simp (disch := omega) only [not_true_eq_false, not_false_eq_true, Classical.not_not, ofn, b_z, b_nz, b_z', b_nz', mv_rd, mv_rn, mv_ld, mv_ln_, lit, nI_add, pk_mul, nI_clamp, hpp', hm', hI']); (try simp (disch := omega) only [fa_lt, fa_le, fa_eq, nI_toInt, pk_sub_toInt, nI_m1, nI_m1', not_false_eq_true, true_and, and_true, hpp', hm', hI']); first | done | omega))) ?_)
            | (refine dt' (by (first | assumption | omega | ((try simp (disch := omega) only [not_true_eq_false, not_false_eq_true, Classical.not_not, ofn, b_z, b_nz, b_z', b_nz', mv_rd, mv_rn, mv_ld, mv_ln_, lit, nI_add, pk_mul, nI_clamp, hpp', hm', hI']); (try simp (disch := omega) only [fa_lt, fa_le, fa_eq, nI_toInt, pk_sub_toInt, nI_m1, nI_m1', not_false_eq_true, true_and, and_true, hpp', hm', hI']); first | done | omega))) ?_)
            | (refine df' (by (first | assumption | omega | ((try simp (disch := omega) only [not_true_eq_false, not_false_eq_true, Classical.not_not, ofn, b_z, b_nz, b_z', b_nz', mv_rd, mv_rn, mv_ld, mv_ln_, lit, nI_add, pk_mul, nI_clamp, hpp', hm', hI']); (try simp (disch := omega) only [fa_lt, fa_le, fa_eq, nI_toInt, pk_sub_toInt, nI_m1, nI_m1', not_false_eq_true, true_and, and_true, hpp', hm', hI']); first | done | omega))) ?_)
            | (refine (r_pointsOf ha).mpr ?_)
            | (refine (r_inI (A := 0) (C := (m : Int) - 1) rfl hC).mpr ?_)
            | (refine (r_isPoint ha hpp' hp).mpr ?_)
            )
        exact fin _
      · refine h_Ref_load_66L ?_
        rw [e64, e32, e40, e15]
        repeat (first
            | (refine And.intro (show mv_sh _ = _ from rfl) ?_)
            | (refine And.intro (show mv_sh _ = _ by assumption) ?_)
            | (refine And.intro (show _ ≤ mv_sh _ from Nat.le_of_ble_eq_true rfl) ?_)
            | (refine And.intro (show _ ≤ mv_sh _ ∧ vp_in _ _ from ⟨Nat.le_of_ble_eq_true rfl, by (first | (simp (disch := omega) only [ln_62, ln_93, ln_94, ln_95, not_true_eq_false, not_false_eq_true, Classical.not_not, ofn, b_z, b_nz, b_z', b_nz', mv_rd, mv_rn, mv_ld, mv_ln_, lit, nI_add, pk_mul, nI_clamp, hpp', hm', hI']; exact vp_in_nI (by omega) (by omega)) | (exact vp_in_nI (by omega) (by omega)))⟩) ?_)
            | (refine And.intro (show (_ : Int32) = 0 ∨ (_ : Int32) = 1 from by first | exact Or.inl rfl | exact Or.inr rfl | exact bI_01 _) ?_)
            | (refine And.intro (show mv_sh _ = _ ∧ vp_in _ _ from ⟨rfl, by (first | (simp (disch := omega) only [ln_62, ln_93, ln_94, ln_95, not_true_eq_false, not_false_eq_true, Classical.not_not, ofn, b_z, b_nz, b_z', b_nz', mv_rd, mv_rn, mv_ld, mv_ln_, lit, nI_add, pk_mul, nI_clamp, hpp', hm', hI']; exact vp_in_nI (by omega) (by omega)) | (exact vp_in_nI (by omega) (by omega)))⟩) ?_)
            | (refine And.intro (show mv_sh _ = _ ∧ vp_in _ _ from ⟨by assumption, by (first | (simp (disch := omega) only [ln_62, ln_93, ln_94, ln_95, not_true_eq_false, not_false_eq_true, Classical.not_not, ofn, b_z, b_nz, b_z', b_nz', mv_rd, mv_rn, mv_ld, mv_ln_, lit, nI_add, pk_mul, nI_clamp, hpp', hm', hI']; exact vp_in_nI (by omega) (by omega)) | (exact vp_in_nI (by omega) (by omega)))⟩) ?_)
            | (refine And.intro (show ¬ (_ : Int32) = 0 by decide) ?_)
            | (refine ⟨_, rfl, ?_⟩)
            | (refine And.intro (show (none : Option Value) = none from rfl) ?_)
            | (refine Or.inl ⟨rfl, ?_⟩)
            | (refine Or.inr ⟨_, rfl, ?_⟩)
            | (refine dt (by (first | assumption | omega | ((try simp (disch := omega) only [not_true_eq_false, not_false_eq_true, Classical.not_not, ofn, b_z, b_nz, b_z', b_nz', mv_rd, mv_rn, mv_ld, mv_ln_, lit, nI_add, pk_mul, nI_clamp, hpp', hm', hI']); (try simp (disch := omega) only [fa_lt, fa_le, fa_eq, nI_toInt, pk_sub_toInt, nI_m1, nI_m1', not_false_eq_true, true_and, and_true, hpp', hm', hI']); first | done | omega))) ?_)
            | (refine df (by (first | assumption | omega | ((try simp (disch := omega) only [not_true_eq_false, not_false_eq_true, Classical.not_not, ofn, b_z, b_nz, b_z', b_nz', mv_rd, mv_rn, mv_ld, mv_ln_, lit, nI_add, pk_mul, nI_clamp, hpp', hm', hI']); (try simp (disch := omega) only [fa_lt, fa_le, fa_eq, nI_toInt, pk_sub_toInt, nI_m1, nI_m1', not_false_eq_true, true_and, and_true, hpp', hm', hI']); first | done | omega))) ?_)
            | (refine dt' (by (first | assumption | omega | ((try simp (disch := omega) only [not_true_eq_false, not_false_eq_true, Classical.not_not, ofn, b_z, b_nz, b_z', b_nz', mv_rd, mv_rn, mv_ld, mv_ln_, lit, nI_add, pk_mul, nI_clamp, hpp', hm', hI']); (try simp (disch := omega) only [fa_lt, fa_le, fa_eq, nI_toInt, pk_sub_toInt, nI_m1, nI_m1', not_false_eq_true, true_and, and_true, hpp', hm', hI']); first | done | omega))) ?_)
            | (refine df' (by (first | assumption | omega | ((try simp (disch := omega) only [not_true_eq_false, not_false_eq_true, Classical.not_not, ofn, b_z, b_nz, b_z', b_nz', mv_rd, mv_rn, mv_ld, mv_ln_, lit, nI_add, pk_mul, nI_clamp, hpp', hm', hI']); (try simp (disch := omega) only [fa_lt, fa_le, fa_eq, nI_toInt, pk_sub_toInt, nI_m1, nI_m1', not_false_eq_true, true_and, and_true, hpp', hm', hI']); first | done | omega))) ?_)
            | (refine (r_pointsOf ha).mpr ?_)
            | (refine (r_inI (A := 0) (C := (m : Int) - 1) rfl hC).mpr ?_)
            | (refine (r_isPoint ha hpp' hp).mpr ?_)
            )
        exact fin _
end LOAD
