/-! ===== least, both calls ===== -/
theorem mv_pl1 {σ : mv_S} {c k : Nat} {v : Int64} : (mv_pl σ c k v).1 = σ.1 := rfl
section LEASTC
variable {X : mv_X} {d : Nat} {σ : mv_S} {Q : mv_Q} {A B : md_T}
def ls_iC (A B : md_T) (s sn : Nat) (τ : mv_S) : Prop := sn < 2 ^ 16 ∧ (∀ x, x < 16 → (sn.testBit x = true ↔ ∃ i, i < (ls_S A B s).1 ∧ (ls_S A B s).2.1 i = x)) ∧ ∀ k, k < (ls_S A B s).1 → τ.1 31 k = nI ((ls_S A B s).2.1 k) ∧ τ.2 32 k = lN (wdp (ls_F A B).2.2 k k)
def fr1 (n : Nat) (σ τ : mv_S) : Prop := ∀ c j, ¬ c = n → τ.1 c j = σ.1 c j
def fr2 (n : Nat) (σ τ : mv_S) : Prop := ∀ c j, ¬ c = n → τ.2 c j = σ.2 c j
theorem cl_fr {n t : Nat} {τ : mv_S} {M : md_T} (h : cl_M σ t M) (hf : fr1 n σ τ) (h1 : ¬ t = n) (h2 : ¬ t + 1 = n) : cl_M τ t M :=
  ⟨(hf _ _ h1).trans h.1, (hf _ _ h1).trans h.2.1, (hf _ _ h1).trans h.2.2.1, fun j hj => (hf _ _ h2).trans (h.2.2.2 j hj)⟩
theorem s_nextM {t q l : Nat} {M : md_T} (ht : mc_at t) (hc : cl_M σ t M) (hq : q < 4) (hl : l < 3) (hQ : Q (some (.int (nI (M.2.2.2 (3 * q + l))))) σ) : mv_wp X (d + 1) 13 [.ref t, .int (nI q), .int (nI l)] σ Q := by
  rw [s_next ht hq hl, hc.2.2.2 _ (by omega)]
  exact hQ
theorem s_isEndM {t q : Nat} {M : md_T} (ht : mc_at t) (hc : cl_M σ t M) (hM : md_ok M) (hq : q < 4) (hQ : Q (some (.int (if M.2.2.1.testBit q = true then 1 else 0))) σ) : mv_wp X (d + 1) 12 [.ref t, .int (nI q)] σ Q := (s_isEnd ht hc.2.2.1 (md_e16 hM) hq).mpr hQ
theorem s_wanted {a b : Bool} {w : Nat} (hw : w < 3) (hQ : Q (some (.int (if (if w = 0 then a && b else if w = 1 then a != b else a && !b) = true then 1 else 0))) σ) : mv_wp X (d + 1) 96 [.int (if a = true then 1 else 0), .int (if b = true then 1 else 0), .int (nI w)] σ Q := by
  refine (w_Pairs_isWanted _ _ _ _ _ _ _).mpr ?_
  have hw2 : w = 0 ∨ w = 1 ∨ w = 2 := by omega
  rcases hw2 with rfl | rfl | rfl <;> cases a <;> cases b <;>
  · repeat (first
      | refine dt (by decide) ?_
      | refine df (by decide) ?_
      | refine dt' (by decide) ?_
      | refine df' (by decide) ?_
      | refine And.intro (by decide) ?_)
    exact hQ
theorem lsc_in {t u w h : Nat} (ht : mc_at t) (hu : mc_at u) (oA : md_ok A) (oB : md_ok B) (cA : cl_M σ t A) (cB : cl_M σ u B) (h31 : 33 ≤ t) (h32 : 33 ≤ u) (hh : h < 16)
    (K : ∀ sn τ, ls_iC A B (3 * h + 3) sn τ → fr1 31 σ τ → fr2 32 σ τ → mv_wf X (mv_wp X (d + 1)) m_Pairs_leastWord Q 40 [.ref 30, .ref t, .ref u, .int (nI w), .int (nI sn), .int (nI (ls_S A B (3 * h + 3)).1), .int (nI (h + 1)), .retAddr 0, .retAddr 0, .retAddr 0, .retAddr 0] [] τ) :
    ∀ k l sn τ, l + k = 3 → h < (ls_S A B (3 * h + l)).1 → ls_iC A B (3 * h + l) sn τ → fr1 31 σ τ → fr2 32 σ τ → mv_wf X (mv_wp X (d + 1)) m_Pairs_leastWord Q 106 [.ref 30, .ref t, .ref u, .int (nI w), .int (nI sn), .int (nI (ls_S A B (3 * h + l)).1), .int (nI h), .int (nI ((ls_S A B (3 * h + l)).2.1 h / 4)), .int (nI ((ls_S A B (3 * h + l)).2.1 h % 4)), .int (nI l), .retAddr 0] [] τ := by
  intro k
  have ht1 := ht.1
  have hu1 := hu.1
  induction k with
  | zero =>
    intro l sn τ hl hc hi hf1 hf2
    obtain rfl : l = 3 := by omega
    refine h_Pairs_leastWord_106 ?_
    repeat (first
        | (refine And.intro (show mv_sh _ = _ from rfl) ?_)
        | (refine And.intro (show mv_sh _ = _ by assumption) ?_)
        | (refine And.intro (show _ ≤ mv_sh _ from Nat.le_of_ble_eq_true rfl) ?_)
        | (refine And.intro (show _ ≤ mv_sh _ ∧ vp_in _ _ from ⟨Nat.le_of_ble_eq_true rfl, by (first | (simp (disch := omega) only [ln_31, ln_32, ln_82, ln_86, ln_62, not_true_eq_false, not_false_eq_true, Classical.not_not, ofn, b_z, b_nz, b_z', b_nz', mv_rd, mv_rn, mv_ld, mv_ln_, lit, nI_add, pk_mul, nI_clamp]; exact vp_in_nI (by omega) (by omega)) | (exact vp_in_nI (by omega) (by omega)))⟩) ?_)
        | (refine And.intro (show (_ : Int32) = 0 ∨ (_ : Int32) = 1 from by first | exact Or.inl rfl | exact Or.inr rfl | exact bI_01 _) ?_)
        | (refine And.intro (show mv_sh _ = _ ∧ vp_in _ _ from ⟨rfl, by (first | (simp (disch := omega) only [ln_31, ln_32, ln_82, ln_86, ln_62, not_true_eq_false, not_false_eq_true, Classical.not_not, ofn, b_z, b_nz, b_z', b_nz', mv_rd, mv_rn, mv_ld, mv_ln_, lit, nI_add, pk_mul, nI_clamp]; exact vp_in_nI (by omega) (by omega)) | (exact vp_in_nI (by omega) (by omega)))⟩) ?_)
        | (refine And.intro (show mv_sh _ = _ ∧ vp_in _ _ from ⟨by assumption, by (first | (simp (disch := omega) only [ln_31, ln_32, ln_82, ln_86, ln_62, not_true_eq_false, not_false_eq_true, Classical.not_not, ofn, b_z, b_nz, b_z', b_nz', mv_rd, mv_rn, mv_ld, mv_ln_, lit, nI_add, pk_mul, nI_clamp]; exact vp_in_nI (by omega) (by omega)) | (exact vp_in_nI (by omega) (by omega)))⟩) ?_)
        | (refine And.intro (show ¬ (_ : Int32) = 0 by decide) ?_)
        | (refine ⟨_, rfl, ?_⟩)
        | (refine And.intro (show (none : Option Value) = none from rfl) ?_)
        | (refine Or.inl ⟨rfl, ?_⟩)
        | (refine Or.inr ⟨_, rfl, ?_⟩)
        | (refine dt (by (first | assumption | omega | ((try simp (disch := omega) only [not_true_eq_false, not_false_eq_true, Classical.not_not, ofn, b_z, b_nz, b_z', b_nz', mv_rd, mv_rn, mv_ld, mv_ln_, lit, nI_add, pk_mul, nI_clamp]); (try simp (disch := omega) only [fa_lt, fa_le, fa_eq, nI_toInt, pk_sub_toInt, nI_m1, nI_m1', not_false_eq_true, true_and, and_true]); first | done | omega))) ?_)
        | (refine df (by (first | assumption | omega | ((try simp (disch := omega) only [not_true_eq_false, not_false_eq_true, Classical.not_not, ofn, b_z, b_nz, b_z', b_nz', mv_rd, mv_rn, mv_ld, mv_ln_, lit, nI_add, pk_mul, nI_clamp]); (try simp (disch := omega) only [fa_lt, fa_le, fa_eq, nI_toInt, pk_sub_toInt, nI_m1, nI_m1', not_false_eq_true, true_and, and_true]); first | done | omega))) ?_)
        | (refine dt' (by (first | assumption | omega | ((try simp (disch := omega) only [not_true_eq_false, not_false_eq_true, Classical.not_not, ofn, b_z, b_nz, b_z', b_nz', mv_rd, mv_rn, mv_ld, mv_ln_, lit, nI_add, pk_mul, nI_clamp]); (try simp (disch := omega) only [fa_lt, fa_le, fa_eq, nI_toInt, pk_sub_toInt, nI_m1, nI_m1', not_false_eq_true, true_and, and_true]); first | done | omega))) ?_)
        | (refine df' (by (first | assumption | omega | ((try simp (disch := omega) only [not_true_eq_false, not_false_eq_true, Classical.not_not, ofn, b_z, b_nz, b_z', b_nz', mv_rd, mv_rn, mv_ld, mv_ln_, lit, nI_add, pk_mul, nI_clamp]); (try simp (disch := omega) only [fa_lt, fa_le, fa_eq, nI_toInt, pk_sub_toInt, nI_m1, nI_m1', not_false_eq_true, true_and, and_true]); first | done | omega))) ?_)
        )
    rw [nI_1]
    exact K sn τ hi hf1 hf2
  | succ k ih =>
    intro l sn τ hl hc hi hf1 hf2
    obtain ⟨i1, i2, i3⟩ := hi
    have hx := ls_q_lt oA oB (3 * h + l) h hc
    have hle := ls_le oA oB (3 * h + l)
    have hs1 : (3 * h + l) / 3 = h := by omega
    have hs2 : (3 * h + l) % 3 = l := by omega
    have hcl := ls_lt oA oB ((ls_S A B (3 * h + l)).2.1 h) l hx (by omega)
    have cA' := cl_fr cA hf1 (by omega) (by omega)
    have cB' := cl_fr cB hf1 (by omega) (by omega)
    have hcc : nI (A.2.2.2 (3 * ((ls_S A B (3 * h + l)).2.1 h / 4) + l)) * 4 + nI (B.2.2.2 (3 * ((ls_S A B (3 * h + l)).2.1 h % 4) + l)) = nI (ls_nx A B ((ls_S A B (3 * h + l)).2.1 h) l) := by
      unfold ls_nx
      rw [show (4 : Int32) = nI 4 from rfl, pk_mul, nI_add, Nat.mul_comm]
    have hst : ∀ hb : (3 * h + l) / 3 < (ls_S A B (3 * h + l)).1, nI (A.2.2.2 (3 * ((ls_S A B (3 * h + l)).2.1 h / 4) + l)) = nI (A.2.2.2 (3 * ((ls_S A B (3 * h + l)).2.1 h / 4) + l)) := fun _ => rfl
    refine h_Pairs_leastWord_106 ?_
    by_cases htb : sn.testBit (ls_nx A B ((ls_S A B (3 * h + l)).2.1 h) l) = true
    · have hcd : ¬ ((nI sn >>> ((nI (A.2.2.2 (3 * ((ls_S A B (3 * h + l)).2.1 h / 4) + l)) * 4 + nI (B.2.2.2 (3 * ((ls_S A B (3 * h + l)).2.1 h % 4) + l))) &&& 31)) &&& (1 : Int32)) = 0 := by
        rw [hcc, tb_iff (by omega) (by omega)]
        exact fun z => z htb
      have e : ls_S A B (3 * h + l + 1) = ls_S A B (3 * h + l) := by
        rw [ls_S_eq, ls_S_eq]
        refine bf_has (by rw [hs1]; exact hc) ?_
        rw [hs1, hs2]
        exact (bf_ix_iff _ _).mpr ((i2 _ hcl).mp htb)
      have := ih (l + 1) sn τ (by omega) (by rw [← Nat.add_assoc, e]; exact hc) (by rw [← Nat.add_assoc]; unfold ls_iC; rw [e]; exact ⟨i1, i2, i3⟩) hf1 hf2
      rw [← Nat.add_assoc, e] at this
      repeat (first
          | (refine And.intro (show mv_sh _ = _ from rfl) ?_)
          | (refine And.intro (show mv_sh _ = _ by assumption) ?_)
          | (refine And.intro (show _ ≤ mv_sh _ from Nat.le_of_ble_eq_true rfl) ?_)
          | (refine And.intro (show _ ≤ mv_sh _ ∧ vp_in _ _ from ⟨Nat.le_of_ble_eq_true rfl, by (first | (simp (disch := omega) only [ln_31, ln_32, ln_82, ln_86, ln_62, not_true_eq_false, not_false_eq_true, Classical.not_not, ofn, b_z, b_nz, b_z', b_nz', mv_rd, mv_rn, mv_ld, mv_ln_, lit, nI_add, pk_mul, nI_clamp]; exact vp_in_nI (by omega) (by omega)) | (exact vp_in_nI (by omega) (by omega)))⟩) ?_)
          | (refine And.intro (show (_ : Int32) = 0 ∨ (_ : Int32) = 1 from by first | exact Or.inl rfl | exact Or.inr rfl | exact bI_01 _) ?_)
          | (refine And.intro (show mv_sh _ = _ ∧ vp_in _ _ from ⟨rfl, by (first | (simp (disch := omega) only [ln_31, ln_32, ln_82, ln_86, ln_62, not_true_eq_false, not_false_eq_true, Classical.not_not, ofn, b_z, b_nz, b_z', b_nz', mv_rd, mv_rn, mv_ld, mv_ln_, lit, nI_add, pk_mul, nI_clamp]; exact vp_in_nI (by omega) (by omega)) | (exact vp_in_nI (by omega) (by omega)))⟩) ?_)
          | (refine And.intro (show mv_sh _ = _ ∧ vp_in _ _ from ⟨by assumption, by (first | (simp (disch := omega) only [ln_31, ln_32, ln_82, ln_86, ln_62, not_true_eq_false, not_false_eq_true, Classical.not_not, ofn, b_z, b_nz, b_z', b_nz', mv_rd, mv_rn, mv_ld, mv_ln_, lit, nI_add, pk_mul, nI_clamp]; exact vp_in_nI (by omega) (by omega)) | (exact vp_in_nI (by omega) (by omega)))⟩) ?_)
          | (refine And.intro (show ¬ (_ : Int32) = 0 by decide) ?_)
          | (refine ⟨_, rfl, ?_⟩)
          | (refine And.intro (show (none : Option Value) = none from rfl) ?_)
          | (refine Or.inl ⟨rfl, ?_⟩)
          | (refine Or.inr ⟨_, rfl, ?_⟩)
          | (refine dt (by (first | assumption | omega | ((try simp (disch := omega) only [not_true_eq_false, not_false_eq_true, Classical.not_not, ofn, b_z, b_nz, b_z', b_nz', mv_rd, mv_rn, mv_ld, mv_ln_, lit, nI_add, pk_mul, nI_clamp]); (try simp (disch := omega) only [fa_lt, fa_le, fa_eq, nI_toInt, pk_sub_toInt, nI_m1, nI_m1', not_false_eq_true, true_and, and_true]); first | done | omega))) ?_)
          | (refine df (by (first | assumption | omega | ((try simp (disch := omega) only [not_true_eq_false, not_false_eq_true, Classical.not_not, ofn, b_z, b_nz, b_z', b_nz', mv_rd, mv_rn, mv_ld, mv_ln_, lit, nI_add, pk_mul, nI_clamp]); (try simp (disch := omega) only [fa_lt, fa_le, fa_eq, nI_toInt, pk_sub_toInt, nI_m1, nI_m1', not_false_eq_true, true_and, and_true]); first | done | omega))) ?_)
          | (refine dt' (by (first | assumption | omega | ((try simp (disch := omega) only [not_true_eq_false, not_false_eq_true, Classical.not_not, ofn, b_z, b_nz, b_z', b_nz', mv_rd, mv_rn, mv_ld, mv_ln_, lit, nI_add, pk_mul, nI_clamp]); (try simp (disch := omega) only [fa_lt, fa_le, fa_eq, nI_toInt, pk_sub_toInt, nI_m1, nI_m1', not_false_eq_true, true_and, and_true]); first | done | omega))) ?_)
          | (refine df' (by (first | assumption | omega | ((try simp (disch := omega) only [not_true_eq_false, not_false_eq_true, Classical.not_not, ofn, b_z, b_nz, b_z', b_nz', mv_rd, mv_rn, mv_ld, mv_ln_, lit, nI_add, pk_mul, nI_clamp]); (try simp (disch := omega) only [fa_lt, fa_le, fa_eq, nI_toInt, pk_sub_toInt, nI_m1, nI_m1', not_false_eq_true, true_and, and_true]); first | done | omega))) ?_)
          | (refine s_nextM ht cA' (by omega) (by omega) ?_)
          | (refine s_nextM hu cB' (by omega) (by omega) ?_)
          )
      rw [nI_1]
      exact this
    · have hcd : ((nI sn >>> ((nI (A.2.2.2 (3 * ((ls_S A B (3 * h + l)).2.1 h / 4) + l)) * 4 + nI (B.2.2.2 (3 * ((ls_S A B (3 * h + l)).2.1 h % 4) + l))) &&& 31)) &&& (1 : Int32)) = 0 := by
        rw [hcc, tb_iff (by omega) (by omega)]
        exact htb
      have hnew : ¬ bf_ix (bf (ls_nx A B) (ls_q0 A B) 3 (3 * h + l)) (ls_nx A B ((bf (ls_nx A B) (ls_q0 A B) 3 (3 * h + l)).2.1 ((3 * h + l) / 3)) ((3 * h + l) % 3)) < (bf (ls_nx A B) (ls_q0 A B) 3 (3 * h + l)).1 := by
        rw [hs1, hs2]
        exact fun z => htb ((i2 _ hcl).mpr ((bf_ix_iff _ _).mp z))
      have hlt : (3 * h + l) / 3 < (bf (ls_nx A B) (ls_q0 A B) 3 (3 * h + l)).1 := by rw [hs1]; exact hc
      have e0 := bf_new hlt hnew
      have hroom : (ls_S A B (3 * h + l)).1 < 16 := bf_room (by decide) (ls_q0_lt oA oB) (ls_lt oA oB) hlt hnew
      have hw := ls_word (A := A) (B := B) (s := 3 * h + l) (by omega) hlt e0
      rw [hs1, hs2] at e0 hw
      have e : ls_S A B (3 * h + l + 1) = bf_add (ls_S A B (3 * h + l)) (ls_nx A B ((ls_S A B (3 * h + l)).2.1 h) l) (3 * h + l) := e0
      generalize hS : ls_S A B (3 * h + l) = S at *
      generalize hC : ls_nx A B (S.2.1 h) l = C at *
      have := ih (l + 1) (sn ||| 2 ^ C) (mv_pl (mv_pi τ 31 S.1 (nI C)) 32 S.1 (lN (10 * wdp (ls_F A B).2.2 h h + l + 1))) (by omega) (by rw [← Nat.add_assoc, e, add_1]; omega) (by
        rw [← Nat.add_assoc]
        unfold ls_iC
        rw [e, add_1]
        refine ⟨Nat.or_lt_two_pow i1 (Nat.pow_lt_pow_right (by decide) hcl), fun x hx => ?_, fun k hk => ?_⟩
        · rw [tb_or, i2 x hx]
          constructor
          · rintro (⟨i, hi, ei⟩ | rfl)
            · exact ⟨i, by omega, by rw [(add_o _ _ _ (by omega)).1]; exact ei⟩
            · exact ⟨S.1, by omega, (add_n _ _ _).1⟩
          · rintro ⟨i, hi, ei⟩
            by_cases ez : i = S.1
            · rw [ez, (add_n _ _ _).1] at ei; exact Or.inr ei.symm
            · rw [(add_o _ _ _ ez).1] at ei; exact Or.inl ⟨i, by omega, ei⟩
        · by_cases ez : k = S.1
          · subst ez
            rw [(add_n _ _ _).1]
            exact ⟨mv_rd, by rw [mv_ld, hw]⟩
          · rw [(add_o _ _ _ ez).1]
            have := i3 k (by omega)
            exact ⟨(mv_rn (by omega)).trans this.1, by rw [mv_ln_ (by omega)]; exact this.2⟩) (fun c j hcj => by
          show (mv_pi τ 31 S.1 (nI C)).1 c j = _
          rw [mv_rn (by omega)]; exact hf1 c j hcj) (fun c j hcj => by rw [mv_ln_ (by omega)]; exact hf2 c j hcj)
      rw [← Nat.add_assoc, e, add_1, (add_o _ _ _ (by omega)).1] at this
      have hq := (i3 h hc).2
      repeat (first
          | (refine And.intro (show mv_sh _ = _ from rfl) ?_)
          | (refine And.intro (show mv_sh _ = _ by assumption) ?_)
          | (refine And.intro (show _ ≤ mv_sh _ from Nat.le_of_ble_eq_true rfl) ?_)
          | (refine And.intro (show _ ≤ mv_sh _ ∧ vp_in _ _ from ⟨Nat.le_of_ble_eq_true rfl, by (first | (simp (disch := omega) only [ln_31, ln_32, ln_82, ln_86, ln_62, not_true_eq_false, not_false_eq_true, Classical.not_not, ofn, b_z, b_nz, b_z', b_nz', mv_rd, mv_rn, mv_ld, mv_ln_, lit, nI_add, pk_mul, nI_clamp]; exact vp_in_nI (by omega) (by omega)) | (exact vp_in_nI (by omega) (by omega)))⟩) ?_)
          | (refine And.intro (show (_ : Int32) = 0 ∨ (_ : Int32) = 1 from by first | exact Or.inl rfl | exact Or.inr rfl | exact bI_01 _) ?_)
          | (refine And.intro (show mv_sh _ = _ ∧ vp_in _ _ from ⟨rfl, by (first | (simp (disch := omega) only [ln_31, ln_32, ln_82, ln_86, ln_62, not_true_eq_false, not_false_eq_true, Classical.not_not, ofn, b_z, b_nz, b_z', b_nz', mv_rd, mv_rn, mv_ld, mv_ln_, lit, nI_add, pk_mul, nI_clamp]; exact vp_in_nI (by omega) (by omega)) | (exact vp_in_nI (by omega) (by omega)))⟩) ?_)
          | (refine And.intro (show mv_sh _ = _ ∧ vp_in _ _ from ⟨by assumption, by (first | (simp (disch := omega) only [ln_31, ln_32, ln_82, ln_86, ln_62, not_true_eq_false, not_false_eq_true, Classical.not_not, ofn, b_z, b_nz, b_z', b_nz', mv_rd, mv_rn, mv_ld, mv_ln_, lit, nI_add, pk_mul, nI_clamp]; exact vp_in_nI (by omega) (by omega)) | (exact vp_in_nI (by omega) (by omega)))⟩) ?_)
          | (refine And.intro (show ¬ (_ : Int32) = 0 by decide) ?_)
          | (refine ⟨_, rfl, ?_⟩)
          | (refine And.intro (show (none : Option Value) = none from rfl) ?_)
          | (refine Or.inl ⟨rfl, ?_⟩)
          | (refine Or.inr ⟨_, rfl, ?_⟩)
          | (refine dt (by (first | assumption | omega | ((try simp (disch := omega) only [not_true_eq_false, not_false_eq_true, Classical.not_not, ofn, b_z, b_nz, b_z', b_nz', mv_rd, mv_rn, mv_ld, mv_ln_, lit, nI_add, pk_mul, nI_clamp]); (try simp (disch := omega) only [fa_lt, fa_le, fa_eq, nI_toInt, pk_sub_toInt, nI_m1, nI_m1', not_false_eq_true, true_and, and_true]); first | done | omega))) ?_)
          | (refine df (by (first | assumption | omega | ((try simp (disch := omega) only [not_true_eq_false, not_false_eq_true, Classical.not_not, ofn, b_z, b_nz, b_z', b_nz', mv_rd, mv_rn, mv_ld, mv_ln_, lit, nI_add, pk_mul, nI_clamp]); (try simp (disch := omega) only [fa_lt, fa_le, fa_eq, nI_toInt, pk_sub_toInt, nI_m1, nI_m1', not_false_eq_true, true_and, and_true]); first | done | omega))) ?_)
          | (refine dt' (by (first | assumption | omega | ((try simp (disch := omega) only [not_true_eq_false, not_false_eq_true, Classical.not_not, ofn, b_z, b_nz, b_z', b_nz', mv_rd, mv_rn, mv_ld, mv_ln_, lit, nI_add, pk_mul, nI_clamp]); (try simp (disch := omega) only [fa_lt, fa_le, fa_eq, nI_toInt, pk_sub_toInt, nI_m1, nI_m1', not_false_eq_true, true_and, and_true]); first | done | omega))) ?_)
          | (refine df' (by (first | assumption | omega | ((try simp (disch := omega) only [not_true_eq_false, not_false_eq_true, Classical.not_not, ofn, b_z, b_nz, b_z', b_nz', mv_rd, mv_rn, mv_ld, mv_ln_, lit, nI_add, pk_mul, nI_clamp]); (try simp (disch := omega) only [fa_lt, fa_le, fa_eq, nI_toInt, pk_sub_toInt, nI_m1, nI_m1', not_false_eq_true, true_and, and_true]); first | done | omega))) ?_)
          | (refine s_nextM ht cA' (by omega) (by omega) ?_)
          | (refine s_nextM hu cB' (by omega) (by omega) ?_)
          )
      rw [hcc, tb_set (by omega), nI_1, nI_1, nI_clamp (by omega), nI_clamp (by omega), mv_r2, hq, nI_l (by omega), show (10 : Int64) = lN 10 from rfl, lN_mul, lN_add, lN_1, Nat.mul_comm _ 10]
      exact this
theorem lsc_out {t u w : Nat} (hw : w < 3) (ht : mc_at t) (hu : mc_at u) (oA : md_ok A) (oB : md_ok B) (cA : cl_M σ t A) (cB : cl_M σ u B) (h31 : 33 ≤ t) (h32 : 33 ≤ u)
    (hQ : ∀ τ : mv_S, fr1 31 σ τ → fr2 32 σ τ → Q (some (.long (ls_ans A B w))) τ) :
    ∀ k h sn τ, h + k = 16 → h ≤ (ls_S A B (3 * h)).1 → (∀ j, j < h → ls_wt A B w ((ls_F A B).2.1 j) = false) → ls_iC A B (3 * h) sn τ → fr1 31 σ τ → fr2 32 σ τ → mv_wf X (mv_wp X (d + 1)) m_Pairs_leastWord Q 40 [.ref 30, .ref t, .ref u, .int (nI w), .int (nI sn), .int (nI (ls_S A B (3 * h)).1), .int (nI h), .retAddr 0, .retAddr 0, .retAddr 0, .retAddr 0] [] τ := by
  intro k
  have ht1 := ht.1
  have hu1 := hu.1
  induction k with
  | zero =>
    intro h sn τ hk hc hn hi hf1 hf2
    have hle := ls_le oA oB (3 * h)
    have e : (ls_S A B (3 * h)).1 = h := by omega
    have := hQ τ hf1 hf2
    rw [ls_none hn (by rw [← ls_end oA oB e]; exact e)] at this
    refine h_Pairs_leastWord_40 ?_
    repeat (first
        | (refine And.intro (show mv_sh _ = _ from rfl) ?_)
        | (refine And.intro (show mv_sh _ = _ by assumption) ?_)
        | (refine And.intro (show _ ≤ mv_sh _ from Nat.le_of_ble_eq_true rfl) ?_)
        | (refine And.intro (show _ ≤ mv_sh _ ∧ vp_in _ _ from ⟨Nat.le_of_ble_eq_true rfl, by (first | (simp (disch := omega) only [ln_31, ln_32, ln_82, ln_86, ln_62, not_true_eq_false, not_false_eq_true, Classical.not_not, ofn, b_z, b_nz, b_z', b_nz', mv_rd, mv_rn, mv_ld, mv_ln_, lit, nI_add, pk_mul, nI_clamp]; exact vp_in_nI (by omega) (by omega)) | (exact vp_in_nI (by omega) (by omega)))⟩) ?_)
        | (refine And.intro (show (_ : Int32) = 0 ∨ (_ : Int32) = 1 from by first | exact Or.inl rfl | exact Or.inr rfl | exact bI_01 _) ?_)
        | (refine And.intro (show mv_sh _ = _ ∧ vp_in _ _ from ⟨rfl, by (first | (simp (disch := omega) only [ln_31, ln_32, ln_82, ln_86, ln_62, not_true_eq_false, not_false_eq_true, Classical.not_not, ofn, b_z, b_nz, b_z', b_nz', mv_rd, mv_rn, mv_ld, mv_ln_, lit, nI_add, pk_mul, nI_clamp]; exact vp_in_nI (by omega) (by omega)) | (exact vp_in_nI (by omega) (by omega)))⟩) ?_)
        | (refine And.intro (show mv_sh _ = _ ∧ vp_in _ _ from ⟨by assumption, by (first | (simp (disch := omega) only [ln_31, ln_32, ln_82, ln_86, ln_62, not_true_eq_false, not_false_eq_true, Classical.not_not, ofn, b_z, b_nz, b_z', b_nz', mv_rd, mv_rn, mv_ld, mv_ln_, lit, nI_add, pk_mul, nI_clamp]; exact vp_in_nI (by omega) (by omega)) | (exact vp_in_nI (by omega) (by omega)))⟩) ?_)
        | (refine And.intro (show ¬ (_ : Int32) = 0 by decide) ?_)
        | (refine ⟨_, rfl, ?_⟩)
        | (refine And.intro (show (none : Option Value) = none from rfl) ?_)
        | (refine Or.inl ⟨rfl, ?_⟩)
        | (refine Or.inr ⟨_, rfl, ?_⟩)
        | (refine dt (by (first | assumption | omega | ((try simp (disch := omega) only [not_true_eq_false, not_false_eq_true, Classical.not_not, ofn, b_z, b_nz, b_z', b_nz', mv_rd, mv_rn, mv_ld, mv_ln_, lit, nI_add, pk_mul, nI_clamp]); (try simp (disch := omega) only [fa_lt, fa_le, fa_eq, nI_toInt, pk_sub_toInt, nI_m1, nI_m1', not_false_eq_true, true_and, and_true]); first | done | omega))) ?_)
        | (refine df (by (first | assumption | omega | ((try simp (disch := omega) only [not_true_eq_false, not_false_eq_true, Classical.not_not, ofn, b_z, b_nz, b_z', b_nz', mv_rd, mv_rn, mv_ld, mv_ln_, lit, nI_add, pk_mul, nI_clamp]); (try simp (disch := omega) only [fa_lt, fa_le, fa_eq, nI_toInt, pk_sub_toInt, nI_m1, nI_m1', not_false_eq_true, true_and, and_true]); first | done | omega))) ?_)
        | (refine dt' (by (first | assumption | omega | ((try simp (disch := omega) only [not_true_eq_false, not_false_eq_true, Classical.not_not, ofn, b_z, b_nz, b_z', b_nz', mv_rd, mv_rn, mv_ld, mv_ln_, lit, nI_add, pk_mul, nI_clamp]); (try simp (disch := omega) only [fa_lt, fa_le, fa_eq, nI_toInt, pk_sub_toInt, nI_m1, nI_m1', not_false_eq_true, true_and, and_true]); first | done | omega))) ?_)
        | (refine df' (by (first | assumption | omega | ((try simp (disch := omega) only [not_true_eq_false, not_false_eq_true, Classical.not_not, ofn, b_z, b_nz, b_z', b_nz', mv_rd, mv_rn, mv_ld, mv_ln_, lit, nI_add, pk_mul, nI_clamp]); (try simp (disch := omega) only [fa_lt, fa_le, fa_eq, nI_toInt, pk_sub_toInt, nI_m1, nI_m1', not_false_eq_true, true_and, and_true]); first | done | omega))) ?_)
        )
    exact this
  | succ k ih =>
    intro h sn τ hk hc hn hi hf1 hf2
    have hle := ls_le oA oB (3 * h)
    by_cases e : (ls_S A B (3 * h)).1 = h
    · have := hQ τ hf1 hf2
      rw [ls_none hn (by rw [← ls_end oA oB e]; exact e)] at this
      refine h_Pairs_leastWord_40 ?_
      repeat (first
          | (refine And.intro (show mv_sh _ = _ from rfl) ?_)
          | (refine And.intro (show mv_sh _ = _ by assumption) ?_)
          | (refine And.intro (show _ ≤ mv_sh _ from Nat.le_of_ble_eq_true rfl) ?_)
          | (refine And.intro (show _ ≤ mv_sh _ ∧ vp_in _ _ from ⟨Nat.le_of_ble_eq_true rfl, by (first | (simp (disch := omega) only [ln_31, ln_32, ln_82, ln_86, ln_62, not_true_eq_false, not_false_eq_true, Classical.not_not, ofn, b_z, b_nz, b_z', b_nz', mv_rd, mv_rn, mv_ld, mv_ln_, lit, nI_add, pk_mul, nI_clamp]; exact vp_in_nI (by omega) (by omega)) | (exact vp_in_nI (by omega) (by omega)))⟩) ?_)
          | (refine And.intro (show (_ : Int32) = 0 ∨ (_ : Int32) = 1 from by first | exact Or.inl rfl | exact Or.inr rfl | exact bI_01 _) ?_)
          | (refine And.intro (show mv_sh _ = _ ∧ vp_in _ _ from ⟨rfl, by (first | (simp (disch := omega) only [ln_31, ln_32, ln_82, ln_86, ln_62, not_true_eq_false, not_false_eq_true, Classical.not_not, ofn, b_z, b_nz, b_z', b_nz', mv_rd, mv_rn, mv_ld, mv_ln_, lit, nI_add, pk_mul, nI_clamp]; exact vp_in_nI (by omega) (by omega)) | (exact vp_in_nI (by omega) (by omega)))⟩) ?_)
          | (refine And.intro (show mv_sh _ = _ ∧ vp_in _ _ from ⟨by assumption, by (first | (simp (disch := omega) only [ln_31, ln_32, ln_82, ln_86, ln_62, not_true_eq_false, not_false_eq_true, Classical.not_not, ofn, b_z, b_nz, b_z', b_nz', mv_rd, mv_rn, mv_ld, mv_ln_, lit, nI_add, pk_mul, nI_clamp]; exact vp_in_nI (by omega) (by omega)) | (exact vp_in_nI (by omega) (by omega)))⟩) ?_)
          | (refine And.intro (show ¬ (_ : Int32) = 0 by decide) ?_)
          | (refine ⟨_, rfl, ?_⟩)
          | (refine And.intro (show (none : Option Value) = none from rfl) ?_)
          | (refine Or.inl ⟨rfl, ?_⟩)
          | (refine Or.inr ⟨_, rfl, ?_⟩)
          | (refine dt (by (first | assumption | omega | ((try simp (disch := omega) only [not_true_eq_false, not_false_eq_true, Classical.not_not, ofn, b_z, b_nz, b_z', b_nz', mv_rd, mv_rn, mv_ld, mv_ln_, lit, nI_add, pk_mul, nI_clamp]); (try simp (disch := omega) only [fa_lt, fa_le, fa_eq, nI_toInt, pk_sub_toInt, nI_m1, nI_m1', not_false_eq_true, true_and, and_true]); first | done | omega))) ?_)
          | (refine df (by (first | assumption | omega | ((try simp (disch := omega) only [not_true_eq_false, not_false_eq_true, Classical.not_not, ofn, b_z, b_nz, b_z', b_nz', mv_rd, mv_rn, mv_ld, mv_ln_, lit, nI_add, pk_mul, nI_clamp]); (try simp (disch := omega) only [fa_lt, fa_le, fa_eq, nI_toInt, pk_sub_toInt, nI_m1, nI_m1', not_false_eq_true, true_and, and_true]); first | done | omega))) ?_)
          | (refine dt' (by (first | assumption | omega | ((try simp (disch := omega) only [not_true_eq_false, not_false_eq_true, Classical.not_not, ofn, b_z, b_nz, b_z', b_nz', mv_rd, mv_rn, mv_ld, mv_ln_, lit, nI_add, pk_mul, nI_clamp]); (try simp (disch := omega) only [fa_lt, fa_le, fa_eq, nI_toInt, pk_sub_toInt, nI_m1, nI_m1', not_false_eq_true, true_and, and_true]); first | done | omega))) ?_)
          | (refine df' (by (first | assumption | omega | ((try simp (disch := omega) only [not_true_eq_false, not_false_eq_true, Classical.not_not, ofn, b_z, b_nz, b_z', b_nz', mv_rd, mv_rn, mv_ld, mv_ln_, lit, nI_add, pk_mul, nI_clamp]); (try simp (disch := omega) only [fa_lt, fa_le, fa_eq, nI_toInt, pk_sub_toInt, nI_m1, nI_m1', not_false_eq_true, true_and, and_true]); first | done | omega))) ?_)
          )
      exact this
    have hlt : h < (ls_S A B (3 * h)).1 := by omega
    have hx := ls_q_lt oA oB (3 * h) h hlt
    have hp := ls_pre (A := A) (B := B) (3 * h) h (by omega) hlt
    have cA' := cl_fr cA hf1 (by omega) (by omega)
    have cB' := cl_fr cB hf1 (by omega) (by omega)
    have i3 := hi.2.2 h hlt
    refine h_Pairs_leastWord_40 ?_
    rw [nI_clamp (by omega), i3.1, q_rem4 (by omega), q_div4 (by omega)]
    by_cases hwt : ls_wt A B w ((ls_S A B (3 * h)).2.1 h) = true
    · have hwt' := hwt
      unfold ls_wt at hwt'
      have := hQ τ hf1 hf2
      rw [ls_some hn hp.1 (by rw [hp.2.1]; exact hwt)] at this
      repeat (first
          | (refine And.intro (show mv_sh _ = _ from rfl) ?_)
          | (refine And.intro (show mv_sh _ = _ by assumption) ?_)
          | (refine And.intro (show _ ≤ mv_sh _ from Nat.le_of_ble_eq_true rfl) ?_)
          | (refine And.intro (show _ ≤ mv_sh _ ∧ vp_in _ _ from ⟨Nat.le_of_ble_eq_true rfl, by (first | (simp (disch := omega) only [ln_31, ln_32, ln_82, ln_86, ln_62, not_true_eq_false, not_false_eq_true, Classical.not_not, ofn, b_z, b_nz, b_z', b_nz', mv_rd, mv_rn, mv_ld, mv_ln_, lit, nI_add, pk_mul, nI_clamp, hwt', if_true]; exact vp_in_nI (by omega) (by omega)) | (exact vp_in_nI (by omega) (by omega)))⟩) ?_)
          | (refine And.intro (show (_ : Int32) = 0 ∨ (_ : Int32) = 1 from by first | exact Or.inl rfl | exact Or.inr rfl | exact bI_01 _) ?_)
          | (refine And.intro (show mv_sh _ = _ ∧ vp_in _ _ from ⟨rfl, by (first | (simp (disch := omega) only [ln_31, ln_32, ln_82, ln_86, ln_62, not_true_eq_false, not_false_eq_true, Classical.not_not, ofn, b_z, b_nz, b_z', b_nz', mv_rd, mv_rn, mv_ld, mv_ln_, lit, nI_add, pk_mul, nI_clamp, hwt', if_true]; exact vp_in_nI (by omega) (by omega)) | (exact vp_in_nI (by omega) (by omega)))⟩) ?_)
          | (refine And.intro (show mv_sh _ = _ ∧ vp_in _ _ from ⟨by assumption, by (first | (simp (disch := omega) only [ln_31, ln_32, ln_82, ln_86, ln_62, not_true_eq_false, not_false_eq_true, Classical.not_not, ofn, b_z, b_nz, b_z', b_nz', mv_rd, mv_rn, mv_ld, mv_ln_, lit, nI_add, pk_mul, nI_clamp, hwt', if_true]; exact vp_in_nI (by omega) (by omega)) | (exact vp_in_nI (by omega) (by omega)))⟩) ?_)
          | (refine And.intro (show ¬ (_ : Int32) = 0 by decide) ?_)
          | (refine ⟨_, rfl, ?_⟩)
          | (refine And.intro (show (none : Option Value) = none from rfl) ?_)
          | (refine Or.inl ⟨rfl, ?_⟩)
          | (refine Or.inr ⟨_, rfl, ?_⟩)
          | (refine dt (by (first | assumption | omega | ((try simp (disch := omega) only [not_true_eq_false, not_false_eq_true, Classical.not_not, ofn, b_z, b_nz, b_z', b_nz', mv_rd, mv_rn, mv_ld, mv_ln_, lit, nI_add, pk_mul, nI_clamp, hwt', if_true]); (try simp (disch := omega) only [fa_lt, fa_le, fa_eq, nI_toInt, pk_sub_toInt, nI_m1, nI_m1', not_false_eq_true, true_and, and_true, hwt', if_true]); first | done | omega))) ?_)
          | (refine df (by (first | assumption | omega | ((try simp (disch := omega) only [not_true_eq_false, not_false_eq_true, Classical.not_not, ofn, b_z, b_nz, b_z', b_nz', mv_rd, mv_rn, mv_ld, mv_ln_, lit, nI_add, pk_mul, nI_clamp, hwt', if_true]); (try simp (disch := omega) only [fa_lt, fa_le, fa_eq, nI_toInt, pk_sub_toInt, nI_m1, nI_m1', not_false_eq_true, true_and, and_true, hwt', if_true]); first | done | omega))) ?_)
          | (refine dt' (by (first | assumption | omega | ((try simp (disch := omega) only [not_true_eq_false, not_false_eq_true, Classical.not_not, ofn, b_z, b_nz, b_z', b_nz', mv_rd, mv_rn, mv_ld, mv_ln_, lit, nI_add, pk_mul, nI_clamp, hwt', if_true]); (try simp (disch := omega) only [fa_lt, fa_le, fa_eq, nI_toInt, pk_sub_toInt, nI_m1, nI_m1', not_false_eq_true, true_and, and_true, hwt', if_true]); first | done | omega))) ?_)
          | (refine df' (by (first | assumption | omega | ((try simp (disch := omega) only [not_true_eq_false, not_false_eq_true, Classical.not_not, ofn, b_z, b_nz, b_z', b_nz', mv_rd, mv_rn, mv_ld, mv_ln_, lit, nI_add, pk_mul, nI_clamp, hwt', if_true]); (try simp (disch := omega) only [fa_lt, fa_le, fa_eq, nI_toInt, pk_sub_toInt, nI_m1, nI_m1', not_false_eq_true, true_and, and_true, hwt', if_true]); first | done | omega))) ?_)
          | (refine s_isEndM ht cA' oA (by omega) ?_)
          | (refine s_isEndM hu cB' oB (by omega) ?_)
          | (refine s_wanted hw ?_)
          )
      rw [i3.2]
      exact this
    · have hwt' := hwt
      unfold ls_wt at hwt'
      repeat (first
          | (refine And.intro (show mv_sh _ = _ from rfl) ?_)
          | (refine And.intro (show mv_sh _ = _ by assumption) ?_)
          | (refine And.intro (show _ ≤ mv_sh _ from Nat.le_of_ble_eq_true rfl) ?_)
          | (refine And.intro (show _ ≤ mv_sh _ ∧ vp_in _ _ from ⟨Nat.le_of_ble_eq_true rfl, by (first | (simp (disch := omega) only [ln_31, ln_32, ln_82, ln_86, ln_62, not_true_eq_false, not_false_eq_true, Classical.not_not, ofn, b_z, b_nz, b_z', b_nz', mv_rd, mv_rn, mv_ld, mv_ln_, lit, nI_add, pk_mul, nI_clamp, hwt', if_false]; exact vp_in_nI (by omega) (by omega)) | (exact vp_in_nI (by omega) (by omega)))⟩) ?_)
          | (refine And.intro (show (_ : Int32) = 0 ∨ (_ : Int32) = 1 from by first | exact Or.inl rfl | exact Or.inr rfl | exact bI_01 _) ?_)
          | (refine And.intro (show mv_sh _ = _ ∧ vp_in _ _ from ⟨rfl, by (first | (simp (disch := omega) only [ln_31, ln_32, ln_82, ln_86, ln_62, not_true_eq_false, not_false_eq_true, Classical.not_not, ofn, b_z, b_nz, b_z', b_nz', mv_rd, mv_rn, mv_ld, mv_ln_, lit, nI_add, pk_mul, nI_clamp, hwt', if_false]; exact vp_in_nI (by omega) (by omega)) | (exact vp_in_nI (by omega) (by omega)))⟩) ?_)
          | (refine And.intro (show mv_sh _ = _ ∧ vp_in _ _ from ⟨by assumption, by (first | (simp (disch := omega) only [ln_31, ln_32, ln_82, ln_86, ln_62, not_true_eq_false, not_false_eq_true, Classical.not_not, ofn, b_z, b_nz, b_z', b_nz', mv_rd, mv_rn, mv_ld, mv_ln_, lit, nI_add, pk_mul, nI_clamp, hwt', if_false]; exact vp_in_nI (by omega) (by omega)) | (exact vp_in_nI (by omega) (by omega)))⟩) ?_)
          | (refine And.intro (show ¬ (_ : Int32) = 0 by decide) ?_)
          | (refine ⟨_, rfl, ?_⟩)
          | (refine And.intro (show (none : Option Value) = none from rfl) ?_)
          | (refine Or.inl ⟨rfl, ?_⟩)
          | (refine Or.inr ⟨_, rfl, ?_⟩)
          | (refine dt (by (first | assumption | omega | ((try simp (disch := omega) only [not_true_eq_false, not_false_eq_true, Classical.not_not, ofn, b_z, b_nz, b_z', b_nz', mv_rd, mv_rn, mv_ld, mv_ln_, lit, nI_add, pk_mul, nI_clamp, hwt', if_false]); (try simp (disch := omega) only [fa_lt, fa_le, fa_eq, nI_toInt, pk_sub_toInt, nI_m1, nI_m1', not_false_eq_true, true_and, and_true, hwt', if_false]); first | done | omega))) ?_)
          | (refine df (by (first | assumption | omega | ((try simp (disch := omega) only [not_true_eq_false, not_false_eq_true, Classical.not_not, ofn, b_z, b_nz, b_z', b_nz', mv_rd, mv_rn, mv_ld, mv_ln_, lit, nI_add, pk_mul, nI_clamp, hwt', if_false]); (try simp (disch := omega) only [fa_lt, fa_le, fa_eq, nI_toInt, pk_sub_toInt, nI_m1, nI_m1', not_false_eq_true, true_and, and_true, hwt', if_false]); first | done | omega))) ?_)
          | (refine dt' (by (first | assumption | omega | ((try simp (disch := omega) only [not_true_eq_false, not_false_eq_true, Classical.not_not, ofn, b_z, b_nz, b_z', b_nz', mv_rd, mv_rn, mv_ld, mv_ln_, lit, nI_add, pk_mul, nI_clamp, hwt', if_false]); (try simp (disch := omega) only [fa_lt, fa_le, fa_eq, nI_toInt, pk_sub_toInt, nI_m1, nI_m1', not_false_eq_true, true_and, and_true, hwt', if_false]); first | done | omega))) ?_)
          | (refine df' (by (first | assumption | omega | ((try simp (disch := omega) only [not_true_eq_false, not_false_eq_true, Classical.not_not, ofn, b_z, b_nz, b_z', b_nz', mv_rd, mv_rn, mv_ld, mv_ln_, lit, nI_add, pk_mul, nI_clamp, hwt', if_false]); (try simp (disch := omega) only [fa_lt, fa_le, fa_eq, nI_toInt, pk_sub_toInt, nI_m1, nI_m1', not_false_eq_true, true_and, and_true, hwt', if_false]); first | done | omega))) ?_)
          | (refine s_isEndM ht cA' oA (by omega) ?_)
          | (refine s_isEndM hu cB' oB (by omega) ?_)
          | (refine s_wanted hw ?_)
          )
      refine dt ((b_z _).mpr hwt') ?_
      refine lsc_in (σ := σ) (A := A) (B := B) ht hu oA oB cA cB h31 h32 (by omega) (fun sn' τ' j1 j2 j3 => ?_) 3 0 sn τ rfl hlt hi hf1 hf2
      refine ih (h + 1) sn' τ' (by omega) ?_ (fun j hj => ?_) j1 j2 j3
      · have m := bf_mono (nx := ls_nx A B) (q0 := ls_q0 A B) (J := 3) (3 * h) 3
        exact Nat.lt_of_lt_of_le hlt m.1
      · by_cases ej : j = h
        · rw [ej, hp.2.1]; exact Bool.eq_false_iff.mpr hwt
        · exact hn j (by omega)
theorem s_leastWord {t u w : Nat} (hw : w < 3) (ht : mc_at t) (hu : mc_at u) (oA : md_ok A) (oB : md_ok B) (cA : cl_M σ t A) (cB : cl_M σ u B) (h31 : 33 ≤ t) (h32 : 33 ≤ u)
    (hQ : ∀ τ : mv_S, fr1 31 σ τ → fr2 32 σ τ → Q (some (.long (ls_ans A B w))) τ) : mv_wp X (d + 2) 95 [.ref 30, .ref t, .ref u, .int (nI w)] σ Q := by
  have ht1 := ht.1
  have hu1 := hu.1
  have hq0 := ls_q0_lt oA oB
  refine w_Pairs_leastWord ?_
  rw [cA.2.1, cB.2.1, show nI A.2.1 * 4 + nI B.2.1 = nI (ls_q0 A B) by unfold ls_q0; rw [show (4 : Int32) = nI 4 from rfl, pk_mul, nI_add, Nat.mul_comm], show (0 : Int32).toNatClampNeg = 0 from rfl]
  repeat (first
      | (refine And.intro (show mv_sh _ = _ from rfl) ?_)
      | (refine And.intro (show mv_sh _ = _ by assumption) ?_)
      | (refine And.intro (show _ ≤ mv_sh _ from Nat.le_of_ble_eq_true rfl) ?_)
      | (refine And.intro (show _ ≤ mv_sh _ ∧ vp_in _ _ from ⟨Nat.le_of_ble_eq_true rfl, by (first | (simp (disch := omega) only [ln_31, ln_32, ln_82, ln_86, ln_62, not_true_eq_false, not_false_eq_true, Classical.not_not, ofn, b_z, b_nz, b_z', b_nz', mv_rd, mv_rn, mv_ld, mv_ln_, lit, nI_add, pk_mul, nI_clamp]; exact vp_in_nI (by omega) (by omega)) | (exact vp_in_nI (by omega) (by omega)))⟩) ?_)
      | (refine And.intro (show (_ : Int32) = 0 ∨ (_ : Int32) = 1 from by first | exact Or.inl rfl | exact Or.inr rfl | exact bI_01 _) ?_)
      | (refine And.intro (show mv_sh _ = _ ∧ vp_in _ _ from ⟨rfl, by (first | (simp (disch := omega) only [ln_31, ln_32, ln_82, ln_86, ln_62, not_true_eq_false, not_false_eq_true, Classical.not_not, ofn, b_z, b_nz, b_z', b_nz', mv_rd, mv_rn, mv_ld, mv_ln_, lit, nI_add, pk_mul, nI_clamp]; exact vp_in_nI (by omega) (by omega)) | (exact vp_in_nI (by omega) (by omega)))⟩) ?_)
      | (refine And.intro (show mv_sh _ = _ ∧ vp_in _ _ from ⟨by assumption, by (first | (simp (disch := omega) only [ln_31, ln_32, ln_82, ln_86, ln_62, not_true_eq_false, not_false_eq_true, Classical.not_not, ofn, b_z, b_nz, b_z', b_nz', mv_rd, mv_rn, mv_ld, mv_ln_, lit, nI_add, pk_mul, nI_clamp]; exact vp_in_nI (by omega) (by omega)) | (exact vp_in_nI (by omega) (by omega)))⟩) ?_)
      | (refine And.intro (show ¬ (_ : Int32) = 0 by decide) ?_)
      | (refine ⟨_, rfl, ?_⟩)
      | (refine And.intro (show (none : Option Value) = none from rfl) ?_)
      | (refine Or.inl ⟨rfl, ?_⟩)
      | (refine Or.inr ⟨_, rfl, ?_⟩)
      | (refine dt (by (first | assumption | omega | ((try simp (disch := omega) only [not_true_eq_false, not_false_eq_true, Classical.not_not, ofn, b_z, b_nz, b_z', b_nz', mv_rd, mv_rn, mv_ld, mv_ln_, lit, nI_add, pk_mul, nI_clamp]); (try simp (disch := omega) only [fa_lt, fa_le, fa_eq, nI_toInt, pk_sub_toInt, nI_m1, nI_m1', not_false_eq_true, true_and, and_true]); first | done | omega))) ?_)
      | (refine df (by (first | assumption | omega | ((try simp (disch := omega) only [not_true_eq_false, not_false_eq_true, Classical.not_not, ofn, b_z, b_nz, b_z', b_nz', mv_rd, mv_rn, mv_ld, mv_ln_, lit, nI_add, pk_mul, nI_clamp]); (try simp (disch := omega) only [fa_lt, fa_le, fa_eq, nI_toInt, pk_sub_toInt, nI_m1, nI_m1', not_false_eq_true, true_and, and_true]); first | done | omega))) ?_)
      | (refine dt' (by (first | assumption | omega | ((try simp (disch := omega) only [not_true_eq_false, not_false_eq_true, Classical.not_not, ofn, b_z, b_nz, b_z', b_nz', mv_rd, mv_rn, mv_ld, mv_ln_, lit, nI_add, pk_mul, nI_clamp]); (try simp (disch := omega) only [fa_lt, fa_le, fa_eq, nI_toInt, pk_sub_toInt, nI_m1, nI_m1', not_false_eq_true, true_and, and_true]); first | done | omega))) ?_)
      | (refine df' (by (first | assumption | omega | ((try simp (disch := omega) only [not_true_eq_false, not_false_eq_true, Classical.not_not, ofn, b_z, b_nz, b_z', b_nz', mv_rd, mv_rn, mv_ld, mv_ln_, lit, nI_add, pk_mul, nI_clamp]); (try simp (disch := omega) only [fa_lt, fa_le, fa_eq, nI_toInt, pk_sub_toInt, nI_m1, nI_m1', not_false_eq_true, true_and, and_true]); first | done | omega))) ?_)
      )
  rw [mv_pl1, mv_rd]
  have e1 : (1 : Int32) <<< (nI (ls_q0 A B) &&& 31) = nI (2 ^ ls_q0 A B) := by
    have h2 : (2 : Nat) ^ ls_q0 A B < 2 ^ 31 := Nat.pow_lt_pow_right (by decide) (by omega)
    rw [show (1 : Int32) = nI 1 from rfl, q_shl (by omega) (by omega), Nat.one_mul]
  rw [e1]
  refine lsc_out (A := A) (B := B) (σ := σ) hw ht hu oA oB cA cB h31 h32 hQ 16 0 (2 ^ ls_q0 A B) _ rfl (Nat.zero_le _) (fun j hj => absurd hj (Nat.not_lt_zero _)) ⟨Nat.pow_lt_pow_right (by decide) hq0, fun x hx => ?_, fun k hk => ?_⟩ (fun c j hc => ?_) (fun c j hc => ?_)
  · rw [Nat.testBit_two_pow, decide_eq_true_eq]
    constructor
    · rintro rfl; exact ⟨0, Nat.one_pos, rfl⟩
    · rintro ⟨i, _, ei⟩; exact ei
  · have hk1 : k < 1 := hk
    obtain rfl : k = 0 := by omega
    exact ⟨by rw [mv_pl1, mv_rd]; rfl, by rw [mv_ld]; rfl⟩
  · show (mv_pi σ 31 0 (nI (ls_q0 A B))).1 c j = _
    rw [mv_rn (by omega)]
  · rw [mv_ln_ (by omega)]; rfl
end LEASTC
