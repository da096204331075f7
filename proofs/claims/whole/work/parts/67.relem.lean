/-! ===== the reference finds elements ===== -/
def bfm (n : Nat) (S : bf_T) : bf_T := (S.1, fun i => S.2.1 i % 4 ^ n, S.2.2)
theorem bfm_add (n : Nat) (S : bf_T) (x s : Nat) : bfm n (bf_add S x s) = bf_add (bfm n S) (x % 4 ^ n) s := by
  unfold bfm bf_add
  refine Prod.ext rfl (Prod.ext (funext fun k => ?_) rfl)
  show (if k = S.1 then x else S.2.1 k) % 4 ^ n = if k = S.1 then x % 4 ^ n else S.2.1 k % 4 ^ n
  by_cases e : k = S.1
  · rw [if_pos e, if_pos e]
  · rw [if_neg e, if_neg e]
theorem ff_cg {p q : Nat → Bool} : ∀ n, (∀ k, k < n → p k = q k) → fa_first p n = fa_first q n
  | 0, _ => rfl
  | n + 1, h => by
    show (if fa_first p n < n then fa_first p n else if p n then n else n + 1) = (if fa_first q n < n then fa_first q n else if q n then n else n + 1)
    rw [ff_cg n (fun k hk => h k (by omega)), h n (by omega)]
theorem bfm_ix {n : Nat} {S : bf_T} {x : Nat} (hn : n ≤ 4) (hS : ∀ i, i < S.1 → fx n (S.2.1 i)) (hx : fx n x) : bf_ix (bfm n S) (x % 4 ^ n) = bf_ix S x := by
  refine ff_cg S.1 (fun k hk => ?_)
  show decide (S.2.1 k % 4 ^ n = x % 4 ^ n) = decide (S.2.1 k = x)
  by_cases e : S.2.1 k = x
  · rw [decide_eq_true e, e, decide_eq_true rfl]
  · rw [decide_eq_false e, decide_eq_false (fun z => e (fx_inj hn (hS k hk) hx z))]
theorem cg4_cg {f h : Nat → Nat} : ∀ n, (∀ p, p < n → f p = h p) → cg4 f n = cg4 h n
  | 0, _ => rfl
  | n + 1, e => by show cg4 f n + f n * 4 ^ n = cg4 h n + h n * 4 ^ n; rw [cg4_cg n (fun p hp => e p (by omega)), e n (by omega)]
def id4 (p : Nat) : Nat := p % 4
theorem id4_lt (p : Nat) : id4 p < 4 := Nat.mod_lt _ (by decide)
theorem id4_228 : cg4 id4 4 = 228 := by decide
def elR (M : md_T) (s : Nat) (σ : mv_S) : Prop := σ.1 61 14 = nI (eS (gL M) s).1 ∧ σ.1 61 22 = (if tf (gL M) s = true then 1 else 0) ∧ (∀ i, i < (eS (gL M) s).1 → σ.1 70 i = nI ((eS (gL M) s).2.1 i % 4 ^ (lF M).1)) ∧ (∀ i, 0 < i → i < (eS (gL M) s).1 → σ.1 73 i = nI ((eF (gL M)).2.2 i / 3) ∧ σ.1 72 i = nI ((eF (gL M)).2.2 i % 3)) ∧ ∀ c, c < 256 → σ.1 71 c = if bf_ix (bfm (lF M).1 (eS (gL M) s)) c < (eS (gL M) s).1 then nI (bf_ix (bfm (lF M).1 (eS (gL M) s)) c) else -1
def enR (M : md_T) (σ : mv_S) : Prop := σ.1 61 14 = nI (eF (gL M)).1 ∧ σ.1 61 22 = (if tf (gL M) (3 * (eF (gL M)).1) = true then 1 else 0) ∧ (∀ i, i < (eF (gL M)).1 → σ.1 70 i = nI ((eF (gL M)).2.1 i % 4 ^ (lF M).1)) ∧ (∀ i, 0 < i → i < (eF (gL M)).1 → σ.1 73 i = nI ((eF (gL M)).2.2 i / 3) ∧ σ.1 72 i = nI ((eF (gL M)).2.2 i % 3)) ∧ ∀ c, c < 256 → σ.1 71 c = if bf_ix (bfm (lF M).1 (eF (gL M))) c < (eF (gL M)).1 then nI (bf_ix (bfm (lF M).1 (eF (gL M))) c) else -1
def moR (M : md_T) (σ : mv_S) : Prop := lpR M σ ∧ (∀ l, l < 3 → σ.1 76 l = nI (gL M l % 4 ^ (lF M).1)) ∧ enR M σ
def iv_R (n : Nat) (σ : mv_S) : Prop := σ.1 61 23 = -1 ∨ ∃ k M, k < n ∧ σ.1 61 23 = nI k ∧ md_ok M ∧ md_n M ∧ rf_M σ 62 k M ∧ moR M σ
def frZ (σ τ : mv_S) : Prop := (∀ c j, ¬ (c = 61 ∧ (j = 7 ∨ j = 8 ∨ j = 14 ∨ j = 22 ∨ j = 23)) → ¬ (65 ≤ c ∧ c ≤ 73) → ¬ c = 76 → τ.1 c j = σ.1 c j) ∧ τ.2 = σ.2
theorem frZ_tr {a b c : mv_S} (h : frZ a b) (g : frZ b c) : frZ a c := ⟨fun x j q1 q2 q3 => (g.1 x j q1 q2 q3).trans (h.1 x j q1 q2 q3), g.2.trans h.2⟩
theorem nI_28 {a b : Nat} (ha : a < 2 ^ 28) (hb : b < 2 ^ 28) (h : nI a = nI b) : a = b := (nI_eq (by omega) (by omega)).mp h
theorem rf_inj {σ : mv_S} {c k : Nat} {M N : md_T} (oM : md_ok M) (oN : md_ok N) (hM : md_n M) (hN : md_n N) (rM : rf_M σ c k M) (rN : rf_M σ c k N) : M = N := by
  have eM := md_e16 oM
  have eN := md_e16 oN
  obtain ⟨a1, a2, a3, a4, a5, a6⟩ := oM
  obtain ⟨b1, b2, b3, b4, b5, b6⟩ := oN
  refine md_ext hM hN (nI_28 (by omega) (by omega) (rM.1.symm.trans rN.1)) (nI_28 (by omega) (by omega) (rM.2.1.symm.trans rN.2.1)) (nI_28 (by omega) (by omega) (rM.2.2.1.symm.trans rN.2.2.1)) (fun j hj => nI_28 ?_ ?_ ((rM.2.2.2 j hj).symm.trans (rN.2.2.2 j hj)))
  · have := a5 j hj; omega
  · have := b5 j hj; omega
theorem fx_256 {n x : Nat} (h : fx n x) : x % 4 ^ n < 256 := Nat.lt_of_le_of_lt (Nat.mod_le _ _) h.1
section RELEM
variable {X : mv_X} {d : Nat} {σ : mv_S} {Q : mv_Q} {M : md_T} {k : Nat}
theorem r_comes {c N : Nat} {f b : Int32} (h14 : σ.1 61 14 = nI N) (hN : N < 256) (hc : c < 256)
    (hQ : ∀ τ : mv_S, τ.1 61 14 = nI (N + 1) → τ.1 70 N = nI c → τ.1 71 c = nI N → τ.1 73 N = f → τ.1 72 N = b → (∀ c' j, ¬ (c' = 61 ∧ j = 14) → ¬ (c' = 70 ∧ j = N) → ¬ (c' = 71 ∧ j = c) → ¬ (c' = 72 ∧ j = N) → ¬ (c' = 73 ∧ j = N) → τ.1 c' j = σ.1 c' j) → τ.2 = σ.2 → Q none τ) : mv_wp X (d + 1) 175 [.ref 61, .int (nI c), .int f, .int b] σ Q := by
  refine (w_Ref_comes _ _ _ _ _ _ _).mpr ?_
  simp (disch := omega) only [h14, mv_rn, nI_clamp]
  repeat (first
      | (refine And.intro (show mv_sh _ = _ from rfl) ?_)
      | (refine And.intro (show mv_sh _ = _ by assumption) ?_)
      | (refine And.intro (show _ ≤ mv_sh _ from Nat.le_of_ble_eq_true rfl) ?_)
      | (refine And.intro (show _ ≤ mv_sh _ ∧ vp_in _ _ from ⟨Nat.le_of_ble_eq_true rfl, by (first | (simp (disch := omega) only [ln_65, ln_70, ln_71, ln_72, ln_73, ln_76, not_true_eq_false, not_false_eq_true, Classical.not_not, ofn, b_z, b_nz, b_z', b_nz', mv_rd, mv_rn, mv_ld, mv_ln_, lit, nI_add, pk_mul, nI_clamp]; exact vp_in_nI (by omega) (by omega)) | (exact vp_in_nI (by omega) (by omega)))⟩) ?_)
      | (refine And.intro (show (_ : Int32) = 0 ∨ (_ : Int32) = 1 from by first | exact Or.inl rfl | exact Or.inr rfl | exact bI_01 _) ?_)
      | (refine And.intro (show mv_sh _ = _ ∧ vp_in _ _ from ⟨rfl, by (first | (simp (disch := omega) only [ln_65, ln_70, ln_71, ln_72, ln_73, ln_76, not_true_eq_false, not_false_eq_true, Classical.not_not, ofn, b_z, b_nz, b_z', b_nz', mv_rd, mv_rn, mv_ld, mv_ln_, lit, nI_add, pk_mul, nI_clamp]; exact vp_in_nI (by omega) (by omega)) | (exact vp_in_nI (by omega) (by omega)))⟩) ?_)
      | (refine And.intro (show mv_sh _ = _ ∧ vp_in _ _ from ⟨by assumption, by (first | (simp (disch := omega) only [ln_65, ln_70, ln_71, ln_72, ln_73, ln_76, not_true_eq_false, not_false_eq_true, Classical.not_not, ofn, b_z, b_nz, b_z', b_nz', mv_rd, mv_rn, mv_ld, mv_ln_, lit, nI_add, pk_mul, nI_clamp]; exact vp_in_nI (by omega) (by omega)) | (exact vp_in_nI (by omega) (by omega)))⟩) ?_)
      | (refine And.intro (show ¬ (_ : Int32) = 0 by decide) ?_)
      | (refine ⟨_, rfl, ?_⟩)
      | (refine And.intro (show (none : Option Value) = none from rfl) ?_)
      | (refine Or.inl ⟨rfl, ?_⟩)
      | (refine Or.inr ⟨_, rfl, ?_⟩)
      | (refine dt (by (first | assumption | omega | ((try simp (disch := omega) only [not_true_eq_false, not_false_eq_true, Classical.not_not, ofn, b_z, b_nz, b_z', b_nz', mv_rd, mv_rn, mv_ld, mv_ln_, lit, nI_add, pk_mul, nI_clamp]); (try simp (disch := omega) only [fa_lt, fa_le, fa_eq, nI_toInt, pk_sub_toInt, nI_m1, nI_m1', not_false_eq_true, true_and, and_true]); first | done | omega))) ?_)
      | (refine df (by (first | assumption | omega | ((try simp (disch := omega) only [not_true_eq_false, not_false_eq_true, Classical.not_not, ofn, b_z, b_nz, b_z', b_nz', mv_rd, mv_rn, mv_ld, mv_ln_, lit, nI_add, pk_mul, nI_clamp]); (try simp (disch := omega) only [fa_lt, fa_le, fa_eq, nI_toInt, pk_sub_toInt, nI_m1, nI_m1', not_false_eq_true, true_and, and_true]); first | done | omega))) ?_)
      | (refine dt' (by (first | assumption | omega | ((try simp (disch := omega) only [not_true_eq_false, not_false_eq_true, Classical.not_not, ofn, b_z, b_nz, b_z', b_nz', mv_rd, mv_rn, mv_ld, mv_ln_, lit, nI_add, pk_mul, nI_clamp]); (try simp (disch := omega) only [fa_lt, fa_le, fa_eq, nI_toInt, pk_sub_toInt, nI_m1, nI_m1', not_false_eq_true, true_and, and_true]); first | done | omega))) ?_)
      | (refine df' (by (first | assumption | omega | ((try simp (disch := omega) only [not_true_eq_false, not_false_eq_true, Classical.not_not, ofn, b_z, b_nz, b_z', b_nz', mv_rd, mv_rn, mv_ld, mv_ln_, lit, nI_add, pk_mul, nI_clamp]); (try simp (disch := omega) only [fa_lt, fa_le, fa_eq, nI_toInt, pk_sub_toInt, nI_m1, nI_m1', not_false_eq_true, true_and, and_true]); first | done | omega))) ?_)
      )
  refine hQ _ ?_ ?_ ?_ ?_ ?_ (fun c' j q1 q2 q3 q4 q5 => ?_) rfl
  · rw [mv_rd, nI_1]
  · simp (disch := omega) only [mv_rn, mv_rd]
  · simp (disch := omega) only [mv_rn, mv_rd]
  · simp (disch := omega) only [mv_rn, mv_rd]
  · simp (disch := omega) only [mv_rn, mv_rd]
  · simp (disch := omega) only [mv_rn]
theorem r_elL {i : Nat} (hM : md_ok M) (hi : i < 256) (h76 : ∀ l, l < 3 → σ.1 76 l = nI (gL M l % 4 ^ (lF M).1)) (h7 : σ.1 61 7 = nI (lF M).1)
    (hK : ∀ τ, elR M (3 * i + 3) τ → frZ σ τ → τ.1 61 7 = σ.1 61 7 → τ.1 61 8 = σ.1 61 8 → (∀ c j, (65 ≤ c ∧ c ≤ 69) ∨ c = 76 → τ.1 c j = σ.1 c j) → mv_wf X (mv_wp X (d + 2)) m_Ref_findsElements Q 141 [.ref 61, .int (nI k), .retAddr 0, .int (nI (i + 1)), .retAddr 0, .retAddr 0] [] τ) :
    ∀ r l (τ : mv_S), l + r = 3 → i < (eS (gL M) (3 * i + l)).1 → elR M (3 * i + l) τ → frZ σ τ → τ.1 61 7 = σ.1 61 7 → τ.1 61 8 = σ.1 61 8 → (∀ c j, (65 ≤ c ∧ c ≤ 69) ∨ c = 76 → τ.1 c j = σ.1 c j) → mv_wf X (mv_wp X (d + 2)) m_Ref_findsElements Q 152 [.ref 61, .int (nI k), .retAddr 0, .int (nI i), .int (nI l), .retAddr 0] [] τ := by
  intro r
  induction r with
  | zero =>
    intro l τ hl hlt he hf f7 f8 fc
    obtain rfl : l = 3 := by omega
    refine h_Ref_findsElements_152 ⟨fun _ => ?_, fun z => absurd (show (3 : Int32) ≤ nI 3 by decide) z⟩
    rw [nI_1]
    exact hK τ he hf f7 f8 fc
  | succ r ih =>
    intro l τ hl hlt he hf f7 f8 fc
    have h4 := lF_4 hM
    have hs1 : (3 * i + l) / 3 = i := by omega
    have hs2 : (3 * i + l) % 3 = l := by omega
    have up := eS_up (g := gL M) (s := 3 * i + l) (by rw [hs1]; exact hlt)
    have nw := eln_new (g := gL M) (s := 3 * i + l) (by omega) (by rw [hs1]; exact hlt)
    have tfe : tf (gL M) (3 * i + l + 1) = (tf (gL M) (3 * i + l) || decide (enx (gL M) ((eS (gL M) (3 * i + l)).2.1 i) l = 228)) := by
      show (tf (gL M) (3 * i + l) || (decide ((3 * i + l) / 3 < (eS (gL M) (3 * i + l)).1) && decide (enx (gL M) ((eS (gL M) (3 * i + l)).2.1 ((3 * i + l) / 3)) ((3 * i + l) % 3) = 228))) = _
      rw [hs1, hs2, decide_eq_true hlt, Bool.true_and]
    rw [hs1, hs2] at up nw
    have hg : ∀ l, l < 3 → fx (lF M).1 (gL M l) := fun l hl => gL_fx hM hl
    have hq := eS_fx hg hlt
    have hgl := gL_fx hM (show l < 3 by omega)
    have hSx : ∀ j, j < (eS (gL M) (3 * i + l)).1 → fx (lF M).1 ((eS (gL M) (3 * i + l)).2.1 j) := fun j hj => eS_fx hg hj
    have hle := eS_le (g := gL M) (3 * i + l)
    have hle1 := eS_le (g := gL M) (3 * i + l + 1)
    have q0 := (bf_q0 (nx := enx (gL M)) (q0 := 228) (J := 3) (3 * i + l)).1
    rw [← eS_eq] at q0
    have inj := eS_inj (g := gL M) (3 * i + l)
    have hxf : fx (lF M).1 (enx (gL M) ((eS (gL M) (3 * i + l)).2.1 i) l) := fx_th hq hgl
    have mod := thn_mod (g := gL M l) h4 hq
    have exx : th ((eS (gL M) (3 * i + l)).2.1 i) (gL M l) = enx (gL M) ((eS (gL M) (3 * i + l)).2.1 i) l := rfl
    rw [exx] at mod
    refine h_Ref_findsElements_152 ⟨fun z => absurd z (nI_ge (b := 3) (by omega) (by omega)), fun _ => ⟨rfl, ⟨rfl, vp_in_nI (N := 256) hi (by omega)⟩, rfl, ⟨rfl, vp_in_nI (N := 3) (by omega) (by omega)⟩, rfl, ?_⟩⟩
    rw [nI_clamp (by omega), nI_clamp (by omega), he.2.2.1 i hlt, fc 76 l (Or.inr rfl), h76 l (by omega)]
    refine r_behind h4 (f7.trans h7) (fx_256 hq) (fx_256 hgl) ⟨_, rfl, rfl, ?_⟩
    rw [mod]
    have ixe := bfm_ix h4 hSx hxf
    have hc256 := fx_256 hxf
    generalize hxd : enx (gL M) ((eS (gL M) (3 * i + l)).2.1 i) l = x at *
    have c71 := he.2.2.2.2 _ hc256
    rw [ixe] at c71
    rw [nI_clamp (by omega), c71, nI_1]
    refine ⟨⟨rfl, vp_in_nI (N := 256) hc256 (by omega)⟩, ?_⟩
    have flag : ∀ υ : mv_S, elR M (3 * i + l + 1) (mv_pi υ 61 22 (if tf (gL M) (3 * i + l + 1) = true then 1 else 0)) → (eS (gL M) (3 * i + l)).1 ≤ (eS (gL M) (3 * i + l + 1)).1 → frZ σ υ → υ.1 61 7 = σ.1 61 7 → υ.1 61 8 = σ.1 61 8 → (∀ c j, (65 ≤ c ∧ c ≤ 69) ∨ c = 76 → υ.1 c j = σ.1 c j) → mv_wf X (mv_wp X (d + 2)) m_Ref_findsElements Q 152 [.ref 61, .int (nI k), .retAddr 0, .int (nI i), .int (nI (l + 1)), .retAddr 0] [] (mv_pi υ 61 22 (if tf (gL M) (3 * i + l + 1) = true then 1 else 0)) := by
      intro υ a1 a2 a3 a4 a5 a6
      refine ih (l + 1) _ (by omega) (by rw [← Nat.add_assoc]; omega) a1 ⟨fun c j q1 q2 q3 => by rw [mv_rn (by omega)]; exact a3.1 c j q1 q2 q3, a3.2⟩ ?_ ?_ (fun c j q => ?_)
      · rw [mv_rn (by omega)]; exact a4
      · rw [mv_rn (by omega)]; exact a5
      · rw [mv_rn (by omega)]; exact a6 c j q
    by_cases e : bf_ix (eS (gL M) (3 * i + l)) x < (eS (gL M) (3 * i + l)).1
    · have eu : eS (gL M) (3 * i + l + 1) = eS (gL M) (3 * i + l) := up.trans (if_pos e)
      rw [if_pos e]
      have hne : ¬ nI (bf_ix (eS (gL M) (3 * i + l)) x) = (-1 : Int32) := by rw [fa_eq, nI_toInt (by omega), nI_m1]; omega
      have st : ∀ v, v = (if tf (gL M) (3 * i + l + 1) = true then (1 : Int32) else 0) → mv_wf X (mv_wp X (d + 2)) m_Ref_findsElements Q 152 [.ref 61, .int (nI k), .retAddr 0, .int (nI i), .int (nI (l + 1)), .retAddr 0] [] (mv_pi τ 61 22 v) := by
        intro v hv
        rw [hv]
        refine flag τ ⟨?_, mv_rd, fun j hj => ?_, fun j h0 hj => ?_, fun c hc => ?_⟩ (by rw [eu]; exact Nat.le_refl _) hf f7 f8 fc
        · rw [mv_rn (by omega), eu]; exact he.1
        · rw [eu] at hj ⊢; rw [mv_rn (by omega)]; exact he.2.2.1 j hj
        · rw [eu] at hj; rw [mv_rn (by omega), mv_rn (by omega)]; exact he.2.2.2.1 j h0 hj
        · rw [mv_rn (by omega), eu]; exact he.2.2.2.2 c hc
      refine ⟨fun _ => ⟨rfl, ?_⟩, fun z => absurd z hne⟩
      rw [he.2.1]
      by_cases et : tf (gL M) (3 * i + l) = true
      · rw [et, Bool.true_or] at tfe
        rw [if_pos et]
        exact ⟨fun _ => ⟨⟨rfl, Or.inr rfl⟩, st 1 (by rw [tfe]; rfl)⟩, fun z => absurd z (by decide)⟩
      · rw [Bool.eq_false_iff.mpr et, Bool.false_or] at tfe
        rw [if_neg et]
        refine ⟨fun z => absurd rfl z, fun _ => ⟨rfl, ⟨rfl, vp_in_nI (N := 256) hc256 (by omega)⟩, ?_⟩⟩
        by_cases ex : x = 228
        · have i0 : bf_ix (eS (gL M) (3 * i + l)) x = 0 := bf_ix_eq inj (by omega) (by rw [q0, ex])
          rw [i0]
          refine ⟨fun z => absurd rfl z, fun _ => ⟨⟨rfl, Or.inr rfl⟩, st 1 (by rw [tfe, decide_eq_true ex]; rfl)⟩⟩
        · have i0 : ¬ nI (bf_ix (eS (gL M) (3 * i + l)) x) = 0 := by
            intro z
            have z : bf_ix (eS (gL M) (3 * i + l)) x = 0 := nI_28 (by omega) (by omega) z
            have := bf_ix_at e
            rw [z, q0] at this
            exact ex this.symm
          exact ⟨fun _ => ⟨⟨rfl, Or.inl rfl⟩, st 0 (by rw [tfe, decide_eq_false ex]; rfl)⟩, fun z => absurd z i0⟩
    · have eu : eS (gL M) (3 * i + l + 1) = bf_add (eS (gL M) (3 * i + l)) x (3 * i + l) := up.trans (if_neg e)
      obtain ⟨nw1, nw2⟩ := nw eu
      rw [if_neg e]
      refine ⟨fun z => absurd rfl z, fun _ => ⟨rfl, ?_⟩⟩
      rw [eu, add_1] at hle1
      have ex : ¬ x = 228 := fun z => e ((bf_ix_iff _ _).mpr ⟨0, by omega, by rw [q0, z]⟩)
      have em : ¬ bf_ix (bfm (lF M).1 (eS (gL M) (3 * i + l))) (x % 4 ^ (lF M).1) < (bfm (lF M).1 (eS (gL M) (3 * i + l))).1 := by rw [ixe]; exact e
      rw [decide_eq_false ex, Bool.or_false] at tfe
      refine r_comes (N := (eS (gL M) (3 * i + l)).1) he.1 (by omega) hc256 (fun υ w1 w2 w3 w4 w5 w6 w7 => ⟨rfl, rfl, ?_⟩)
      have fυ : frZ σ υ := ⟨fun c j q1 q2 q3 => by rw [w6 c j (by omega) (by omega) (by omega) (by omega) (by omega)]; exact hf.1 c j q1 q2 q3, w7.trans hf.2⟩
      have st : ∀ v, v = (if tf (gL M) (3 * i + l + 1) = true then (1 : Int32) else 0) → mv_wf X (mv_wp X (d + 2)) m_Ref_findsElements Q 152 [.ref 61, .int (nI k), .retAddr 0, .int (nI i), .int (nI (l + 1)), .retAddr 0] [] (mv_pi υ 61 22 v) := by
        intro v hv
        rw [hv]
        refine flag υ ⟨?_, mv_rd, fun j hj => ?_, fun j h0 hj => ?_, fun c hc => ?_⟩ (by rw [eu, add_1]; omega) fυ ?_ ?_ (fun c j q => ?_)
        · rw [mv_rn (by omega), eu, add_1]; exact w1
        · rw [eu, add_1] at hj
          rw [mv_rn (by omega), eu]
          by_cases ej : j = (eS (gL M) (3 * i + l)).1
          · rw [ej, (add_n _ _ _).1]; exact w2
          · rw [(add_o _ _ _ ej).1, w6 70 j (by omega) (by omega) (by omega) (by omega) (by omega)]; exact he.2.2.1 j (by omega)
        · rw [eu, add_1] at hj
          rw [mv_rn (by omega), mv_rn (by omega)]
          by_cases ej : j = (eS (gL M) (3 * i + l)).1
          · rw [ej, nw2, hs1, hs2]; exact ⟨w4, w5⟩
          · rw [w6 73 j (by omega) (by omega) (by omega) (by omega) (by omega), w6 72 j (by omega) (by omega) (by omega) (by omega) (by omega)]; exact he.2.2.2.1 j h0 (by omega)
        · rw [mv_rn (by omega), eu, bfm_add, ix_add em, add_1]
          show _ = if (if bf_ix (bfm (lF M).1 (eS (gL M) (3 * i + l))) c < (eS (gL M) (3 * i + l)).1 then bf_ix (bfm (lF M).1 (eS (gL M) (3 * i + l))) c else if c = x % 4 ^ (lF M).1 then (eS (gL M) (3 * i + l)).1 else (eS (gL M) (3 * i + l)).1 + 1) < (eS (gL M) (3 * i + l)).1 + 1 then nI (if bf_ix (bfm (lF M).1 (eS (gL M) (3 * i + l))) c < (eS (gL M) (3 * i + l)).1 then bf_ix (bfm (lF M).1 (eS (gL M) (3 * i + l))) c else if c = x % 4 ^ (lF M).1 then (eS (gL M) (3 * i + l)).1 else (eS (gL M) (3 * i + l)).1 + 1) else -1
          by_cases ec : c = x % 4 ^ (lF M).1
          · rw [ec, w3, ixe, if_neg e, if_pos rfl, if_pos (by omega)]
          · rw [w6 71 c (by omega) (by omega) (by omega) (by omega) (by omega), he.2.2.2.2 c hc]
            by_cases e2 : bf_ix (bfm (lF M).1 (eS (gL M) (3 * i + l))) c < (eS (gL M) (3 * i + l)).1
            · rw [if_pos e2, if_pos e2, if_pos (by omega)]
            · rw [if_neg e2, if_neg e2, if_neg ec, if_neg (by omega)]
        · rw [w6 61 7 (by omega) (by omega) (by omega) (by omega) (by omega)]; exact f7
        · rw [w6 61 8 (by omega) (by omega) (by omega) (by omega) (by omega)]; exact f8
        · rw [w6 c j (by omega) (by omega) (by omega) (by omega) (by omega)]; exact fc c j q
      rw [w6 61 22 (by omega) (by omega) (by omega) (by omega) (by omega), he.2.1, w3]
      by_cases et : tf (gL M) (3 * i + l) = true
      · rw [if_pos et]
        exact ⟨fun _ => ⟨⟨rfl, Or.inr rfl⟩, st 1 (by rw [tfe, et]; rfl)⟩, fun z => absurd z (by decide)⟩
      · rw [if_neg et]
        refine ⟨fun z => absurd rfl z, fun _ => ⟨rfl, ⟨rfl, vp_in_nI (N := 256) hc256 (by omega)⟩, ?_⟩⟩
        exact ⟨fun _ => ⟨⟨rfl, Or.inl rfl⟩, st 0 (by rw [tfe, Bool.eq_false_iff.mpr et]; rfl)⟩, fun z => absurd z (nI_ne0 (by omega) (by omega))⟩
theorem r_findsElements {n : Nat} (hn : k < n) (hn3 : n ≤ 3) (hM : md_ok M) (hN : md_n M) (hr : rf_M σ 62 k M) (hR : iv_R n σ) (hQ : ∀ τ, moR M τ → τ.1 61 23 = nI k → frZ σ τ → Q none τ) : mv_wp X (d + 5) 176 [.ref 61, .int (nI k)] σ Q := by
  have hk : k < 3 := by omega
  have h4 := lF_4 hM
  refine w_Ref_findsElements ⟨rfl, ?_⟩
  by_cases e : σ.1 61 23 = nI k
  · refine ⟨fun z => absurd e z, fun _ => ?_⟩
    rcases hR with z | ⟨j, N, hj, z, oN, nN, rN, mN⟩
    · rw [z] at e
      exact absurd e (by rw [fa_eq, nI_toInt (by omega), nI_m1]; omega)
    · have : j = k := nI_28 (by omega) (by omega) (z.symm.trans e)
      subst this
      have : M = N := rf_inj hM oN hN nN hr rN
      subst this
      exact hQ σ mN z ⟨fun _ _ _ _ _ => rfl, rfl⟩
  refine ⟨fun _ => ⟨rfl, ?_⟩, fun z => absurd z e⟩
  refine r_findsLeast hk hM hr (fun τ p1 p2 p3 => ⟨rfl, ?_⟩)
  have fz : frZ σ τ := ⟨fun c j q1 q2 q3 => p2.1 c j (by omega) (by omega), p2.2⟩
  have outer : ∀ υ : mv_S, lpR M υ → (∀ l, l < 3 → υ.1 76 l = nI (gL M l % 4 ^ (lF M).1)) → frZ σ υ → ∀ r i (ρ : mv_S), i + r = 256 → i ≤ (eS (gL M) (3 * i)).1 → elR M (3 * i) ρ → frZ υ ρ → ρ.1 61 7 = υ.1 61 7 → ρ.1 61 8 = υ.1 61 8 → (∀ c j, (65 ≤ c ∧ c ≤ 69) ∨ c = 76 → ρ.1 c j = υ.1 c j) → mv_wf X (mv_wp X (d + 4)) m_Ref_findsElements Q 141 [.ref 61, .int (nI k), .retAddr 0, .int (nI i), .retAddr 0, .retAddr 0] [] ρ := by
    intro υ l1 l2 l3 r
    have fin : ∀ i (ρ : mv_S), (eS (gL M) (3 * i)).1 = i → elR M (3 * i) ρ → frZ υ ρ → ρ.1 61 7 = υ.1 61 7 → ρ.1 61 8 = υ.1 61 8 → (∀ c j, (65 ≤ c ∧ c ≤ 69) ∨ c = 76 → ρ.1 c j = υ.1 c j) → Q none (mv_pi ρ 61 23 (nI k)) := by
      intro i ρ e he hf f7 f8 fc
      have eFF := eS_end e
      unfold elR at he
      rw [eFF] at he e
      have e3 : 3 * i = 3 * (eF (gL M)).1 := by rw [e]
      rw [e3] at he
      refine hQ _ ⟨⟨?_, ?_, fun i l hi hl => ?_⟩, fun l hl => ?_, ?_, ?_, fun j hj => ?_, fun j h0 hj => ?_, fun c hc => ?_⟩ mv_rd ⟨fun c j q1 q2 q3 => ?_, hf.2.trans l3.2⟩
      · rw [mv_rn (by omega), f7]; exact l1.1
      · rw [mv_rn (by omega), f8]; exact l1.2.1
      · rw [mv_rn (by omega), fc _ _ (by omega)]; exact l1.2.2 i l hi hl
      · rw [mv_rn (by omega), fc _ _ (by omega)]; exact l2 l hl
      · rw [mv_rn (by omega)]; exact he.1
      · rw [mv_rn (by omega)]; exact he.2.1
      · rw [mv_rn (by omega)]; exact he.2.2.1 j hj
      · rw [mv_rn (by omega), mv_rn (by omega)]; exact he.2.2.2.1 j h0 hj
      · rw [mv_rn (by omega)]; exact he.2.2.2.2 c hc
      · rw [mv_rn (by omega)]; exact (hf.1 c j q1 q2 q3).trans (l3.1 c j q1 q2 q3)
    induction r with
    | zero =>
      intro i ρ hi hle he hf f7 f8 fc
      have h5 := eS_le (g := gL M) (3 * i)
      have e : (eS (gL M) (3 * i)).1 = i := by omega
      refine h_Ref_findsElements_141 ⟨rfl, ?_⟩
      rw [he.1, e]
      exact ⟨fun _ => ⟨rfl, fin i ρ e he hf f7 f8 fc⟩, fun z => absurd (nI_le (Nat.le_refl _) (by omega)) z⟩
    | succ r ih =>
      intro i ρ hi hle he hf f7 f8 fc
      have h5 := eS_le (g := gL M) (3 * i)
      refine h_Ref_findsElements_141 ⟨rfl, ?_⟩
      rw [he.1]
      by_cases e : (eS (gL M) (3 * i)).1 = i
      · rw [e]
        exact ⟨fun _ => ⟨rfl, fin i ρ e he hf f7 f8 fc⟩, fun z => absurd (nI_le (Nat.le_refl _) (by omega)) z⟩
      · have hlt : i < (eS (gL M) (3 * i)).1 := by omega
        refine ⟨fun z => absurd z (nI_ge hlt (by omega)), fun _ => ?_⟩
        have m3 := bf_mono (nx := enx (gL M)) (q0 := 228) (J := 3) (3 * i) 3
        rw [← eS_eq, ← eS_eq] at m3
        exact r_elL (σ := υ) (d := d + 2) hM (by omega) l2 l1.1 (fun τ2 q1 q2 q3 q4 q5 => ih (i + 1) τ2 (by omega) (Nat.le_trans hlt m3.1) q1 q2 q3 q4 q5) 3 0 ρ rfl hlt he hf f7 f8 fc
  have fill : ∀ υ : mv_S, lpR M υ → (∀ l, l < 3 → υ.1 76 l = nI (gL M l % 4 ^ (lF M).1)) → frZ σ υ → ∀ r x (ρ : mv_S), x + r = 256 → (∀ y, y < x → ρ.1 71 y = -1) → (∀ c j, ¬ c = 71 → ρ.1 c j = υ.1 c j) → ρ.2 = υ.2 → mv_wf X (mv_wp X (d + 4)) m_Ref_findsElements Q 102 [.ref 61, .int (nI k), .int (nI (228 % 4 ^ (lF M).1)), .int (nI x), .retAddr 0, .retAddr 0] [] ρ := by
    intro υ l1 l2 l3 r
    induction r with
    | zero =>
      intro x ρ hx h71 hf h2
      obtain rfl : x = 256 := by omega
      refine h_Ref_findsElements_102 ⟨fun _ => ⟨rfl, ⟨rfl, Or.inl rfl⟩, rfl, ?_⟩, fun z => absurd (show (256 : Int32) ≤ nI 256 by decide) z⟩
      refine r_comes (c := 228 % 4 ^ (lF M).1) (N := 0) (by rw [mv_rn (by omega), mv_rd]; rfl) (by decide) (Nat.lt_of_le_of_lt (Nat.mod_le _ _) (by decide)) (fun ω w1 w2 w3 w4 w5 w6 w7 => ⟨rfl, ?_⟩)
      have w8 : ∀ c j, ¬ (c = 61 ∧ (j = 14 ∨ j = 22)) → ¬ (c = 70 ∧ j = 0) → ¬ (c = 71 ∧ j = 228 % 4 ^ (lF M).1) → ¬ (c = 72 ∧ j = 0) → ¬ (c = 73 ∧ j = 0) → ω.1 c j = ρ.1 c j := fun c j q1 q2 q3 q4 q5 => by rw [w6 c j (by omega) q2 q3 q4 q5, mv_rn (by omega), mv_rn (by omega)]
      have e0 : ¬ bf_ix ((0, fun _ => 228, fun _ => 0) : bf_T) 228 < 0 := Nat.not_lt_zero _
      have e1 : eS (gL M) (3 * 0) = bf_add (0, fun _ => 228, fun _ => 0) 228 0 := by
        rw [Nat.mul_zero, eS_eq]
        unfold bf bf_add
        refine Prod.ext rfl (Prod.ext ?_ ?_)
        · funext k; show 228 = (if k = 0 then 228 else 228); split <;> rfl
        · funext k; show 0 = (if k = 0 then 0 else 0); split <;> rfl
      refine outer υ l1 l2 l3 256 0 ω rfl (Nat.zero_le _) ⟨w1, ?_, fun j hj => ?_, fun j h0 hj => ?_, fun c hc => ?_⟩ ⟨fun c j q1 q2 q3 => by rw [w8 c j (by omega) (by omega) (by omega) (by omega) (by omega)]; exact hf c j (by omega), w7.trans h2⟩ ?_ ?_ (fun c j q => ?_)
      · rw [w6 61 22 (by omega) (by omega) (by omega) (by omega) (by omega), mv_rd]; rfl
      · have hj : j < 1 := hj
        obtain rfl : j = 0 := by omega
        exact w2
      · have hj : j < 1 := hj
        omega
      · rw [e1, bfm_add, ix_add (show ¬ bf_ix (bfm (lF M).1 (0, fun _ => 228, fun _ => 0)) (228 % 4 ^ (lF M).1) < (bfm (lF M).1 (0, fun _ => 228, fun _ => 0)).1 from Nat.not_lt_zero _), add_1]
        show _ = if (if bf_ix (bfm (lF M).1 (0, fun _ => 228, fun _ => 0)) c < 0 then bf_ix (bfm (lF M).1 (0, fun _ => 228, fun _ => 0)) c else if c = 228 % 4 ^ (lF M).1 then 0 else 0 + 1) < 0 + 1 then nI (if bf_ix (bfm (lF M).1 (0, fun _ => 228, fun _ => 0)) c < 0 then bf_ix (bfm (lF M).1 (0, fun _ => 228, fun _ => 0)) c else if c = 228 % 4 ^ (lF M).1 then 0 else 0 + 1) else -1
        rw [if_neg (Nat.not_lt_zero _)]
        by_cases ec : c = 228 % 4 ^ (lF M).1
        · rw [if_pos ec, ec, w3, if_pos (by decide)]
        · rw [if_neg ec, if_neg (by decide), w8 71 c (by omega) (by omega) (by omega) (by omega) (by omega)]; exact h71 c hc
      · rw [w8 61 7 (by omega) (by omega) (by omega) (by omega) (by omega)]; exact hf _ _ (by omega)
      · rw [w8 61 8 (by omega) (by omega) (by omega) (by omega) (by omega)]; exact hf _ _ (by omega)
      · rw [w8 c j (by omega) (by omega) (by omega) (by omega) (by omega)]; exact hf c j (by omega)
    | succ r ih =>
      intro x ρ hx h71 hf h2
      refine h_Ref_findsElements_102 ⟨fun z => absurd z (nI_ge (b := 256) (by omega) (by omega)), fun _ => ⟨rfl, ⟨rfl, vp_in_nI (N := 256) (by omega) (by omega)⟩, ?_⟩⟩
      rw [nI_clamp (by omega), nI_1]
      refine ih (x + 1) _ (by omega) (fun y hy => ?_) (fun c j q => ?_) h2
      · by_cases ey : y = x
        · subst ey; exact mv_rd
        · rw [mv_rn (by omega)]; exact h71 y (by omega)
      · rw [mv_rn (by omega)]; exact hf c j q
  have lts : ∀ r p (υ : mv_S), p + r = (lF M).1 → lpR M υ → (∀ l, l < 3 → υ.1 76 l = nI (cg4 (gto M l) p)) → frZ σ υ → mv_wf X (mv_wp X (d + 4)) m_Ref_findsElements Q 38 [.ref 61, .int (nI k), .int (nI (cg4 id4 p)), .int (nI p), .retAddr 0, .retAddr 0] [] υ := by
    intro r
    induction r with
    | zero =>
      intro p υ hp l1 l2 l3
      refine h_Ref_findsElements_38 ⟨rfl, ?_⟩
      rw [l1.1]
      refine ⟨fun _ => ?_, fun z => absurd (nI_le (by omega) (by omega)) z⟩
      have ep : cg4 id4 p = 228 % 4 ^ (lF M).1 := by rw [← id4_228, cg4_mod id4_lt h4, show p = (lF M).1 by omega]
      rw [ep]
      refine fill υ l1 (fun l hl => ?_) l3 256 0 υ rfl (fun y hy => absurd hy (Nat.not_lt_zero _)) (fun _ _ _ => rfl) rfl
      unfold gL
      rw [l2 l hl, cg4_mod (gto_lt hM hl) h4, show p = (lF M).1 by omega]
    | succ r ih =>
      intro p υ hp l1 l2 l3
      have hp4 : p < 4 := by omega
      have eid : nI (cg4 id4 p) ||| (nI p <<< ((2 * nI p) &&& 31)) = nI (cg4 id4 (p + 1)) := by
        rw [show (2 : Int32) = nI 2 from rfl, pk_mul, or_up (cg4_lt id4_lt p) hp4 (by omega)]
        show nI (cg4 id4 p + p * 4 ^ p) = nI (cg4 id4 p + p % 4 * 4 ^ p)
        rw [Nat.mod_eq_of_lt hp4]
      refine h_Ref_findsElements_38 ⟨rfl, ?_⟩
      rw [l1.1, eid]
      refine ⟨fun z => absurd z (nI_ge (by omega) (by omega)), fun _ => ?_⟩
      have inner : ∀ r l (ρ : mv_S), l + r = 3 → (∀ j, j < l → ρ.1 76 j = nI (cg4 (gto M j) (p + 1))) → (∀ j, l ≤ j → j < 3 → ρ.1 76 j = nI (cg4 (gto M j) p)) → (∀ c j, ¬ c = 76 → ρ.1 c j = υ.1 c j) → ρ.2 = υ.2 → mv_wf X (mv_wp X (d + 4)) m_Ref_findsElements Q 57 [.ref 61, .int (nI k), .int (nI (cg4 id4 (p + 1))), .int (nI p), .int (nI l), .retAddr 0] [] ρ := by
        intro r
        induction r with
        | zero =>
          intro l ρ hl r1 r2 r3 r4
          obtain rfl : l = 3 := by omega
          refine h_Ref_findsElements_57 ⟨fun _ => ?_, fun z => absurd (show (3 : Int32) ≤ nI 3 by decide) z⟩
          rw [nI_1]
          exact ih (p + 1) ρ (by omega) ⟨(r3 _ _ (by omega)).trans l1.1, (r3 _ _ (by omega)).trans l1.2.1, fun i l hi hl => (r3 _ _ (by omega)).trans (l1.2.2 i l hi hl)⟩ r1 ⟨fun c j q1 q2 q3 => (r3 c j q3).trans (l3.1 c j q1 q2 q3), r4.trans l3.2⟩
        | succ r ih2 =>
          intro l ρ hl r1 r2 r3 r4
          have ev : gto M l p = lT M p l := if_pos (by omega)
          have hg := gto_lt hM (show l < 3 by omega) p
          have ec : cg4 (gto M l) (p + 1) = cg4 (gto M l) p + gto M l p * 4 ^ p := rfl
          refine h_Ref_findsElements_57 ⟨fun z => absurd z (nI_ge (b := 3) (by omega) (by omega)), fun _ => ?_⟩
          rw [show (3 : Int32) = nI 3 from rfl, show (2 : Int32) = nI 2 from rfl, pk_mul, pk_mul, nI_add, nI_clamp (by omega), nI_clamp (by omega), r2 l (Nat.le_refl _) (by omega), r3 65 _ (by omega), l1.2.2 p l (by omega) (by omega), ← ev, or_up (cg4_lt (gto_lt hM (show l < 3 by omega)) p) hg (by omega), ← ec, nI_1]
          refine ⟨rfl, ⟨rfl, vp_in_nI (N := 3) (by omega) (by omega)⟩, rfl, ⟨rfl, vp_in_nI (N := 12) (by omega) (by omega)⟩, ⟨rfl, vp_in_nI (N := 3) (by omega) (by omega)⟩, ?_⟩
          refine ih2 (l + 1) _ (by omega) (fun j hj => ?_) (fun j hj hj3 => ?_) (fun c j q => ?_) r4
          · by_cases ej : j = l
            · subst ej; exact mv_rd
            · rw [mv_rn (by omega)]; exact r1 j (by omega)
          · rw [mv_rn (by omega)]; exact r2 j (by omega) hj3
          · rw [mv_rn (by omega)]; exact r3 c j q
      exact inner 3 0 υ rfl (fun j hj => absurd hj (Nat.not_lt_zero _)) (fun j _ hj => l2 j hj) (fun _ _ _ => rfl) rfl
  have zero : ∀ r l (υ : mv_S), l + r = 3 → lpR M υ → (∀ j, j < l → υ.1 76 j = 0) → frZ σ υ → mv_wf X (mv_wp X (d + 4)) m_Ref_findsElements Q 18 [.ref 61, .int (nI k), .int 0, .int (nI l), .retAddr 0, .retAddr 0] [] υ := by
    intro r
    induction r with
    | zero =>
      intro l υ hl l1 l2 l3
      obtain rfl : l = 3 := by omega
      refine h_Ref_findsElements_18 ⟨fun _ => ?_, fun z => absurd (show (3 : Int32) ≤ nI 3 by decide) z⟩
      exact lts (lF M).1 0 υ (by omega) l1 (fun l hl => l2 l hl) l3
    | succ r ih =>
      intro l υ hl l1 l2 l3
      refine h_Ref_findsElements_18 ⟨fun z => absurd z (nI_ge (b := 3) (by omega) (by omega)), fun _ => ⟨rfl, ⟨rfl, vp_in_nI (N := 3) (by omega) (by omega)⟩, ?_⟩⟩
      rw [nI_clamp (by omega), nI_1]
      refine ih (l + 1) _ (by omega) ⟨?_, ?_, fun i l hi hl => ?_⟩ (fun j hj => ?_) ⟨fun c j q1 q2 q3 => ?_, l3.2⟩
      · rw [mv_rn (by omega)]; exact l1.1
      · rw [mv_rn (by omega)]; exact l1.2.1
      · rw [mv_rn (by omega)]; exact l1.2.2 i l hi hl
      · by_cases ej : j = l
        · subst ej; exact mv_rd
        · rw [mv_rn (by omega)]; exact l2 j (by omega)
      · rw [mv_rn (by omega)]; exact l3.1 c j q1 q2 q3
  exact zero 3 0 τ rfl p1 (fun j hj => absurd hj (Nat.not_lt_zero _)) fz
end RELEM
