/-! ===== op formula ===== -/
def iv_F (q : Nat) (σ : mv_S) : Prop := q ≤ 4 ∧ σ.1 0 12 = nI q ∧ σ.1 61 41 = nI q ∧ ∀ k, k < q → ∃ N b p a v, N ≤ 60 ∧ topP N (pkb N b) = Sum.inr (p, a, v) ∧ fmC (45 + 2 * k) a σ ∧ fmR k N b σ
def frO (σ τ : mv_S) : Prop := (∀ c j, ¬ c = 5 → ¬ (7 ≤ c ∧ c ≤ 9) → ¬ (c = 0 ∧ j = 12) → ¬ (45 ≤ c ∧ c ≤ 52) → ¬ (c = 61 ∧ (j = 6 ∨ j = 41 ∨ j = 43 ∨ (45 ≤ j ∧ j ≤ 49) ∨ j = 51)) → ¬ (87 ≤ c ∧ c ≤ 88) → ¬ (90 ≤ c ∧ c ≤ 92) → τ.1 c j = σ.1 c j) ∧ τ.2 = σ.2
def fo_P (σ τ : mv_S) : Prop := (∃ q, iv_F q τ) ∧ (∃ m, iv_T m τ) ∧ (∃ r, iv_W r τ) ∧ frO σ τ
theorem keep_L : ∀ L, L ≤ 60 → (if (0 : Int32) < (if (if (Int32.ofNat 60) < (Int32.ofNat (mv_ln 7)) then (Int32.ofNat 60) else (Int32.ofNat (mv_ln 7))) < nI L then (if (Int32.ofNat 60) < (Int32.ofNat (mv_ln 7)) then (Int32.ofNat 60) else (Int32.ofNat (mv_ln 7))) else nI L) then (if (if (Int32.ofNat 60) < (Int32.ofNat (mv_ln 7)) then (Int32.ofNat 60) else (Int32.ofNat (mv_ln 7))) < nI L then (if (Int32.ofNat 60) < (Int32.ofNat (mv_ln 7)) then (Int32.ofNat 60) else (Int32.ofNat (mv_ln 7))) else nI L) else 0) = nI L := by
  intro L hL
  have e1 : (if (Int32.ofNat 60) < (Int32.ofNat (mv_ln 7)) then (Int32.ofNat 60) else (Int32.ofNat (mv_ln 7))) = nI 60 := by decide
  have e2 : (if nI 60 < nI L then nI 60 else nI L) = nI L := if_neg (nI_nlt (by omega) (by omega))
  rw [e1, e2]
  by_cases e : L = 0
  · subst e; rfl
  · exact if_pos (nI_lt (a := 0) (by omega) (by omega))
section OPFORM
variable {X : mv_X} {d : Nat} {σ : mv_S} {Q : mv_Q}
theorem s_keep {k L : Nat} (hk : k < 4) (hL : L ≤ 60) (hQ : ∀ τ, (∀ c j, ¬ (c = 45 + 2 * k ∧ j = 1) → ¬ c = 45 + 2 * k + 1 → τ.1 c j = σ.1 c j) → τ.2 = σ.2 → τ.1 (45 + 2 * k) 1 = nI L → (∀ i, i < L → τ.1 (45 + 2 * k + 1) i = σ.1 7 i) → Q none τ) : mv_wp X (d + 1) 25 [.ref (45 + 2 * k), .ref 7, .int (nI L)] σ Q := by
  obtain ⟨m1, m2, m3, m4, m5⟩ := fm_at k hk
  refine (w_Formula_keep _ _ _ _ _ _).mpr ?_
  rw [m3, m5, keep_L L hL, mv_rd, nI_clamp (n := L) (by omega), show (0 : Int32).toNatClampNeg = 0 from rfl, mv_r2]
  have o : ∀ c j, ¬ (c = 45 + 2 * k ∧ j = 1) → ¬ c = 45 + 2 * k + 1 → ((fun c' k_1 => if c' = 45 + 2 * k + 1 then va_cpy ((mv_pi σ (45 + 2 * k) 1 (nI L)).1 7) ((mv_pi σ (45 + 2 * k) 1 (nI L)).1 (45 + 2 * k + 1)) 0 0 L k_1 else (mv_pi σ (45 + 2 * k) 1 (nI L)).1 c' k_1, σ.2) : mv_S).1 c j = σ.1 c j := fun c j q1 q2 => by
    show (if c = 45 + 2 * k + 1 then _ else _) = _
    rw [if_neg q2, mv_rn (by omega)]
  refine ⟨by decide, m1, by rw [m4]; decide, m1, m1, m1, ⟨m4, rfl, by decide, by decide, nI_pos (by omega), by rw [ln_7]; omega, by omega, fun i hi => rfl⟩, hQ _ o rfl ?_ (fun i hi => ?_)⟩
  · show (if 45 + 2 * k = 45 + 2 * k + 1 then _ else _) = _
    rw [if_neg (by omega), mv_rd]
  · show (if 45 + 2 * k + 1 = 45 + 2 * k + 1 then _ else _) = _
    rw [if_pos rfl]
    exact (sb_cpy0 hi).trans (mv_rn (by omega))
end OPFORM
