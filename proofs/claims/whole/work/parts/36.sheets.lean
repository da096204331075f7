/-! ===== sheets ===== -/
def sh_at (t : Nat) : Prop := mv_sh t = 8 ∧ mv_rf t 0 = t + 1 ∧ mv_sh (t + 1) = 20 ∧ mv_ln (t + 1) = 40
theorem sh_now : ∀ k, k < 4 → (mv_sh (53 + 2 * k) = 8 ∧ mv_rf (53 + 2 * k) 0 = 53 + 2 * k + 1 ∧ mv_sh (53 + 2 * k + 1) = 20 ∧ mv_ln (53 + 2 * k + 1) = 40) ∧ mv_rf 4 k = 53 + 2 * k := by decide
/-- a sheet in both: its sort, its size, its items -/
def iv_S1 (σ : mv_S) (k : Nat) : Prop := (σ.1 (53 + 2 * k) 1 = -1 ∨ σ.1 (53 + 2 * k) 1 = 0 ∨ σ.1 (53 + 2 * k) 1 = 1) ∧ σ.1 93 k = σ.1 (53 + 2 * k) 1 ∧ (∃ m, m ≤ 40 ∧ σ.1 (53 + 2 * k) 2 = nI m ∧ σ.1 94 k = nI m) ∧ ∀ j, j < 40 → σ.1 95 (40 * k + j) = σ.1 (53 + 2 * k + 1) j
def iv_S (σ : mv_S) : Prop := ∀ k, k < 4 → iv_S1 σ k
def tm_S (c : Nat) : Prop := (53 ≤ c ∧ c ≤ 60) ∨ c = 93 ∨ c = 94 ∨ c = 95
def ms_P (σ σ2 : mv_S) : Prop := σ2 = σ ∨ (iv_S σ2 ∧ (∀ c j, ¬ tm_S c → σ2.1 c j = σ.1 c j) ∧ σ2.2 = σ.2)
theorem sub_I {m : Nat} (hm : m ≤ 1000) {x : Int32} (hx : 0 ≤ x.toInt) : (nI m - x).toInt = (m : Int) - x.toInt := by
  have h2 := Int32.toInt_lt x
  rw [Int32.toInt_sub, nI_toInt (by omega)]
  exact Int.bmod_eq_of_le (by omega) (by omega)
section SHEET
variable {X : mv_X} {d : Nat} {σ : mv_S} {Q : mv_Q}
theorem s_sheetAt_ok {k : Nat} (hk : k < 4) : mv_wp X (d + 1) 137 [.ref 0, .int (nI k)] σ Q ↔ Q (some (.ref (53 + 2 * k))) σ := by
  rw [w_WM_sheetAt]
  have h1 : ¬ nI k < 0 := nI_pos (by omega)
  have h3 : ¬ (4 : Int32) ≤ nI k := nI_ge (b := 4) (by omega) (by omega)
  have h5 : mv_rf 4 (nI k).toNatClampNeg = 53 + 2 * k := by rw [nI_clamp (by omega)]; exact (sh_now k hk).2
  rw [h5]
  exact ⟨fun q => (((q.2 h1).2 h3).2).2, fun q => ⟨fun z => absurd z h1, fun _ => ⟨fun z => absurd z h3, fun _ => ⟨rfl, ⟨by decide, vp_in_nI (N := 4) (by omega) (by omega)⟩, q⟩⟩⟩⟩
theorem s_sheetAt_no {x : Int32} (hx : x < 0 ∨ nI 4 ≤ x) : mv_wp X (d + 1) 137 [.ref 0, .int x] σ Q ↔ Q (some .null) σ := by
  rw [w_WM_sheetAt]
  by_cases h1 : x < 0
  · exact ⟨fun q => q.1 h1, fun q => ⟨fun _ => q, fun z => absurd h1 z⟩⟩
  · have h2 : (4 : Int32) ≤ x := hx.resolve_left h1
    exact ⟨fun q => (q.2 h1).1 h2, fun q => ⟨fun z => absurd z h1, fun _ => ⟨fun _ => q, fun z => absurd h2 z⟩⟩⟩
theorem r_isSheet {x : Int32} : mv_wp X (d + 2) 237 [.int x] σ Q ↔ Q (some (.int (if 0 ≤ x.toInt ∧ x.toInt ≤ ((4 : Nat) : Int) - 1 then 1 else 0))) σ := by
  rw [w_Ref_isSheet, r_inI (a := 0) (c := 3) (A := 0) (C := ((4 : Nat) : Int) - 1) rfl rfl]
  exact ⟨fun ⟨v, e, _, q⟩ => by cases e; exact q, fun q => ⟨_, rfl, bI_01 _, q⟩⟩
theorem s_fillI {t n : Nat} {v : Int32} (ht : mv_sh t = 20) (hn : mv_ln t = n) (hn2 : n < 100000) (hQ : Q none (mv_fo σ t 0 (fun _ => v) n)) : mv_wp X (d + 1) 0 [.ref t, .int v] σ Q := by
  have loop : ∀ (j i : Nat), i + j = n → mv_wf X (mv_wp X d) m_Arrays_fillI Q 5 [.ref t, .int v, .int (nI i), .int (nI n)] [] (mv_fo σ t 0 (fun _ => v) i) := by
    intro j
    induction j with
    | zero =>
      intro i hi
      exact h_Arrays_fillI_5 ⟨fun _ => by rw [show i = n by omega]; exact hQ, fun z => absurd (nI_le (by omega) (by omega)) z⟩
    | succ j ih =>
      intro i hi
      refine h_Arrays_fillI_5 ⟨fun z => absurd z (nI_ge (by omega) (by omega)), fun _ => ?_⟩
      have e2 := fo_s σ t 0 (fun _ => v) i
      rw [Nat.zero_add] at e2
      rw [hn, nI_clamp (by omega), nI_1, e2]
      exact ⟨⟨ht, vp_in_nI (by omega) (by omega)⟩, ih (i + 1) (by omega)⟩
  have h0 := loop n 0 (by omega)
  rw [fo_0] at h0
  refine w_Arrays_fillI ⟨by rw [ht]; exact Nat.le_refl _, ?_⟩
  rw [hn]
  exact h0
theorem s_sheetRenew {t m : Nat} {v : Int32} (ht : sh_at t) (hm : m ≤ 40) (hQ : Q none (mv_fo (mv_pi (mv_pi σ t 1 v) t 2 (nI m)) (t + 1) 0 (fun _ => 0) 40)) : mv_wp X (d + 2) 18 [.ref t, .int v, .int (nI m)] σ Q := by
  rw [w_Sheet_renew, ht.2.1]
  have e1 : (if (40 : Int32) < nI m then 40 else nI m) = nI m := if_neg (nI_nlt (b := m) (a := 40) hm (by omega))
  have e2 : (if (0 : Int32) < nI m then nI m else 0) = nI m := by
    by_cases h : (0 : Int32) < nI m
    · rw [if_pos h]
    · rw [if_neg h]
      have : m = 0 := Decidable.byContradiction fun q => h (nI_lt (a := 0) (by omega) (by omega))
      rw [this]; rfl
  rw [e1, e2]
  exact ⟨ht.1, ht.1, ht.1, s_fillI ht.2.2.1 ht.2.2.2 (by omega) ⟨rfl, hQ⟩⟩
theorem r_becomes {k : Nat} {v w : Int32} (hk : k < 4) (hQ : Q none (mv_fo (mv_pi (mv_pi σ 93 k v) 94 k w) 95 (40 * k) (fun _ => 0) 40)) : mv_wp X (d + 1) 238 [.ref 61, .int (nI k), .int v, .int w] σ Q := by
  have loop : ∀ (τ : mv_S) (j i : Nat), i + j = 40 → Q none (mv_fo τ 95 (40 * k) (fun _ => 0) 40) → mv_wf X (mv_wp X d) m_Ref_becomes Q 17 [.ref 61, .int (nI k), .retAddr 0, .retAddr 0, .int (nI i)] [] (mv_fo τ 95 (40 * k) (fun _ => 0) i) := by
    intro τ j
    induction j with
    | zero =>
      intro i hi hq
      exact h_Ref_becomes_17 ⟨fun _ => by rw [show i = 40 by omega]; exact hq, fun z => absurd (nI_le (a := 40) (by omega) (by omega)) z⟩
    | succ j ih =>
      intro i hi hq
      refine h_Ref_becomes_17 ⟨fun z => absurd z (nI_ge (b := 40) (by omega) (by omega)), fun _ => ⟨rfl, ?_⟩⟩
      have e1 : (40 : Int32) * nI k + nI i = nI (40 * k + i) := by rw [show (40 : Int32) = nI 40 from rfl, pk_mul, nI_add]
      rw [e1, nI_clamp (by omega), nI_1, fo_s τ 95 (40 * k) (fun _ => 0) i]
      exact ⟨⟨rfl, vp_in_nI (N := 160) (by omega) (by omega)⟩, ih (i + 1) (by omega) hq⟩
  have h0 := loop (mv_pi (mv_pi σ 93 k v) 94 k w) 40 0 (by omega) hQ
  rw [fo_0] at h0
  refine w_Ref_becomes ?_
  rw [nI_clamp (by omega)]
  exact ⟨rfl, ⟨rfl, vp_in_nI (N := 4) (by omega) (by omega)⟩, rfl, ⟨rfl, vp_in_nI (N := 4) (by omega) (by omega)⟩, h0⟩
/-- behind both: a sheet made anew -/
theorem ms_renew {k m : Nat} {v : Int32} (h : iv_S σ) (hk : k < 4) (hm : m ≤ 40) (hv : v = -1 ∨ v = 0 ∨ v = 1) : ms_P σ (mv_fo (mv_pi (mv_pi (mv_fo (mv_pi (mv_pi σ (53 + 2 * k) 1 v) (53 + 2 * k) 2 (nI m)) (53 + 2 * k + 1) 0 (fun _ => 0) 40) 93 k v) 94 k (nI m)) 95 (40 * k) (fun _ => 0) 40) := by
  refine Or.inr ⟨fun i hi => ?_, fun c j hc => ?_, rfl⟩
  · by_cases e : i = k
    · subst e
      have a1 : (mv_fo (mv_pi (mv_pi (mv_fo (mv_pi (mv_pi σ (53 + 2 * i) 1 v) (53 + 2 * i) 2 (nI m)) (53 + 2 * i + 1) 0 (fun _ => 0) 40) 93 i v) 94 i (nI m)) 95 (40 * i) (fun _ => 0) 40).1 (53 + 2 * i) 1 = v := by rw [fo_out (by omega), mv_rn (by omega), mv_rn (by omega), fo_out (by omega), mv_rn (by omega), mv_rd]
      refine ⟨by rw [a1]; exact hv, ?_, ⟨m, hm, ?_, ?_⟩, fun j hj => ?_⟩
      · rw [a1, fo_out (by omega), mv_rn (by omega), mv_rd]
      · rw [fo_out (by omega), mv_rn (by omega), mv_rn (by omega), fo_out (by omega), mv_rd]
      · rw [fo_out (by omega), mv_rd]
      · rw [fo_in hj, fo_out (by omega), mv_rn (by omega), mv_rn (by omega)]
        have := fo_in (σ := (mv_pi (mv_pi σ (53 + 2 * i) 1 v) (53 + 2 * i) 2 (nI m))) (c := 53 + 2 * i + 1) (off := 0) (f := fun _ => (0 : Int32)) hj
        rw [Nat.zero_add] at this
        exact this.symm
    · obtain ⟨s1, s2, ⟨m', s3, s4, s5⟩, s6⟩ := h i hi
      have o : ∀ c j, (c = 53 + 2 * i ∨ c = 53 + 2 * i + 1 ∨ ((c = 93 ∨ c = 94) ∧ j = i) ∨ (c = 95 ∧ 40 * i ≤ j ∧ j < 40 * i + 40)) → (mv_fo (mv_pi (mv_pi (mv_fo (mv_pi (mv_pi σ (53 + 2 * k) 1 v) (53 + 2 * k) 2 (nI m)) (53 + 2 * k + 1) 0 (fun _ => 0) 40) 93 k v) 94 k (nI m)) 95 (40 * k) (fun _ => 0) 40).1 c j = σ.1 c j := fun c j q => by rw [fo_out (by omega), mv_rn (by omega), mv_rn (by omega), fo_out (by omega), mv_rn (by omega), mv_rn (by omega)]
      refine ⟨?_, ?_, ⟨m', s3, ?_, ?_⟩, fun j hj => ?_⟩
      · rw [o _ _ (by omega)]; exact s1
      · rw [o _ _ (by omega), o _ _ (by omega)]; exact s2
      · rw [o _ _ (by omega)]; exact s4
      · rw [o _ _ (by omega)]; exact s5
      · rw [o _ _ (by omega), o _ _ (by omega)]; exact s6 j hj
  · unfold tm_S at hc
    rw [fo_out (by omega), mv_rn (by omega), mv_rn (by omega), fo_out (by omega), mv_rn (by omega), mv_rn (by omega)]
theorem op_sheet {a1 a2 a3 : Int32} (h : iv_S σ) : lw_op X (d + 5) (ms_P σ) 132 241 [.int a1, .int a2, .int a3] σ := by
  unfold lw_op
  rw [w_WM_sheet]
  have im : (-1 : Int32).toInt = -1 := by decide
  have i1 : (1 : Int32).toInt = 1 := by decide
  have i40 : (40 : Int32).toInt = 40 := by decide
  rcases ix_cs a1 4 (by omega) with ⟨c1, c2⟩ | ⟨k, hk, rfl, c1⟩
  · rw [s_sheetAt_no c1]
    refine ⟨rfl, Or.inl ⟨rfl, _, rfl, ?_⟩⟩
    rw [w_Ref_sheet, r_isSheet, if_neg c2]
    exact ⟨_, rfl, fun _ => ⟨rfl, Or.inl rfl⟩, fun z => absurd rfl z⟩
  have ht : sh_at (53 + 2 * k) := (sh_now k hk).1
  rw [s_sheetAt_ok hk]
  have refuse : ¬ (-1 ≤ a2.toInt ∧ a2.toInt ≤ 1) → mv_wp X (d + 5) 241 [.ref 61, .int (nI k), .int a2, .int a3] σ (fun r2 σ2 => r2 = some (.int (-2)) ∧ ms_P σ σ2) := by
    intro hz
    rw [w_Ref_sheet, r_isSheet, if_pos c1]
    refine ⟨_, rfl, fun z => absurd z (by decide), fun _ => ?_⟩
    rw [r_inI (A := -1) (C := 1) rfl rfl, if_neg hz]
    exact ⟨_, rfl, fun _ => ⟨rfl, Or.inl rfl⟩, fun z => absurd rfl z⟩
  refine ⟨rfl, Or.inr ⟨_, rfl, fun z => ⟨_, rfl, refuse ?_⟩, fun z => ⟨fun z2 => ⟨fun z3 => ⟨fun z4 => ⟨fun z5 => ⟨ht.1, ?_⟩, fun z5 => ⟨_, rfl, ?_⟩⟩, fun z4 => ⟨_, rfl, ?_⟩⟩, fun z3 => ⟨ht.1, ?_⟩⟩, fun z2 => ⟨_, rfl, refuse ?_⟩⟩⟩⟩
  · rw [Int32.lt_iff_toInt_lt] at z; omega
  · -- a row of n
    rw [Int32.lt_iff_toInt_lt] at z
    rw [Int32.le_iff_toInt_le] at z2 z4 z5
    rw [Int32.toInt_zero] at z5
    obtain ⟨m, hm, rfl⟩ := nI_of (x := a3) (by rw [Int32.lt_iff_toInt_lt, Int32.toInt_zero]; omega)
    rw [nI_toInt hm] at z4
    refine s_sheetRenew ht (by omega) ⟨rfl, _, rfl, ?_⟩
    rw [w_Ref_sheet, r_isSheet, if_pos c1]
    refine ⟨_, rfl, fun z => absurd z (by decide), fun _ => ?_⟩
    rw [r_inI (A := -1) (C := 1) rfl rfl, if_pos (by omega)]
    have hv : a2 = -1 ∨ a2 = 0 ∨ a2 = 1 := by
      have : a2.toInt = -1 ∨ a2.toInt = 0 ∨ a2.toInt = 1 := by omega
      rcases this with q | q | q
      · exact Or.inl (Int32.toInt_inj.mp (q.trans im.symm))
      · exact Or.inr (Or.inl (Int32.toInt_inj.mp (q.trans Int32.toInt_zero.symm)))
      · exact Or.inr (Or.inr (Int32.toInt_inj.mp (q.trans i1.symm)))
    refine ⟨_, rfl, fun z => absurd z (by decide), fun _ => ⟨fun q => absurd q z3, fun _ => ⟨fun _ => ⟨fun q => absurd q z3, fun _ => ⟨fun _ => ⟨fun _ => ⟨rfl, r_becomes hk ⟨rfl, rfl, ms_renew h hk (by omega) hv⟩⟩, fun q => absurd q z3⟩, fun q => absurd (nI_pos' (by omega)) q⟩⟩, fun q => absurd (nI_le (b := 40) (by omega) (by omega)) q⟩⟩⟩
  · rw [Int32.lt_iff_toInt_lt] at z
    rw [Int32.le_iff_toInt_le] at z2
    rw [w_Ref_sheet, r_isSheet, if_pos c1]
    refine ⟨_, rfl, fun z => absurd z (by decide), fun _ => ?_⟩
    rw [r_inI (A := -1) (C := 1) rfl rfl, if_pos (by omega)]
    exact ⟨_, rfl, fun z => absurd z (by decide), fun _ => ⟨fun q => absurd q z3, fun _ => ⟨fun _ => ⟨fun q => absurd q z3, fun _ => ⟨fun q => absurd q z5, fun _ => ⟨rfl, Or.inl rfl⟩⟩⟩, fun q => absurd z4 q⟩⟩⟩
  · rw [Int32.lt_iff_toInt_lt] at z
    rw [Int32.le_iff_toInt_le] at z2
    rw [w_Ref_sheet, r_isSheet, if_pos c1]
    refine ⟨_, rfl, fun z => absurd z (by decide), fun _ => ?_⟩
    rw [r_inI (A := -1) (C := 1) rfl rfl, if_pos (by omega)]
    exact ⟨_, rfl, fun z => absurd z (by decide), fun _ => ⟨fun q => absurd q z3, fun _ => ⟨fun q => absurd q z4, fun _ => ⟨rfl, Or.inl rfl⟩⟩⟩⟩
  · -- missing
    subst z3
    refine s_sheetRenew (m := 0) ht (by omega) ⟨rfl, _, rfl, ?_⟩
    rw [w_Ref_sheet, r_isSheet, if_pos c1]
    refine ⟨_, rfl, fun z => absurd z (by decide), fun _ => ?_⟩
    rw [r_inI (A := -1) (C := 1) rfl rfl, if_pos (by decide)]
    exact ⟨_, rfl, fun z => absurd z (by decide), fun _ => ⟨fun _ => ⟨fun _ => ⟨fun q => absurd rfl q, fun _ => ⟨rfl, r_becomes hk ⟨rfl, rfl, ms_renew (m := 0) h hk (by omega) (Or.inl rfl)⟩⟩⟩, fun q => absurd rfl q⟩, fun q => absurd rfl q⟩⟩
  · rw [Int32.le_iff_toInt_le] at z2; omega
theorem s_isMissing {t : Nat} (ht : sh_at t) : mv_wp X (d + 1) 19 [.ref t] σ Q ↔ Q (some (.int (if σ.1 t 1 = -1 then 1 else 0))) σ := by
  rw [w_Sheet_isMissing]
  by_cases h : σ.1 t 1 = -1
  · rw [if_pos h]
    exact ⟨fun q => (q.2.2 h).2, fun q => ⟨ht.1, fun z => absurd h z, fun _ => ⟨Or.inr rfl, q⟩⟩⟩
  · rw [if_neg h]
    exact ⟨fun q => (q.2.1 h).2, fun q => ⟨ht.1, fun _ => ⟨Or.inl rfl, q⟩, fun z => absurd z h⟩⟩
end SHEET
