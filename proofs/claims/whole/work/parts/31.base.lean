/-! ===== the first words of both: machines ===== -/
/-- a machine: points, start, ends, where letters lead (3 for each point) -/
abbrev md_T : Type := Nat × Nat × Nat × (Nat → Nat)
def md_ok (M : md_T) : Prop := 1 ≤ M.1 ∧ M.1 ≤ 4 ∧ M.2.1 < M.1 ∧ M.2.2.1 < 2 ^ M.1 ∧ (∀ j, j < 12 → M.2.2.2 j < 4) ∧ ∀ j, j < 3 * M.1 → M.2.2.2 j < M.1
def cl_M (σ : mv_S) (t : Nat) (M : md_T) : Prop := σ.1 t 1 = nI M.1 ∧ σ.1 t 2 = nI M.2.1 ∧ σ.1 t 3 = nI M.2.2.1 ∧ ∀ j, j < 12 → σ.1 (t + 1) j = nI (M.2.2.2 j)
def rf_M (σ : mv_S) (c k : Nat) (M : md_T) : Prop := σ.1 c (15 * k) = nI M.1 ∧ σ.1 c (15 * k + 1) = nI M.2.1 ∧ σ.1 c (15 * k + 2) = nI M.2.2.1 ∧ ∀ j, j < 12 → σ.1 c (15 * k + 3 + j) = nI (M.2.2.2 j)
def iv_M (n : Nat) (Ms : Nat → md_T) (σ : mv_S) : Prop := n ≤ 3 ∧ σ.1 0 10 = nI n ∧ σ.1 61 1 = nI n ∧ ∀ k, k < n → md_ok (Ms k) ∧ cl_M σ (33 + 4 * k) (Ms k) ∧ rf_M σ 62 k (Ms k)
def mc_at (t : Nat) : Prop := mv_sh t = 4 ∧ mv_rf t 0 = t + 1 ∧ mv_sh (t + 1) = 20 ∧ mv_ln (t + 1) = 12
theorem mc_now : ∀ k, k < 3 → (mv_sh (33 + 4 * k) = 4 ∧ mv_rf (33 + 4 * k) 0 = 33 + 4 * k + 1 ∧ mv_sh (33 + 4 * k + 1) = 20 ∧ mv_ln (33 + 4 * k + 1) = 12) ∧ mv_rf 1 k = 33 + 4 * k := by decide
theorem mc_kept : ∀ k, k < 3 → (mv_sh (35 + 4 * k) = 4 ∧ mv_rf (35 + 4 * k) 0 = 35 + 4 * k + 1 ∧ mv_sh (35 + 4 * k + 1) = 20 ∧ mv_ln (35 + 4 * k + 1) = 12) ∧ mv_rf 2 k = 35 + 4 * k := by decide
section BASE
variable {X : mv_X} {d : Nat} {σ : mv_S} {Q : mv_Q}
theorem s_machineAt_ok {n k : Nat} (h : σ.1 0 10 = nI n) (hn : n ≤ 3) (hk : k < n) : mv_wp X (d + 1) 135 [.ref 0, .int (nI k)] σ Q ↔ Q (some (.ref (33 + 4 * k))) σ := by
  rw [w_WM_machineAt]
  have h1 : ¬ nI k < 0 := nI_pos (by omega)
  have h2 : ¬ nI n ≤ nI k := nI_ge hk (by omega)
  have h3 : ¬ (3 : Int32) ≤ nI k := nI_ge (b := 3) (by omega) (by omega)
  have h4 : vp_in (nI k) (mv_ln 1) := vp_in_nI (N := 3) (by omega) (by omega)
  have h5 : mv_rf 1 (nI k).toNatClampNeg = 33 + 4 * k := by rw [nI_clamp (by omega)]; exact (mc_now k (by omega)).2
  rw [h, h5]
  exact ⟨fun q => ((((q.2 h1).2.2 h2).2 h3).2).2, fun q => ⟨fun z => absurd z h1, fun _ => ⟨rfl, fun z => absurd z h2, fun _ => ⟨fun z => absurd z h3, fun _ => ⟨rfl, ⟨by decide, h4⟩, q⟩⟩⟩⟩⟩
theorem s_machineAt_no {n : Nat} {x : Int32} (h : σ.1 0 10 = nI n) (hx : x < 0 ∨ nI n ≤ x) : mv_wp X (d + 1) 135 [.ref 0, .int x] σ Q ↔ Q (some .null) σ := by
  rw [w_WM_machineAt, h]
  by_cases h1 : x < 0
  · exact ⟨fun q => q.1 h1, fun q => ⟨fun _ => q, fun z => absurd h1 z⟩⟩
  · have h2 := hx.resolve_left h1
    exact ⟨fun q => (q.2 h1).2.1 h2, fun q => ⟨fun z => absurd z h1, fun _ => ⟨rfl, fun _ => q, fun z => absurd h2 z⟩⟩⟩
theorem s_isLetter_ok {l : Nat} (h : l < 3) : mv_wp X (d + 1) 140 [.int (nI l)] σ Q ↔ Q (some (.int 1)) σ := by
  rw [w_WM_isLetter]
  have h1 : ¬ nI l < 0 := nI_pos (by omega)
  have h3 : ¬ (3 : Int32) ≤ nI l := nI_ge (b := 3) (by omega) (by omega)
  exact ⟨fun q => ((q.2 h1).2 h3).2, fun q => ⟨fun z => absurd z h1, fun _ => ⟨fun z => absurd z h3, fun _ => ⟨Or.inr rfl, q⟩⟩⟩⟩
theorem s_isLetter_no {x : Int32} (hx : x < 0 ∨ nI 3 ≤ x) : mv_wp X (d + 1) 140 [.int x] σ Q ↔ Q (some (.int 0)) σ := by
  rw [w_WM_isLetter]
  by_cases h1 : x < 0
  · exact ⟨fun q => (q.1 h1).2, fun q => ⟨fun _ => ⟨Or.inl rfl, q⟩, fun z => absurd h1 z⟩⟩
  · have h2 : (3 : Int32) ≤ x := hx.resolve_left h1
    exact ⟨fun q => ((q.2 h1).1 h2).2, fun q => ⟨fun z => absurd z h1, fun _ => ⟨fun _ => ⟨Or.inl rfl, q⟩, fun z => absurd h2 z⟩⟩⟩
variable {t p : Nat}
theorem s_hasPoint_ok {q : Nat} (ht : mc_at t) (hp : σ.1 t 1 = nI p) (hp4 : p ≤ 4) (hq : q < p) : mv_wp X (d + 1) 10 [.ref t, .int (nI q)] σ Q ↔ Q (some (.int 1)) σ := by
  rw [w_Machine_hasPoint, hp]
  have h1 : ¬ nI q < 0 := nI_pos (by omega)
  have h2 : ¬ nI p ≤ nI q := nI_ge hq (by omega)
  exact ⟨fun z => ((z.2 h1).2.2 h2).2, fun z => ⟨fun y => absurd y h1, fun _ => ⟨ht.1, fun y => absurd y h2, fun _ => ⟨Or.inr rfl, z⟩⟩⟩⟩
theorem s_hasPoint_no {x : Int32} (ht : mc_at t) (hp : σ.1 t 1 = nI p) (hx : x < 0 ∨ nI p ≤ x) : mv_wp X (d + 1) 10 [.ref t, .int x] σ Q ↔ Q (some (.int 0)) σ := by
  rw [w_Machine_hasPoint, hp]
  by_cases h1 : x < 0
  · exact ⟨fun q => (q.1 h1).2, fun q => ⟨fun _ => ⟨Or.inl rfl, q⟩, fun z => absurd h1 z⟩⟩
  · have h2 := hx.resolve_left h1
    exact ⟨fun q => ((q.2 h1).2.1 h2).2, fun q => ⟨fun z => absurd z h1, fun _ => ⟨ht.1, fun _ => ⟨Or.inl rfl, q⟩, fun z => absurd h2 z⟩⟩⟩
theorem md_ix {q l : Nat} : (3 : Int32) * nI q + nI l = nI (3 * q + l) := by rw [show (3 : Int32) = nI 3 from rfl, pk_mul, nI_add]
theorem s_next {q l : Nat} (ht : mc_at t) (hq : q < 4) (hl : l < 3) : mv_wp X (d + 1) 13 [.ref t, .int (nI q), .int (nI l)] σ Q ↔ Q (some (.int (σ.1 (t + 1) (3 * q + l)))) σ := by
  rw [w_Machine_next, md_ix, ht.2.1, ht.2.2.2, nI_clamp (by omega)]
  have h1 : ¬ nI (3 * q + l) < 0 := nI_pos (by omega)
  have h2 : ¬ (Int32.ofNat 12) ≤ nI (3 * q + l) := nI_ge (b := 12) (by omega) (by omega)
  exact ⟨fun z => (((z.2 h1).2.2.2 h2).2).2, fun z => ⟨fun y => absurd y h1, fun _ => ⟨ht.1, by rw [ht.2.2.1]; exact Nat.le_refl _, fun y => absurd y h2, fun _ => ⟨ht.1, ⟨ht.2.2.1, vp_in_nI (by omega) (by omega)⟩, z⟩⟩⟩⟩
theorem s_lead {q l : Nat} {v : Int32} (ht : mc_at t) (hq : q < 4) (hl : l < 3) : mv_wp X (d + 1) 14 [.ref t, .int (nI q), .int (nI l), .int v] σ Q ↔ Q none (mv_pi σ (t + 1) (3 * q + l) v) := by
  rw [w_Machine_lead, md_ix, ht.2.1, ht.2.2.2, nI_clamp (by omega)]
  have h1 : ¬ nI (3 * q + l) < 0 := nI_pos (by omega)
  have h2 : ¬ (Int32.ofNat 12) ≤ nI (3 * q + l) := nI_ge (b := 12) (by omega) (by omega)
  exact ⟨fun z => (((z.2 h1).2.2.2 h2).2).2, fun z => ⟨fun y => absurd y h1, fun _ => ⟨ht.1, by rw [ht.2.2.1]; exact Nat.le_refl _, fun y => absurd y h2, fun _ => ⟨ht.1, ⟨ht.2.2.1, vp_in_nI (by omega) (by omega)⟩, z⟩⟩⟩⟩
end BASE
section RBASE
variable {X : mv_X} {d : Nat} {σ : mv_S} {Q : mv_Q}
theorem r_in {a b c : Int64} : mv_wp X (d + 1) 147 [.long a, .long b, .long c] σ Q ↔ Q (some (.int (if b ≤ a ∧ a ≤ c then 1 else 0))) σ := by
  rw [w_Ref_in]
  rw [lg_cmp_lt, lg_cmp_gt]
  by_cases h1 : a < b
  · have h3 : ¬ (b ≤ a ∧ a ≤ c) := fun z => by have := z.1; rw [Int64.le_iff_toInt_le] at this; rw [Int64.lt_iff_toInt_lt] at h1; omega
    rw [if_neg h3]
    exact ⟨fun q => (q.1 h1).2, fun q => ⟨fun _ => ⟨Or.inl rfl, q⟩, fun z => absurd h1 z⟩⟩
  · by_cases h2 : c < a
    · have h3 : ¬ (b ≤ a ∧ a ≤ c) := fun z => by have := z.2; rw [Int64.le_iff_toInt_le] at this; rw [Int64.lt_iff_toInt_lt] at h2; omega
      rw [if_neg h3]
      exact ⟨fun q => ((q.2 h1).1 h2).2, fun q => ⟨fun z => absurd z h1, fun _ => ⟨fun _ => ⟨Or.inl rfl, q⟩, fun z => absurd h2 z⟩⟩⟩
    · have h3 : b ≤ a ∧ a ≤ c := by
        rw [Int64.lt_iff_toInt_lt] at h1 h2
        rw [Int64.le_iff_toInt_le, Int64.le_iff_toInt_le]
        omega
      rw [if_pos h3]
      exact ⟨fun q => ((q.2 h1).2 h2).2, fun q => ⟨fun z => absurd z h1, fun _ => ⟨fun z => absurd z h2, fun _ => ⟨Or.inr rfl, q⟩⟩⟩⟩
/-- 'in' over ints: between two numbers -/
theorem r_inI {x : Int32} {a c : Int64} {A C : Int} (ha : a.toInt = A) (hc : c.toInt = C) : mv_wp X (d + 1) 147 [.long x.toInt64, .long a, .long c] σ Q ↔ Q (some (.int (if A ≤ x.toInt ∧ x.toInt ≤ C then 1 else 0))) σ := by
  rw [r_in]
  have e : (a ≤ x.toInt64 ∧ x.toInt64 ≤ c) ↔ (A ≤ x.toInt ∧ x.toInt ≤ C) := by rw [Int64.le_iff_toInt_le, Int64.le_iff_toInt_le, Int32.toInt_toInt64, ha, hc]
  simp only [e]
theorem r_bit {b : Prop} [Decidable b] : mv_wp X (d + 1) 148 [.int (if b then 1 else 0)] σ Q ↔ Q (some (.int (if b then 1 else 0))) σ := by
  rw [w_Ref_bit]
  by_cases h : b
  · rw [if_pos h]
    exact ⟨fun q => q.2 (by decide), fun q => ⟨fun z => absurd z (by decide), fun _ => q⟩⟩
  · rw [if_neg h]
    exact ⟨fun q => q.1 rfl, fun q => ⟨fun _ => q, fun z => absurd rfl z⟩⟩
theorem pt_l {n : Nat} (h : n < 2 ^ 30) : (nI n - 1 : Int32).toInt64.toInt = (n : Int) - 1 := by
  rw [Int32.toInt_toInt64, show (1 : Int32) = nI 1 from rfl, pk_sub_toInt h (by omega)]
  rfl
theorem bI_01 (b : Prop) [Decidable b] : (if b then (1 : Int32) else 0) = 0 ∨ (if b then (1 : Int32) else 0) = 1 := by
  by_cases h : b
  · rw [if_pos h]; exact Or.inr rfl
  · rw [if_neg h]; exact Or.inl rfl
theorem r_isMachine {n : Nat} {x : Int32} (h : σ.1 61 1 = nI n) (hn : n ≤ 3) : mv_wp X (d + 2) 149 [.ref 61, .int x] σ Q ↔ Q (some (.int (if 0 ≤ x.toInt ∧ x.toInt ≤ (n : Int) - 1 then 1 else 0))) σ := by
  rw [w_Ref_isMachine, h, r_inI rfl (pt_l (by omega))]
  exact ⟨fun ⟨_, v, e, _, q⟩ => by cases e; exact q, fun q => ⟨rfl, _, rfl, bI_01 _, q⟩⟩
theorem r_isLetter {x : Int32} : mv_wp X (d + 2) 152 [.int x] σ Q ↔ Q (some (.int (if 0 ≤ x.toInt ∧ x.toInt ≤ ((3 : Nat) : Int) - 1 then 1 else 0))) σ := by
  rw [w_Ref_isLetter, r_inI (a := 0) (c := 2) (A := 0) (C := ((3 : Nat) : Int) - 1) rfl rfl]
  exact ⟨fun ⟨v, e, _, q⟩ => by cases e; exact q, fun q => ⟨_, rfl, bI_01 _, q⟩⟩
theorem r_pointsOf {k : Nat} (hk : k < 3) : mv_wp X (d + 1) 150 [.ref 61, .int (nI k)] σ Q ↔ Q (some (.int (σ.1 62 (15 * k)))) σ := by
  rw [w_Ref_pointsOf, show (15 : Int32) = nI 15 from rfl, pk_mul, nI_clamp (by omega)]
  exact ⟨fun q => q.2.2, fun q => ⟨rfl, ⟨rfl, vp_in_nI (N := 45) (by omega) (by omega)⟩, q⟩⟩
theorem r_isPoint {k p : Nat} {x : Int32} (hk : k < 3) (h : σ.1 62 (15 * k) = nI p) (hp : p ≤ 4) : mv_wp X (d + 2) 151 [.ref 61, .int (nI k), .int x] σ Q ↔ Q (some (.int (if 0 ≤ x.toInt ∧ x.toInt ≤ (p : Int) - 1 then 1 else 0))) σ := by
  rw [w_Ref_isPoint, r_pointsOf hk, h]
  constructor
  · rintro ⟨-, v, e, q⟩
    cases e
    rw [r_inI rfl (pt_l (by omega))] at q
    obtain ⟨v, e, -, q⟩ := q
    cases e
    exact q
  · intro q
    refine ⟨rfl, _, rfl, ?_⟩
    rw [r_inI rfl (pt_l (by omega))]
    exact ⟨_, rfl, bI_01 _, q⟩
theorem rf_ix {k q l : Nat} : ((15 : Int32) * nI k + 3 + 3 * nI q + nI l) = nI (15 * k + 3 + (3 * q + l)) := by
  rw [show (15 : Int32) = nI 15 from rfl, show (3 : Int32) = nI 3 from rfl, pk_mul, pk_mul, nI_add, nI_add, nI_add]
  congr 1
  omega
theorem r_to {k q l : Nat} (hk : k < 3) (hq : q < 4) (hl : l < 3) : mv_wp X (d + 1) 153 [.ref 61, .int (nI k), .int (nI q), .int (nI l)] σ Q ↔ Q (some (.int (σ.1 62 (15 * k + 3 + (3 * q + l))))) σ := by
  rw [w_Ref_to, rf_ix, nI_clamp (by omega)]
  exact ⟨fun q => q.2.2, fun q => ⟨rfl, ⟨rfl, vp_in_nI (N := 45) (by omega) (by omega)⟩, q⟩⟩
theorem r_startOf {k : Nat} (hk : k < 3) : mv_wp X (d + 1) 154 [.ref 61, .int (nI k)] σ Q ↔ Q (some (.int (σ.1 62 (15 * k + 1)))) σ := by
  rw [w_Ref_startOf, show (15 : Int32) = nI 15 from rfl, show (1 : Int32) = nI 1 from rfl, pk_mul, nI_add, nI_clamp (by omega)]
  exact ⟨fun q => q.2.2, fun q => ⟨rfl, ⟨rfl, vp_in_nI (N := 45) (by omega) (by omega)⟩, q⟩⟩
end RBASE
