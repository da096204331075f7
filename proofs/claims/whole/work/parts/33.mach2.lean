/-! ===== start, ends, turn, quotient ===== -/
theorem end_bit : ∀ e, e < 16 → ∀ q, q < 4 → (((nI e >>> (nI q &&& 31)) &&& (1 : Int32)) = 1 ↔ e.testBit q = true) := by decide +kernel
theorem all_pts : ∀ p, p < 5 → ((1 : Int32) <<< (nI p &&& 31)) - (1 : Int32) = nI (2 ^ p - 1) := by decide +kernel
theorem turn_c : ∀ p, p < 5 → ∀ e, e < 16 → e < 2 ^ p → nI (2 ^ p - 1) &&& (nI e ^^^ (-1)) = nI (2 ^ p - 1 - e) ∧ nI (2 ^ p - 1) - nI e = nI (2 ^ p - 1 - e) := by decide +kernel
theorem q_or : ∀ i, i < 4 → ∀ z, z < 16 → z < 2 ^ i → nI z ||| ((1 : Int32) <<< (nI i &&& 31)) = nI (z + 2 ^ i) ∧ nI z ||| ((0 : Int32) <<< (nI i &&& 31)) = nI z := by decide +kernel
theorem not_mask : ∀ p, p < 5 → nI (2 ^ p - 1) ^^^ (-1) = nI (4294967296 - 2 ^ p) := by decide +kernel
theorem mask_tb : ∀ p, p < 5 → ∀ i, i < 32 → (4294967296 - 2 ^ p).testBit i = decide (p ≤ i) := by decide +kernel
theorem nI_big {a : Nat} (h : a < 2 ^ 32) : nI a = 0 ↔ a = 0 := by
  constructor
  · intro q
    have := pk_tn h
    rw [q] at this
    exact this.symm
  · rintro rfl; rfl
theorem nI_32 (x : Int32) : ∃ a, a < 2 ^ 32 ∧ x = nI a := ⟨x.toBitVec.toNat, x.toBitVec.isLt, Int32.toBitVec_inj.mp (by show _ = BitVec.ofNat 32 _; simp)⟩
theorem nI_neg {a : Nat} (h1 : 2 ^ 31 ≤ a) (h2 : a < 2 ^ 32) : (nI a).toInt < 0 := by
  have h3 := pk_tn h2
  show (nI a).toBitVec.toInt < 0
  rw [BitVec.toInt_eq_toNat_cond, h3, if_neg (by omega)]
  omega
/-- the class's test of a set is the reference's -/
theorem set_ok {p : Nat} (hp : p < 5) (x : Int32) : (x &&& (nI (2 ^ p - 1) ^^^ (-1))) = 0 ↔ (0 ≤ x.toInt ∧ x.toInt ≤ ((2 ^ p : Nat) : Int) - 1) := by
  obtain ⟨a, ha, rfl⟩ := nI_32 x
  have hpw : (2 ^ p : Nat) ≤ 16 := by
    have : p = 0 ∨ p = 1 ∨ p = 2 ∨ p = 3 ∨ p = 4 := by omega
    rcases this with rfl | rfl | rfl | rfl | rfl <;> decide
  have e1 : (0 ≤ (nI a).toInt ∧ (nI a).toInt ≤ ((2 ^ p : Nat) : Int) - 1) ↔ a < 2 ^ p := by
    by_cases h : a < 2 ^ 31
    · rw [nI_toInt h]
      omega
    · have := nI_neg (by omega) ha
      omega
  rw [not_mask p hp, fa_and, nI_big (Nat.lt_of_le_of_lt Nat.and_le_left ha), e1]
  constructor
  · intro h
    apply Nat.lt_pow_two_of_testBit
    intro i hi
    by_cases h32 : i < 32
    · have h2 : (a &&& (4294967296 - 2 ^ p)).testBit i = false := by rw [h]; exact Nat.zero_testBit i
      rw [Nat.testBit_and, mask_tb p hp i h32, decide_eq_true hi, Bool.and_true] at h2
      exact h2
    · exact Nat.testBit_lt_two_pow (Nat.lt_of_lt_of_le ha (Nat.pow_le_pow_right (by omega) (by omega)))
  · intro h
    apply Nat.eq_of_testBit_eq
    intro i
    rw [Nat.testBit_and, Nat.zero_testBit]
    by_cases hi : p ≤ i
    · rw [Nat.testBit_lt_two_pow (Nat.lt_of_lt_of_le h (Nat.pow_le_pow_right (by omega) hi)), Bool.false_and]
    · rw [mask_tb p hp i (by omega), decide_eq_false hi, Bool.and_false]
section MACH2
variable {X : mv_X} {d : Nat} {σ : mv_S} {Q : mv_Q}
theorem s_isEnd {t e q : Nat} (ht : mc_at t) (he : σ.1 t 3 = nI e) (h1 : e < 16) (h2 : q < 4) : mv_wp X (d + 1) 12 [.ref t, .int (nI q)] σ Q ↔ Q (some (.int (if e.testBit q = true then 1 else 0))) σ := by
  rw [w_Machine_isEnd, he]
  by_cases h : e.testBit q = true
  · have h3 := (end_bit e h1 q h2).mpr h
    rw [if_pos h]
    exact ⟨fun z => (z.2.2 h3).2, fun z => ⟨ht.1, fun y => absurd h3 y, fun _ => ⟨Or.inr rfl, z⟩⟩⟩
  · have h3 : ¬ ((nI e >>> (nI q &&& 31)) &&& (1 : Int32)) = 1 := fun z => h ((end_bit e h1 q h2).mp z)
    rw [if_neg h]
    exact ⟨fun z => (z.2.1 h3).2, fun z => ⟨ht.1, fun _ => ⟨Or.inl rfl, z⟩, fun y => absurd y h3⟩⟩
theorem rf_i2 {k : Nat} : (15 : Int32) * nI k + 2 = nI (15 * k + 2) := by rw [show (15 : Int32) = nI 15 from rfl, show (2 : Int32) = nI 2 from rfl, pk_mul, nI_add]
theorem rf_i1 {k : Nat} : (15 : Int32) * nI k + 1 = nI (15 * k + 1) := by rw [show (15 : Int32) = nI 15 from rfl, show (1 : Int32) = nI 1 from rfl, pk_mul, nI_add]
theorem r_isEnd {k e q : Nat} (hk : k < 3) (he : σ.1 62 (15 * k + 2) = nI e) (h1 : e < 16) (h2 : q < 4) : mv_wp X (d + 1) 155 [.ref 61, .int (nI k), .int (nI q)] σ Q ↔ Q (some (.int (if e.testBit q = true then 1 else 0))) σ := by
  rw [w_Ref_isEnd, rf_i2, nI_clamp (by omega), he]
  have hv : vp_in (nI (15 * k + 2)) (mv_ln 62) := vp_in_nI (N := 45) (by omega) (by omega)
  by_cases h : e.testBit q = true
  · have h3 := (end_bit e h1 q h2).mpr h
    rw [if_pos h]
    exact ⟨fun z => (z.2.2.2 h3).2, fun z => ⟨rfl, ⟨rfl, hv⟩, fun y => absurd h3 y, fun _ => ⟨Or.inr rfl, z⟩⟩⟩
  · have h3 : ¬ ((nI e >>> (nI q &&& 31)) &&& (1 : Int32)) = 1 := fun z => h ((end_bit e h1 q h2).mp z)
    rw [if_neg h]
    exact ⟨fun z => (z.2.2.1 h3).2, fun z => ⟨rfl, ⟨rfl, hv⟩, fun _ => ⟨Or.inl rfl, z⟩, fun y => absurd y h3⟩⟩
theorem s_everyPoint {t p : Nat} (ht : mc_at t) (hp : σ.1 t 1 = nI p) (h : p ≤ 4) : mv_wp X (d + 1) 11 [.ref t] σ Q ↔ Q (some (.int (nI (2 ^ p - 1)))) σ := by
  rw [w_Machine_everyPoint, hp, all_pts p (by omega)]
  exact ⟨fun z => z.2, fun z => ⟨ht.1, z⟩⟩
end MACH2
section MACH3
variable {X : mv_X} {d : Nat} {σ : mv_S} {n : Nat} {Ms : Nat → md_T}
/-- behind a change of one machine's start or ends, in both -/
theorem mu_set {k f : Nat} {M M' : md_T} (h : iv_M n Ms σ) (hk : k < n) (hM : Ms k = M) (hf : (f = 2 ∧ M' = (M.1, M'.2.1, M.2.2.1, M.2.2.2) ∧ M'.2.1 < M.1) ∨ (f = 3 ∧ M' = (M.1, M.2.1, M'.2.2.1, M.2.2.2) ∧ M'.2.2.1 < 2 ^ M.1)) {v : Int32} (hv : v = if f = 2 then nI M'.2.1 else nI M'.2.2.1) :
    mu_P σ (mv_pi (mv_pi (mv_pi σ (33 + 4 * k) f v) 62 (15 * k + (f - 1)) v) 61 23 (-1)) ∧ mu_P σ (mv_pi (mv_pi (mv_pi σ (33 + 4 * k) f v) 61 23 (-1)) 62 (15 * k + (f - 1)) v) := by
  obtain ⟨m1, m2, m3⟩ := h.2.2.2 k hk
  have hn := h.1
  rw [hM] at m1 m2 m3
  obtain ⟨p, s, e, mv⟩ := M
  obtain ⟨p', s', e', mv'⟩ := M'
  obtain ⟨o1, o2, o3, o4, o5, o6⟩ := m1
  have key : ∀ σ2 : mv_S, σ2.1 61 23 = -1 → σ2.2 = σ.2 → (∀ c j, ¬ (c = 33 + 4 * k ∧ j = f) → ¬ (c = 62 ∧ j = 15 * k + (f - 1)) → ¬ (c = 61 ∧ j = 23) → σ2.1 c j = σ.1 c j) → σ2.1 (33 + 4 * k) f = v → σ2.1 62 (15 * k + (f - 1)) = v → mu_P σ σ2 := by
    intro σ2 h1 h2 h3 h4 h5
    refine Or.inr ⟨⟨n, _, iv_upd (k := k) h (p', s', e', mv') ?_ ?_ ?_ (h3 _ _ (by omega) (by omega) (by omega)) (h3 _ _ (by omega) (by omega) (by omega)) ?_⟩, h1, fun c j hq => ?_, h2⟩
    · rcases hf with ⟨rfl, hf, hl⟩ | ⟨rfl, hf, hl⟩ <;> cases hf
      · exact ⟨o1, o2, hl, o4, o5, o6⟩
      · exact ⟨o1, o2, o3, hl, o5, o6⟩
    · rcases hf with ⟨rfl, hf, hl⟩ | ⟨rfl, hf, hl⟩ <;> cases hf
      · refine ⟨?_, ?_, ?_, fun j hj => ?_⟩
        · rw [h3 _ _ (by omega) (by omega) (by omega)]; exact m2.1
        · rw [h4, hv]; rfl
        · rw [h3 _ _ (by omega) (by omega) (by omega)]; exact m2.2.2.1
        · rw [h3 _ _ (by omega) (by omega) (by omega)]; exact m2.2.2.2 j hj
      · refine ⟨?_, ?_, ?_, fun j hj => ?_⟩
        · rw [h3 _ _ (by omega) (by omega) (by omega)]; exact m2.1
        · rw [h3 _ _ (by omega) (by omega) (by omega)]; exact m2.2.1
        · rw [h4, hv]; rfl
        · rw [h3 _ _ (by omega) (by omega) (by omega)]; exact m2.2.2.2 j hj
    · rcases hf with ⟨rfl, hf, hl⟩ | ⟨rfl, hf, hl⟩ <;> cases hf
      · refine ⟨?_, ?_, ?_, fun j hj => ?_⟩
        · rw [h3 _ _ (by omega) (by omega) (by omega)]; exact m3.1
        · rw [h5, hv]; rfl
        · rw [h3 _ _ (by omega) (by omega) (by omega)]; exact m3.2.2.1
        · rw [h3 _ _ (by omega) (by omega) (by omega)]; exact m3.2.2.2 j hj
      · refine ⟨?_, ?_, ?_, fun j hj => ?_⟩
        · rw [h3 _ _ (by omega) (by omega) (by omega)]; exact m3.1
        · rw [h3 _ _ (by omega) (by omega) (by omega)]; exact m3.2.1
        · rw [h5, hv]; rfl
        · rw [h3 _ _ (by omega) (by omega) (by omega)]; exact m3.2.2.2 j hj
    · intro i hi hne j
      have hf2 : f = 2 ∨ f = 3 := by rcases hf with ⟨z, -⟩ | ⟨z, -⟩ <;> omega
      exact ⟨h3 _ _ (by omega) (by omega) (by omega), h3 _ _ (by omega) (by omega) (by omega), fun hj => h3 _ _ (by omega) (by omega) (by omega)⟩
    · unfold tm_M at hq
      exact h3 c j (by omega) (by omega) (by omega)
  have hf2 : f = 2 ∨ f = 3 := by rcases hf with ⟨z, -⟩ | ⟨z, -⟩ <;> omega
  constructor
  · refine key _ mv_rd rfl (fun c j q1 q2 q3 => by rw [mv_rn q3, mv_rn q2, mv_rn q1]) ?_ ?_
    · rw [mv_rn (by omega), mv_rn (by omega), mv_rd]
    · rw [mv_rn (by omega), mv_rd]
  · refine key _ (by rw [mv_rn (by omega), mv_rd]) rfl (fun c j q1 q2 q3 => by rw [mv_rn q2, mv_rn q3, mv_rn q1]) ?_ ?_
    · rw [mv_rn (by omega), mv_rn (by omega), mv_rd]
    · rw [mv_rd]
end MACH3
