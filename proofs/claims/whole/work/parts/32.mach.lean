/-! ===== the calls that change machines ===== -/
theorem mv_rd {σ : mv_S} {c k : Nat} {v : Int32} : (mv_pi σ c k v).1 c k = v := by unfold mv_pi; simp
theorem mv_rn {σ : mv_S} {c k c' k' : Nat} {v : Int32} (h : ¬ (c' = c ∧ k' = k)) : (mv_pi σ c k v).1 c' k' = σ.1 c' k' := by unfold mv_pi; simp only [if_neg h]
theorem mv_r2 {σ : mv_S} {c k : Nat} {v : Int32} : (mv_pi σ c k v).2 = σ.2 := rfl
theorem ix_cs (x : Int32) (n : Nat) (hn : n ≤ 1000) : ((x < 0 ∨ nI n ≤ x) ∧ ¬ (0 ≤ x.toInt ∧ x.toInt ≤ (n : Int) - 1)) ∨ ∃ k, k < n ∧ x = nI k ∧ (0 ≤ x.toInt ∧ x.toInt ≤ (n : Int) - 1) := by
  by_cases h : 0 ≤ x.toInt ∧ x.toInt ≤ (n : Int) - 1
  · right
    obtain ⟨j, hj, rfl⟩ := nI_of (x := x) (by rw [Int32.lt_iff_toInt_lt, Int32.toInt_zero]; omega)
    have h2 := h.2
    rw [nI_toInt hj] at h2
    exact ⟨j, by omega, rfl, h⟩
  · left
    refine ⟨?_, h⟩
    by_cases h0 : x < 0
    · exact Or.inl h0
    · right
      rw [Int32.lt_iff_toInt_lt, Int32.toInt_zero] at h0
      rw [Int32.le_iff_toInt_le, nI_toInt (by omega)]
      omega
/-- what these calls may touch -/
def tm_M (c j : Nat) : Prop := (c = 0 ∧ j = 10) ∨ (c = 61 ∧ (j = 1 ∨ j = 23)) ∨ c = 62 ∨ c = 33 ∨ c = 34 ∨ c = 37 ∨ c = 38 ∨ c = 41 ∨ c = 42
def mu_P (σ σ2 : mv_S) : Prop := σ2 = σ ∨ ((∃ n Ms, iv_M n Ms σ2) ∧ σ2.1 61 23 = -1 ∧ (∀ c j, ¬ tm_M c j → σ2.1 c j = σ.1 c j) ∧ σ2.2 = σ.2)
theorem iv_upd {σ σ2 : mv_S} {n k : Nat} {Ms : Nat → md_T} (h : iv_M n Ms σ) (M : md_T) (hok : md_ok M) (hc : cl_M σ2 (33 + 4 * k) M) (hr : rf_M σ2 62 k M) (h0 : σ2.1 0 10 = σ.1 0 10) (h1 : σ2.1 61 1 = σ.1 61 1)
    (ho : ∀ i, i < n → ¬ i = k → ∀ j, σ2.1 (33 + 4 * i) j = σ.1 (33 + 4 * i) j ∧ σ2.1 (33 + 4 * i + 1) j = σ.1 (33 + 4 * i + 1) j ∧ (j < 15 → σ2.1 62 (15 * i + j) = σ.1 62 (15 * i + j))) : iv_M n (fun i => if i = k then M else Ms i) σ2 := by
  obtain ⟨a1, a2, a3, a4⟩ := h
  refine ⟨a1, h0.trans a2, h1.trans a3, fun i hi => ?_⟩
  by_cases e : i = k
  · subst e
    simp only [if_true]
    exact ⟨hok, hc, hr⟩
  · simp only [if_neg e]
    obtain ⟨b1, b2, b3⟩ := a4 i hi
    have o := ho i hi e
    refine ⟨b1, ⟨(o 1).1.trans b2.1, (o 2).1.trans b2.2.1, (o 3).1.trans b2.2.2.1, fun j hj => (o j).2.1.trans (b2.2.2.2 j hj)⟩, ?_, ?_, ?_, fun j hj => ?_⟩
    · have := (o 0).2.2 (by omega); rw [Nat.add_zero] at this; exact this.trans b3.1
    · exact ((o 1).2.2 (by omega)).trans b3.2.1
    · exact ((o 2).2.2 (by omega)).trans b3.2.2.1
    · have := (o (3 + j)).2.2 (by omega)
      rw [← Nat.add_assoc] at this
      exact this.trans (b3.2.2.2 j hj)
section MACH
variable {X : mv_X} {d : Nat} {σ : mv_S} {n : Nat} {Ms : Nat → md_T}
theorem op_drop (h : iv_M n Ms σ) : lw_op X (d + 5) (mu_P σ) 98 162 [] σ := by
  unfold lw_op
  obtain ⟨a1, a2, a3, a4⟩ := h
  rw [w_WM_drop, a2]
  by_cases h0 : n = 0
  · subst h0
    refine ⟨rfl, fun z => absurd z (by decide), fun _ => ⟨_, rfl, ?_⟩⟩
    rw [w_Ref_drop, a3]
    exact ⟨rfl, fun z => absurd rfl z, fun _ => ⟨rfl, Or.inl rfl⟩⟩
  · have hp : (0 : Int32) < nI n := nI_lt (a := 0) (by omega) (by omega)
    have hs : nI n - 1 = nI (n - 1) := pk_sub (b := 1) (by omega)
    refine ⟨rfl, fun _ => ⟨rfl, rfl, rfl, _, rfl, ?_⟩, fun z => absurd hp z⟩
    rw [w_Ref_drop, mv_rd, mv_rn (by decide), a3, hs]
    refine ⟨rfl, fun _ => ⟨rfl, rfl, rfl, rfl, ?_, Or.inr ⟨⟨n - 1, Ms, ?_⟩, mv_rd, ?_, rfl⟩⟩, fun z => absurd z (nI_ne0 (by omega) (by omega))⟩
    · rw [mv_rn (by decide), mv_rd]
    · refine ⟨by omega, by rw [mv_rn (by decide), mv_rn (by decide), mv_rd], by rw [mv_rn (by decide), mv_rd], fun k hk => ?_⟩
      obtain ⟨b1, b2, b3⟩ := a4 k (by omega)
      have o : ∀ c j, ¬ c = 0 → ¬ c = 61 → (mv_pi (mv_pi (mv_pi σ 0 10 (nI (n - 1))) 61 1 (nI (n - 1))) 61 23 (-1)).1 c j = σ.1 c j := fun c j q1 q2 => by rw [mv_rn (fun z => q2 z.1), mv_rn (fun z => q2 z.1), mv_rn (fun z => q1 z.1)]
      refine ⟨b1, ⟨?_, ?_, ?_, fun j hj => ?_⟩, ?_, ?_, ?_, fun j hj => ?_⟩
      · rw [o _ _ (by omega) (by omega)]; exact b2.1
      · rw [o _ _ (by omega) (by omega)]; exact b2.2.1
      · rw [o _ _ (by omega) (by omega)]; exact b2.2.2.1
      · rw [o _ _ (by omega) (by omega)]; exact b2.2.2.2 j hj
      · rw [o _ _ (by omega) (by omega)]; exact b3.1
      · rw [o _ _ (by omega) (by omega)]; exact b3.2.1
      · rw [o _ _ (by omega) (by omega)]; exact b3.2.2.1
      · rw [o _ _ (by omega) (by omega)]; exact b3.2.2.2 j hj
    · intro c j hq
      unfold tm_M at hq
      rw [mv_rn (fun z => hq (Or.inr (Or.inl ⟨z.1, Or.inr z.2⟩))), mv_rn (fun z => hq (Or.inr (Or.inl ⟨z.1, Or.inl z.2⟩))), mv_rn (fun z => hq (Or.inl z))]
theorem op_step {a1 a2 a3 a4 : Int32} (h : iv_M n Ms σ) : lw_op X (d + 5) (mu_P σ) 99 163 [.int a1, .int a2, .int a3, .int a4] σ := by
  unfold lw_op
  have h9 := h
  obtain ⟨b1, b2, b3, b4⟩ := h9
  rw [w_WM_step]
  rcases ix_cs a1 n (by omega) with ⟨c1, c2⟩ | ⟨k, hk, rfl, c1⟩
  · rw [s_machineAt_no b2 c1]
    refine ⟨rfl, Or.inl ⟨rfl, _, rfl, ?_⟩⟩
    rw [w_Ref_step, r_isMachine b3 b1, if_neg c2]
    exact ⟨rfl, _, rfl, fun _ => ⟨rfl, Or.inl rfl⟩, fun z => absurd rfl z⟩
  obtain ⟨m1, m2, m3⟩ := b4 k hk
  generalize Ms k = M at m1 m2 m3
  obtain ⟨p, s, e, mv⟩ := M
  obtain ⟨o1, o2, o3, o4, o5, o6⟩ := m1
  dsimp only at o1 o2 o3 o4 o5 o6
  have ht : mc_at (33 + 4 * k) := (mc_now k (by omega)).1
  have hP : σ.1 (33 + 4 * k) 1 = nI p := m2.1
  have hR : σ.1 62 (15 * k) = nI p := m3.1
  rw [s_machineAt_ok b2 b1 hk]
  refine ⟨rfl, Or.inr ⟨_, rfl, ht.1, ?_⟩⟩
  rcases ix_cs a2 p (by omega) with ⟨e1, e2⟩ | ⟨q, hq, rfl, e1⟩
  · rw [s_hasPoint_no ht hP e1]
    refine ⟨_, rfl, fun _ => ⟨_, rfl, ?_⟩, fun z => absurd rfl z⟩
    rw [w_Ref_step, r_isMachine b3 b1, if_pos c1]
    refine ⟨rfl, _, rfl, fun z => absurd z (by decide), fun _ => ⟨rfl, ?_⟩⟩
    rw [r_isPoint (by omega) hR o2, if_neg e2]
    exact ⟨_, rfl, fun _ => ⟨rfl, Or.inl rfl⟩, fun z => absurd rfl z⟩
  rw [s_hasPoint_ok ht hP o2 hq]
  refine ⟨_, rfl, fun z => absurd z (by decide), fun _ => ?_⟩
  rcases ix_cs a3 3 (by omega) with ⟨f1, f2⟩ | ⟨l, hl, rfl, f1⟩
  · rw [s_isLetter_no f1]
    refine ⟨_, rfl, fun _ => ⟨_, rfl, ?_⟩, fun z => absurd rfl z⟩
    rw [w_Ref_step, r_isMachine b3 b1, if_pos c1]
    refine ⟨rfl, _, rfl, fun z => absurd z (by decide), fun _ => ⟨rfl, ?_⟩⟩
    rw [r_isPoint (by omega) hR o2, if_pos e1]
    refine ⟨_, rfl, fun z => absurd z (by decide), fun _ => ?_⟩
    rw [r_isLetter, if_neg f2]
    exact ⟨_, rfl, fun _ => ⟨rfl, Or.inl rfl⟩, fun z => absurd rfl z⟩
  rw [s_isLetter_ok hl]
  refine ⟨_, rfl, fun z => absurd z (by decide), fun _ => ⟨ht.1, ?_⟩⟩
  rcases ix_cs a4 p (by omega) with ⟨g1, g2⟩ | ⟨r, hr, rfl, g1⟩
  · rw [s_hasPoint_no ht hP g1]
    refine ⟨_, rfl, fun z => absurd rfl z, fun _ => ⟨_, rfl, ?_⟩⟩
    rw [w_Ref_step, r_isMachine b3 b1, if_pos c1]
    refine ⟨rfl, _, rfl, fun z => absurd z (by decide), fun _ => ⟨rfl, ?_⟩⟩
    rw [r_isPoint (by omega) hR o2, if_pos e1]
    refine ⟨_, rfl, fun z => absurd z (by decide), fun _ => ?_⟩
    rw [r_isLetter, if_pos f1]
    refine ⟨_, rfl, fun z => absurd z (by decide), fun _ => ⟨rfl, ?_⟩⟩
    rw [r_isPoint (by omega) hR o2, if_neg g2]
    exact ⟨_, rfl, fun z => absurd rfl z, fun _ => ⟨rfl, Or.inl rfl⟩⟩
  rw [s_hasPoint_ok ht hP o2 hr]
  refine ⟨_, rfl, fun _ => ⟨ht.1, ?_⟩, fun z => absurd z (by decide)⟩
  rw [s_next ht (by omega) hl]
  refine ⟨_, rfl, ht.1, ?_⟩
  rw [s_lead ht (by omega) hl]
  refine ⟨rfl, _, rfl, ?_⟩
  have hb3 : (mv_pi σ (33 + 4 * k + 1) (3 * q + l) (nI r)).1 61 1 = nI n := by rw [mv_rn (by omega)]; exact b3
  have hR2 : (mv_pi σ (33 + 4 * k + 1) (3 * q + l) (nI r)).1 62 (15 * k) = nI p := by rw [mv_rn (by omega)]; exact hR
  rw [w_Ref_step, r_isMachine hb3 b1, if_pos c1]
  refine ⟨rfl, _, rfl, fun z => absurd z (by decide), fun _ => ⟨rfl, ?_⟩⟩
  rw [r_isPoint (by omega) hR2 o2, if_pos e1]
  refine ⟨_, rfl, fun z => absurd z (by decide), fun _ => ?_⟩
  rw [r_isLetter, if_pos f1]
  refine ⟨_, rfl, fun z => absurd z (by decide), fun _ => ⟨rfl, ?_⟩⟩
  rw [r_isPoint (by omega) hR2 o2, if_pos g1]
  refine ⟨_, rfl, fun _ => ⟨rfl, ?_⟩, fun z => absurd z (by decide)⟩
  rw [r_to (by omega) (by omega) hl]
  refine ⟨_, rfl, rfl, ⟨rfl, ?_⟩, rfl, ?_⟩
  · rw [rf_ix]
    exact vp_in_nI (N := 45) (by omega) (by omega)
  rw [rf_ix, nI_clamp (by omega)]
  refine ⟨?_, Or.inr ⟨⟨n, _, iv_upd (k := k) h (p, s, e, fun j => if j = 3 * q + l then r else mv j) ?_ ?_ ?_ ?_ ?_ ?_⟩, mv_rd, ?_, rfl⟩⟩
  · rw [mv_rn (by omega), m3.2.2.2 (3 * q + l) (by omega), m2.2.2.2 (3 * q + l) (by omega)]
  · refine ⟨o1, o2, o3, o4, fun j hj => ?_, fun j hj => ?_⟩
    · dsimp only
      by_cases z : j = 3 * q + l
      · rw [if_pos z]; omega
      · rw [if_neg z]; exact o5 j hj
    · dsimp only at hj ⊢
      by_cases z : j = 3 * q + l
      · rw [if_pos z]; exact hr
      · rw [if_neg z]; exact o6 j hj
  · refine ⟨?_, ?_, ?_, fun j hj => ?_⟩
    · rw [mv_rn (by omega), mv_rn (by omega), mv_rn (by omega)]; exact m2.1
    · rw [mv_rn (by omega), mv_rn (by omega), mv_rn (by omega)]; exact m2.2.1
    · rw [mv_rn (by omega), mv_rn (by omega), mv_rn (by omega)]; exact m2.2.2.1
    · rw [mv_rn (by omega), mv_rn (by omega)]
      dsimp only
      by_cases z : j = 3 * q + l
      · rw [if_pos z, z, mv_rd]
      · rw [if_neg z, mv_rn (by omega)]; exact m2.2.2.2 j hj
  · refine ⟨?_, ?_, ?_, fun j hj => ?_⟩
    · rw [mv_rn (by omega), mv_rn (by omega), mv_rn (by omega)]; exact m3.1
    · rw [mv_rn (by omega), mv_rn (by omega), mv_rn (by omega)]; exact m3.2.1
    · rw [mv_rn (by omega), mv_rn (by omega), mv_rn (by omega)]; exact m3.2.2.1
    · rw [mv_rn (by omega)]
      dsimp only
      by_cases z : j = 3 * q + l
      · rw [if_pos z, z, mv_rd]
      · rw [if_neg z, mv_rn (by omega), mv_rn (by omega)]; exact m3.2.2.2 j hj
  · rw [mv_rn (by omega), mv_rn (by omega), mv_rn (by omega)]
  · rw [mv_rn (by omega), mv_rn (by omega), mv_rn (by omega)]
  · intro i hi hne j
    refine ⟨?_, ?_, fun hj => ?_⟩
    · rw [mv_rn (by omega), mv_rn (by omega), mv_rn (by omega)]
    · rw [mv_rn (by omega), mv_rn (by omega), mv_rn (by omega)]
    · rw [mv_rn (by omega), mv_rn (by omega), mv_rn (by omega)]
  · intro c j hq
    unfold tm_M at hq
    rw [mv_rn (by omega), mv_rn (by omega), mv_rn (by omega)]
end MACH
