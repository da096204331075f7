/-! ===== tells, film ===== -/
def gk (I : Nat → Int32) (tk : List Nat → Bool) (k : Nat) : Bool := decide (0 ≤ (I (2 * k)).toInt) && (wis 9 (I (2 * k)).toNatClampNeg && decide (I (2 * k + 1) = if tk (wls 9 (I (2 * k)).toNatClampNeg) = true then 1 else 0))
def teF (I : Nat → Int32) (tk : List Nat → Bool) : Nat → Nat → Option Nat
  | 0, _ => none
  | r + 1, k => if gk I tk k = true then teF I tk r (k + 1) else some k
section TELLS
variable {X : mv_X} {d : Nat} {σ : mv_S} {Q : mv_Q}
theorem s_tellsL {t u m : Nat} {tk : List Nat → Bool} {I : Nat → Int32} (ht : sh_at t) (ht1 : 53 ≤ t) (hu : 33 ≤ u) (hm : m ≤ 40) (hm2 : σ.1 t 2 = nI m) (hI : ∀ j, j < 40 → σ.1 (t + 1) j = I j) (hC : tkC X (d + 1) u tk σ)
    (hQ : ∀ τ, fr1 10 σ τ → τ.2 = σ.2 → Q (some (.int (agA (teF I tk (m / 2) 0)))) τ) :
    ∀ r k (τ : mv_S), k + r = m / 2 → teF I tk (m / 2) 0 = teF I tk r k → fr1 10 σ τ → τ.2 = σ.2 → mv_wf X (mv_wp X (d + 1)) m_WM_tells Q 42 [.ref 0, .retAddr 0, .retAddr 0, .retAddr 0, .ref t, .ref u, .int (nI k), .retAddr 0] [] τ := by
  intro r
  induction r with
  | zero =>
    intro k τ hk he hf h2
    have := hQ τ hf h2
    rw [he] at this
    refine h_WM_tells_42 ⟨ht.1, by decide, ?_⟩
    rw [hf t 2 (by omega), hm2, q_div2 (by omega)]
    exact ⟨fun _ => this, fun z => absurd (nI_le (by omega) (by omega)) z⟩
  | succ r ih =>
    intro k τ hk he hf h2
    refine h_WM_tells_42 ⟨ht.1, by decide, ?_⟩
    rw [hf t 2 (by omega), hm2, q_div2 (by omega)]
    refine ⟨fun z => absurd z (nI_ge (by omega) (by omega)), fun _ => ⟨ht.1, ?_⟩⟩
    rw [show (2 : Int32) = nI 2 from rfl, pk_mul, nI_1]
    have i1 : τ.1 (t + 1) (2 * k + 1) = I (2 * k + 1) := (hf _ _ (by omega)).trans (hI _ (by omega))
    have i0 : τ.1 (t + 1) (2 * k) = I (2 * k) := (hf _ _ (by omega)).trans (hI _ (by omega))
    refine s_item ht (by omega) ⟨_, rfl, ?_⟩
    rw [i1]
    have no : gk I tk k = false → Q (some (.int (nI k))) τ := by
      intro hg
      have := hQ τ hf h2
      rw [he, show teF I tk (r + 1) k = some k from if_neg (by rw [hg]; decide)] at this
      exact this
    have no2 : gk I tk k = false → ∀ τ2, fr1 10 τ τ2 → τ2.2 = τ.2 → Q (some (.int (nI k))) τ2 := by
      intro hg τ2 p1 p2
      have := hQ τ2 (fr1_tr hf p1) (p2.trans h2)
      rw [he, show teF I tk (r + 1) k = some k from if_neg (by rw [hg]; decide)] at this
      exact this
    have bad : ¬ (I (2 * k + 1) = 0 ∨ I (2 * k + 1) = 1) → gk I tk k = false := by
      intro hb
      unfold gk
      rw [show decide (I (2 * k + 1) = if tk (wls 9 (I (2 * k)).toNatClampNeg) = true then 1 else 0) = false from decide_eq_false (fun z => hb (by
        rw [z]
        exact bI_01 _))]
      rw [Bool.and_false, Bool.and_false]
    by_cases e1 : I (2 * k + 1) < 0
    · exact ⟨fun _ => no (bad (by rintro (z | z) <;> rw [z] at e1 <;> exact absurd e1 (by decide))), fun z => absurd e1 z⟩
    refine ⟨fun z => absurd z e1, fun _ => ?_⟩
    by_cases e2 : 1 < I (2 * k + 1)
    · exact ⟨fun _ => no (bad (by rintro (z | z) <;> rw [z] at e2 <;> exact absurd e2 (by decide))), fun z => absurd e2 z⟩
    refine ⟨fun z => absurd z e2, fun _ => ⟨rfl, ht.1, ?_⟩⟩
    refine s_item ht (by omega) ⟨_, rfl, rfl, ?_⟩
    rw [i0]
    have h01 : I (2 * k + 1) = 0 ∨ I (2 * k + 1) = 1 := by
      rw [fa_lt, Int32.toInt_zero] at e1
      rw [fa_lt, show (1 : Int32).toInt = 1 from rfl] at e2
      have : (I (2 * k + 1)).toInt = 0 ∨ (I (2 * k + 1)).toInt = 1 := by omega
      rcases this with z | z
      · exact Or.inl ((fa_eq _ _).mpr z)
      · exact Or.inr ((fa_eq _ _).mpr z)
    rcases ix_cs2 (I (2 * k)) with e | ⟨x, hx, ex⟩
    · refine s_read_neg e ⟨_, rfl, fun _ => no ?_, fun z => absurd rfl z⟩
      unfold gk
      rw [decide_eq_false (by omega), Bool.false_and]
    have gx : gk I tk k = (wis 9 x && decide (I (2 * k + 1) = if tk (wls 9 x) = true then 1 else 0)) := by
      unfold gk
      rw [ex, nI_clamp hx, nI_toInt hx, decide_eq_true (by omega), Bool.true_and]
    rw [ex]
    by_cases hw : wis 9 x = true
    · rw [hw, Bool.true_and] at gx
      refine s_read_y hx hw (fun τ2 p1 p2 p3 => ⟨_, rfl, fun z => absurd z (by decide), fun _ => ⟨rfl, ?_⟩⟩)
      refine hC τ2 _ _ (fr10_sm (fr1_tr hf p2) hu) p1 (wk_n hw) ⟨_, rfl, ?_⟩
      have yes : gk I tk k = true → mv_wf X (mv_wp X (d + 1)) m_WM_tells Q 42 [.ref 0, .retAddr 0, .retAddr 0, .retAddr 0, .ref t, .ref u, .int (nI k + 1), .retAddr 0] [] τ2 := by
        intro hg
        rw [nI_1]
        exact ih (k + 1) τ2 (by omega) (he.trans (if_pos hg)) (fr1_tr hf p2) (p3.trans h2)
      rcases h01 with z | z
      · rw [z] at gx ⊢
        refine ⟨fun _ => ?_, fun z => absurd z (by decide)⟩
        by_cases eb : tk (wls 9 x) = true
        · rw [if_pos eb] at gx ⊢
          exact ⟨fun z => absurd z (by decide), fun _ => no2 (gx.trans (by decide)) τ2 p2 p3⟩
        · rw [if_neg eb] at gx ⊢
          exact ⟨fun _ => yes (gx.trans (by decide)), fun z => absurd rfl z⟩
      · rw [z] at gx ⊢
        refine ⟨fun z => absurd rfl z, fun _ => ?_⟩
        by_cases eb : tk (wls 9 x) = true
        · rw [if_pos eb] at gx ⊢
          exact ⟨fun _ => yes (gx.trans (by decide)), fun z => absurd rfl z⟩
        · rw [if_neg eb] at gx ⊢
          exact ⟨fun z => absurd z (by decide), fun _ => no2 (gx.trans (by decide)) τ2 p2 p3⟩
    · have hw := Bool.eq_false_iff.mpr hw
      rw [hw, Bool.false_and] at gx
      exact s_read_n hx hw ⟨_, rfl, fun _ => no gx, fun z => absurd rfl z⟩
theorem r_tellsL {s k0 b m : Nat} {tk : List Nat → Bool} {I : Nat → Int32} (hb : b < 4) (hm : m ≤ 40) (hm2 : σ.1 94 b = nI m) (hI : ∀ j, j < 40 → σ.1 95 (40 * b + j) = I j) (hR : tkR X (d + 2) s k0 tk σ)
    (hQ : ∀ τ, aw_P σ τ → Q (some (.int (agA (teF I tk (m / 2) 0)))) τ) :
    ∀ r k (τ : mv_S), k + r = m / 2 → teF I tk (m / 2) 0 = teF I tk r k → aw_P σ τ → mv_wf X (mv_wp X (d + 2)) m_Ref_tells Q 35 [.ref 61, .int (nI b), .int (nI s), .int (nI k0), .int (nI k), .retAddr 0] [] τ := by
  intro r
  induction r with
  | zero =>
    intro k τ hk he hf
    have := hQ τ hf
    rw [he] at this
    refine h_Ref_tells_35 ⟨rfl, ⟨rfl, vp_in_nI (N := 4) (by omega) (by omega)⟩, ?_⟩
    rw [nI_clamp (by omega), hf.1 94 b (by unfold scW; omega), hm2, show (2 : Int32) = nI 2 from rfl, pk_mul, nI_1]
    exact ⟨fun _ => this, fun z => absurd (nI_le (by omega) (by omega)) z⟩
  | succ r ih =>
    intro k τ hk he hf
    refine h_Ref_tells_35 ⟨rfl, ⟨rfl, vp_in_nI (N := 4) (by omega) (by omega)⟩, ?_⟩
    have i1 : τ.1 95 (40 * b + 2 * k + 1) = I (2 * k + 1) := by rw [Nat.add_assoc]; exact (hf.1 _ _ (by unfold scW; omega)).trans (hI _ (by omega))
    have i0 : τ.1 95 (40 * b + 2 * k) = I (2 * k) := (hf.1 _ _ (by unfold scW; omega)).trans (hI _ (by omega))
    rw [nI_clamp (n := b) (by omega), hf.1 94 b (by unfold scW; omega), hm2, show (2 : Int32) = nI 2 from rfl, show (40 : Int32) = nI 40 from rfl, pk_mul, pk_mul, nI_add, nI_1, nI_1, nI_clamp (by omega), nI_clamp (by omega), i0, i1]
    refine ⟨fun z => absurd z (nI_ge (by omega) (by omega)), fun _ => ⟨rfl, ⟨rfl, vp_in_nI (N := 160) (by omega) (by omega)⟩, rfl, ⟨rfl, vp_in_nI (N := 160) (by omega) (by omega)⟩, rfl, ?_⟩⟩
    have no : gk I tk k = false → ∀ τ2, aw_P τ τ2 → Q (some (.int (nI k))) τ2 := by
      intro hg τ2 p1
      have := hQ τ2 (aw_tr hf p1)
      rw [he, show teF I tk (r + 1) k = some k from if_neg (by rw [hg]; decide)] at this
      exact this
    rcases ix_cs2 (I (2 * k)) with e | ⟨x, hx, ex⟩
    · refine r_isWord_neg e ⟨_, rfl, fun _ => no ?_ τ (aw_rf τ), fun z => absurd rfl z⟩
      unfold gk
      rw [decide_eq_false (by omega), Bool.false_and]
    have gx : gk I tk k = (wis 9 x && decide (I (2 * k + 1) = if tk (wls 9 x) = true then 1 else 0)) := by
      unfold gk
      rw [ex, nI_clamp hx, nI_toInt hx, decide_eq_true (by omega), Bool.true_and]
    rw [ex]
    by_cases hw : wis 9 x = true
    · rw [hw, Bool.true_and] at gx
      refine r_isWord_y hx hw (fun τ2 p1 p2 => ⟨_, rfl, fun z => absurd z (by decide), fun _ => ⟨rfl, ?_⟩⟩)
      have w2 := aw_W p2
      refine hR τ2 _ _ (aw_smR (aw_tr hf w2)) p1 (wk_n hw) (fun τ3 p3 => ⟨_, rfl, ?_⟩)
      have w3 := aw_tr w2 (aw_F p3)
      refine r_bit.mpr ⟨_, rfl, ?_⟩
      refine ⟨fun z => ?_, fun z => no (gx.trans (decide_eq_false z)) τ3 w3⟩
      rw [nI_1]
      exact ih (k + 1) τ3 (by omega) (he.trans (if_pos (gx.trans (decide_eq_true z)))) (aw_tr hf w3)
    · have hw := Bool.eq_false_iff.mpr hw
      rw [hw, Bool.false_and] at gx
      exact r_isWord_n hx hw (fun τ2 p => ⟨_, rfl, fun _ => no gx τ2 (aw_W p), fun z => absurd rfl z⟩)
theorem op_tells {n q : Nat} {Ms : Nat → md_T} {fs : Nat → List Nat → Bool} {a1 a2 a3 : Int32} (hS : iv_S σ) (h : iv_M n Ms σ) (hF : iv_Fm X (d + 4) q fs σ) : lw_op X (d + 5) (aw_P σ) 125 231 [.int a1, .int a2, .int a3] σ := by
  unfold lw_op
  have self : sm_T σ σ := aw_smT (aw_rf σ)
  refine w_WM_tells ⟨rfl, ?_⟩
  have tcs := tk_cs (d := d + 1) h hF a2 a3
  rcases ix_cs a1 4 (by omega) with ⟨c1, c2⟩ | ⟨b, hb, rfl, c1⟩
  · have rf : mv_wp X (d + 5) 231 [.ref 61, .int a1, .int a2, .int a3] σ (fun r2 σ2 => r2 = some (.int (-2)) ∧ aw_P σ σ2) := by
      refine w_Ref_tells ?_
      rw [r_isSheet, if_neg c2]
      exact ⟨_, rfl, fun _ => ⟨rfl, aw_rf σ⟩, fun z => absurd rfl z⟩
    refine (s_sheetAt_no c1).mpr (Or.inl ⟨rfl, rfl, ?_⟩)
    rcases tcs with ⟨g1, g2⟩ | ⟨s, k, t, tk, rfl, rfl, ht1, ht2, hC, hR, g1, g2⟩
    · exact g1 (d + 2) _ _ self (Or.inl ⟨rfl, _, rfl, rf⟩)
    · exact g1 (d + 2) _ _ self (Or.inr ⟨_, rfl, _, rfl, rf⟩)
  refine (s_sheetAt_ok hb).mpr (Or.inr ⟨_, rfl, rfl, ?_⟩)
  rcases tcs with ⟨g1, g2⟩ | ⟨s, k, t, tk, rfl, rfl, ht1, ht2, hC, hR, g1, g2⟩
  · refine g1 (d + 2) _ _ self (Or.inl ⟨rfl, _, rfl, ?_⟩)
    refine w_Ref_tells ?_
    rw [r_isSheet, if_pos c1]
    exact ⟨_, rfl, fun z => absurd z (by decide), fun _ => ⟨rfl, g2 (d + 1) _ _ self ⟨_, rfl, fun z => absurd rfl z, fun _ => ⟨rfl, aw_rf σ⟩⟩⟩⟩
  have hsh : sh_at (53 + 2 * b) := (sh_now b hb).1
  refine g1 (d + 2) _ _ self (Or.inr ⟨_, rfl, hsh.1, ?_⟩)
  obtain ⟨i1, i2, ⟨m, hm, i3, i4⟩, i5⟩ := hS b hb
  rw [s_isMissing hsh]
  by_cases e : σ.1 (53 + 2 * b) 1 = -1
  · rw [if_pos e]
    refine ⟨_, rfl, fun z => absurd z (by decide), fun _ => ⟨_, rfl, ?_⟩⟩
    refine w_Ref_tells ?_
    rw [r_isSheet, if_pos c1]
    refine ⟨_, rfl, fun z => absurd z (by decide), fun _ => ⟨rfl, g2 (d + 1) _ _ self ⟨_, rfl, fun _ => ⟨rfl, ⟨rfl, vp_in_nI (N := 4) (by omega) (by omega)⟩, ?_⟩, fun z => absurd z (by decide)⟩⟩⟩
    rw [nI_clamp (by omega), i2, e]
    exact ⟨fun z => absurd rfl z, fun _ => ⟨rfl, aw_rf σ⟩⟩
  · rw [if_neg e]
    refine ⟨_, rfl, fun _ => ?_, fun z => absurd rfl z⟩
    refine s_tellsL (σ := σ) (I := fun j => σ.1 (53 + 2 * b + 1) j) hsh (by omega) ht1 hm i3 (fun _ _ => rfl) hC (fun τ p1 p2 => ⟨_, rfl, ?_⟩) (m / 2) 0 σ (by omega) rfl (fun _ _ _ => rfl) rfl
    have w1 := aw_10 p1 p2
    refine w_Ref_tells ?_
    rw [r_isSheet, if_pos c1]
    refine ⟨_, rfl, fun z => absurd z (by decide), fun _ => ⟨rfl, g2 (d + 1) _ _ (aw_smT w1) ⟨_, rfl, fun _ => ⟨rfl, ⟨rfl, vp_in_nI (N := 4) (by omega) (by omega)⟩, ?_⟩, fun z => absurd z (by decide)⟩⟩⟩
    rw [nI_clamp (by omega), w1.1 93 b (by unfold scW; omega), i2]
    refine ⟨fun _ => ?_, fun z => absurd z e⟩
    exact r_tellsL (σ := σ) (I := fun j => σ.1 (53 + 2 * b + 1) j) hb hm i4 i5 hR (fun τ2 p => ⟨rfl, p⟩) (m / 2) 0 τ (by omega) rfl w1
end TELLS
