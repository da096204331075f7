/-! ===== agree, says, tells ===== -/
def agW (p : List Nat → Bool) (L : Nat) : Nat → Nat → Option Nat
  | 0, _ => none
  | r + 1, k => if p (wl L k) = true then some (wtn (wl L k) 0) else agW p L r (k + 1)
def agL (p : List Nat → Bool) : Nat → Nat → Option Nat
  | 0, _ => none
  | r + 1, L => match agW p L (3 ^ L) 0 with
    | some x => some x
    | none => agL p r (L + 1)
def agA (o : Option Nat) : Int32 := match o with
  | some x => nI x
  | none => -1
theorem agL_some {p : List Nat → Bool} {r L x : Nat} (h : agW p L (3 ^ L) 0 = some x) : agL p (r + 1) L = some x := by show (match agW p L (3 ^ L) 0 with | some x => some x | none => agL p r (L + 1)) = _; rw [h]
theorem agL_none {p : List Nat → Bool} {r L : Nat} (h : agW p L (3 ^ L) 0 = none) : agL p (r + 1) L = agL p r (L + 1) := by show (match agW p L (3 ^ L) 0 with | some x => some x | none => agL p r (L + 1)) = _; rw [h]
theorem bI_ne {a b : Bool} : ((if a = true then (1 : Int32) else 0) = (if b = true then 1 else 0)) ↔ (a != b) = false := by cases a <;> cases b <;> decide
section AGREE
variable {X : mv_X} {d : Nat} {σ : mv_S} {Q : mv_Q}
theorem tkC_f {D k : Nat} {tk : List Nat → Bool} (hk : k < 4) (h : tkC X D (45 + 2 * k) tk σ) {τ : mv_S} {w : List Nat} {Q : mv_Q} (h1 : ∀ j, τ.1 (45 + 2 * k) j = σ.1 (45 + 2 * k) j ∧ τ.1 (45 + 2 * k + 1) j = σ.1 (45 + 2 * k + 1) j) (h2 : cw τ w) (h3 : wk w) (h4 : Q (some (.int (if tk w = true then 1 else 0))) τ) : mv_sh (45 + 2 * k) = 0 ∧ mv_wp X D 26 [.ref (45 + 2 * k), .ref 10] τ Q := by
  rcases h τ w Q h1 h2 h3 h4 with ⟨z, _⟩ | z
  · rw [(fm_at k hk).1] at z; exact absurd z (by decide)
  · exact z
theorem tkR_f {D k : Nat} {tk : List Nat → Bool} (h : tkR X (D + 1) 1 k tk σ) {τ : mv_S} {w : List Nat} {Q : mv_Q} (h1 : sm_R σ τ) (h2 : rwd τ w) (h3 : wk w) (h4 : ∀ τ', frF τ τ' → Q (some (.int (if tk w = true then 1 else 0))) τ') : mv_wp X D 220 [.ref 61, .int (nI k)] τ Q := by
  have := (w_Ref_saysOf _ _ _ _ _ _).mp (h τ w Q h1 h2 h3 h4)
  refine mv_wp_mono _ _ _ _ _ _ (fun r s hr => ?_) (this.1 (by decide)).2
  obtain ⟨v, e, _, q⟩ := hr
  rw [e]; exact q
theorem s_agW {t k N L : Nat} {M : md_T} {f : List Nat → Bool} (ht : mc_at t) (ht3 : 33 ≤ t) (hM : md_ok M) (hc : cl_M σ t M) (hk : k < 4) (hC : tkC X (d + 2) (45 + 2 * k) f σ) (hL : L ≤ 5)
    (hY : ∀ x, agW (fun w => tkM M w != f w) L (3 ^ L) 0 = some x → ∀ τ, fr1 10 σ τ → τ.2 = σ.2 → Q (some (.int (nI x))) τ)
    (hN : agW (fun w => tkM M w != f w) L (3 ^ L) 0 = none → ∀ τ, fr1 10 σ τ → τ.2 = σ.2 → mv_wf X (mv_wp X (d + 2)) m_WM_agree Q 39 [.ref 0, .retAddr 0, .retAddr 0, .int (nI N), .ref t, .ref (45 + 2 * k), .int (nI (L + 1)), .retAddr 0, .retAddr 0] [] τ) :
    ∀ r i (τ : mv_S), i + r = 3 ^ L → agW (fun w => tkM M w != f w) L (3 ^ L) 0 = agW (fun w => tkM M w != f w) L r i → (i < 3 ^ L → cw τ (wl L i)) → fr1 10 σ τ → τ.2 = σ.2 → mv_wf X (mv_wp X (d + 2)) m_WM_agree Q 64 [.ref 0, .retAddr 0, .retAddr 0, .int (nI N), .ref t, .ref (45 + 2 * k), .int (nI L), .int (nI (3 ^ L)), .int (nI i)] [] τ := by
  intro r
  have h3 := p39 (show L ≤ 9 by omega)
  induction r with
  | zero =>
    intro i τ hi he hw hf h2
    obtain rfl : i = 3 ^ L := by omega
    refine h_WM_agree_64 ⟨fun _ => ?_, fun z => absurd (nI_le (Nat.le_refl _) (by omega)) z⟩
    rw [nI_1]
    exact hN he τ hf h2
  | succ r ih =>
    intro i τ hi he hw hf h2
    have hw := hw (by omega)
    have cM : cl_M τ t M := cl_fr hc hf (by omega) (by omega)
    refine h_WM_agree_64 ⟨fun z => absurd z (nI_ge (by omega) (by omega)), fun _ => ⟨rfl, ht.1, ?_⟩⟩
    refine s_accepts ht hM cM hw (wk_wl i (by omega)) ⟨_, rfl, rfl, ?_⟩
    refine tkC_f hk hC (fr10_sm hf (by omega)) hw (wk_wl i (by omega)) ⟨_, rfl, ?_⟩
    by_cases eb : (tkM M (wl L i) != f (wl L i)) = true
    · have e2 : agW (fun w => tkM M w != f w) L (r + 1) i = some (wtn (wl L i) 0) := if_pos eb
      refine ⟨fun z => absurd (bI_ne.mp z) (by rw [eb]; decide), fun _ => ⟨rfl, rfl, ?_⟩⟩
      exact s_told hw (wk_wl i (by omega)) ⟨_, rfl, hY _ (he.trans e2) τ hf h2⟩
    · have e2 : agW (fun w => tkM M w != f w) L (r + 1) i = agW (fun w => tkM M w != f w) L r (i + 1) := if_neg eb
      refine ⟨fun _ => ⟨rfl, rfl, ?_⟩, fun z => absurd (bI_ne.mpr (Bool.eq_false_iff.mpr eb)) z⟩
      refine s_advance (by omega) (by omega) hw (fun τ2 p1 p2 p3 => ⟨rfl, ?_⟩)
      rw [nI_1]
      exact ih (i + 1) τ2 (by omega) (he.trans e2) p1 (fr1_tr hf p2) (p3.trans h2)
theorem s_agL {t k N : Nat} {M : md_T} {f : List Nat → Bool} (ht : mc_at t) (ht3 : 33 ≤ t) (hM : md_ok M) (hc : cl_M σ t M) (hk : k < 4) (hC : tkC X (d + 2) (45 + 2 * k) f σ) (hN : N ≤ 5)
    (hQ : ∀ τ, fr1 10 σ τ → τ.2 = σ.2 → Q (some (.int (agA (agL (fun w => tkM M w != f w) (N + 1) 0)))) τ) :
    ∀ r L (τ : mv_S), L + r = N + 1 → agL (fun w => tkM M w != f w) (N + 1) 0 = agL (fun w => tkM M w != f w) r L → fr1 10 σ τ → τ.2 = σ.2 → mv_wf X (mv_wp X (d + 2)) m_WM_agree Q 39 [.ref 0, .retAddr 0, .retAddr 0, .int (nI N), .ref t, .ref (45 + 2 * k), .int (nI L), .retAddr 0, .retAddr 0] [] τ := by
  intro r
  induction r with
  | zero =>
    intro L τ hL he hf h2
    have := hQ τ hf h2
    rw [he] at this
    exact h_WM_agree_39 ⟨fun _ => this, fun z => absurd (nI_lt (by omega) (by omega)) z⟩
  | succ r ih =>
    intro L τ hL he hf h2
    refine h_WM_agree_39 ⟨fun z => absurd z (nI_nlt (by omega) (by omega)), fun _ => ?_⟩
    refine s_howMany (by omega) ⟨_, rfl, rfl, rfl, ?_⟩
    refine s_first (fun τ2 p1 p2 p3 => ⟨rfl, ?_⟩)
    refine s_agW (σ := σ) (M := M) (f := f) ht ht3 hM hc hk hC (by omega) (fun x hx τ3 q1 q2 => ?_) (fun hx τ3 q1 q2 => ?_) (3 ^ L) 0 τ2 (by omega) rfl (fun _ => p1) (fr1_tr hf p2) (p3.trans h2)
    · have := hQ τ3 q1 q2
      rw [he, agL_some hx] at this
      exact this
    · exact ih (L + 1) τ3 (by omega) (he.trans (agL_none hx)) q1 q2
theorem r_agW {a k N L : Nat} {M : md_T} {f : List Nat → Bool} (ha : a < 3) (hM : md_ok M) (hr : rf_M σ 62 a M) (hR : tkR X (d + 3) 1 k f σ) (hL : L ≤ 5)
    (hY : ∀ x, agW (fun w => tkM M w != f w) L (3 ^ L) 0 = some x → ∀ τ, aw_P σ τ → Q (some (.int (nI x))) τ)
    (hN : agW (fun w => tkM M w != f w) L (3 ^ L) 0 = none → ∀ τ, aw_P σ τ → mv_wf X (mv_wp X (d + 2)) m_Ref_agree Q 34 [.ref 61, .int (nI a), .int (nI k), .int (nI N), .int (nI (L + 1)), .retAddr 0] [] τ) :
    ∀ r i (τ : mv_S), i + 1 + r = 3 ^ L → agW (fun w => tkM M w != f w) L (3 ^ L) 0 = agW (fun w => tkM M w != f w) L (r + 1) i → rwd τ (wl L i) → aw_P σ τ → mv_wf X (mv_wp X (d + 2)) m_Ref_agree Q 49 [.ref 61, .int (nI a), .int (nI k), .int (nI N), .int (nI L), .int 1] [] τ := by
  intro r
  have h3 := p39 (show L ≤ 9 by omega)
  have out : agW (fun w => tkM M w != f w) L (3 ^ L) 0 = none → ∀ τ, aw_P σ τ → mv_wf X (mv_wp X (d + 2)) m_Ref_agree Q 49 [.ref 61, .int (nI a), .int (nI k), .int (nI N), .int (nI L), .int 0] [] τ := by
    intro he τ hf
    refine h_Ref_agree_49 ⟨fun _ => ?_, fun z => absurd rfl z⟩
    rw [nI_1]
    exact hN he τ hf
  have step : ∀ r i (τ : mv_S), i < 3 ^ L → agW (fun w => tkM M w != f w) L (3 ^ L) 0 = agW (fun w => tkM M w != f w) L (r + 1) i → rwd τ (wl L i) → aw_P σ τ → (∀ τ3, agW (fun w => tkM M w != f w) L (3 ^ L) 0 = agW (fun w => tkM M w != f w) L r (i + 1) → rwd τ3 (wl L i) → aw_P σ τ3 → mv_wp X (d + 2) 158 [.ref 61] τ3 (fun r3 σ3 => ∃ v3, r3 = some (.int v3) ∧ (mv_wf X (mv_wp X (d + 2)) m_Ref_agree Q 49 [.ref 61, .int (nI a), .int (nI k), .int (nI N), .int (nI L), .int v3] [] σ3))) → mv_wf X (mv_wp X (d + 2)) m_Ref_agree Q 49 [.ref 61, .int (nI a), .int (nI k), .int (nI N), .int (nI L), .int 1] [] τ := by
    intro r i τ hi he hw hf go
    refine h_Ref_agree_49 ⟨fun z => absurd z (by decide), fun _ => ⟨rfl, ?_⟩⟩
    refine r_takesNow ha hM (aw_rM hf hr) hw (wk_wl i (by omega)) ⟨_, rfl, rfl, ?_⟩
    refine tkR_f hR (aw_smR hf) hw (wk_wl i (by omega)) (fun τ3 p3 => ⟨_, rfl, ?_⟩)
    have w3 := aw_tr hf (aw_F p3)
    by_cases eb : (tkM M (wl L i) != f (wl L i)) = true
    · have e2 : agW (fun w => tkM M w != f w) L (r + 1) i = some (wtn (wl L i) 0) := if_pos eb
      refine ⟨fun z => absurd (bI_ne.mp z) (by rw [eb]; decide), fun _ => ⟨rfl, ?_⟩⟩
      exact r_wordNow (frF_rw p3 hw) (wk_wl i (by omega)) ⟨_, rfl, hY _ (he.trans e2) τ3 w3⟩
    · have e2 : agW (fun w => tkM M w != f w) L (r + 1) i = agW (fun w => tkM M w != f w) L r (i + 1) := if_neg eb
      refine ⟨fun _ => ⟨rfl, ?_⟩, fun z => absurd (bI_ne.mpr (Bool.eq_false_iff.mpr eb)) z⟩
      exact go τ3 (he.trans e2) (frF_rw p3 hw) w3
  induction r with
  | zero =>
    intro i τ hi he hw hf
    refine step 0 i τ (by omega) he hw hf (fun τ3 e3 w3 f3 => ?_)
    refine r_goesToNext (by omega) (by omega) w3 (fun z => absurd z (by omega)) (fun _ τ4 p => ⟨_, rfl, ?_⟩)
    exact out e3 τ4 (aw_tr f3 (aw_W p))
  | succ r ih =>
    intro i τ hi he hw hf
    refine step (r + 1) i τ (by omega) he hw hf (fun τ3 e3 w3 f3 => ?_)
    refine r_goesToNext (by omega) (by omega) w3 (fun _ τ4 p1 p2 => ⟨_, rfl, ?_⟩) (fun z => absurd (show i + 1 < 3 ^ L by omega) z)
    exact ih (i + 1) τ4 (by omega) e3 p1 (aw_tr f3 (aw_W p2))
theorem r_agL {a k N : Nat} {M : md_T} {f : List Nat → Bool} (ha : a < 3) (hM : md_ok M) (hr : rf_M σ 62 a M) (hR : tkR X (d + 3) 1 k f σ) (hN : N ≤ 5)
    (hQ : ∀ τ, aw_P σ τ → Q (some (.int (agA (agL (fun w => tkM M w != f w) (N + 1) 0)))) τ) :
    ∀ r L (τ : mv_S), L + r = N + 1 → agL (fun w => tkM M w != f w) (N + 1) 0 = agL (fun w => tkM M w != f w) r L → aw_P σ τ → mv_wf X (mv_wp X (d + 2)) m_Ref_agree Q 34 [.ref 61, .int (nI a), .int (nI k), .int (nI N), .int (nI L), .retAddr 0] [] τ := by
  intro r
  induction r with
  | zero =>
    intro L τ hL he hf
    have := hQ τ hf
    rw [he] at this
    exact h_Ref_agree_34 ⟨fun _ => this, fun z => absurd (nI_lt (by omega) (by omega)) z⟩
  | succ r ih =>
    intro L τ hL he hf
    refine h_Ref_agree_34 ⟨fun z => absurd z (nI_nlt (by omega) (by omega)), fun _ => ⟨rfl, ?_⟩⟩
    refine r_beginsWords (by omega) (fun τ2 p1 p2 => ⟨rfl, ?_⟩)
    have h3 : 0 < 3 ^ L := Nat.pow_pos (by decide)
    obtain ⟨m, hm⟩ : ∃ m, 3 ^ L = m + 1 := ⟨3 ^ L - 1, by omega⟩
    refine r_agW (σ := σ) (M := M) (f := f) ha hM hr hR (by omega) (fun x hx τ3 q1 => ?_) (fun hx τ3 q1 => ?_) m 0 τ2 (by omega) (by rw [← hm]) p1 (aw_tr hf (aw_W p2))
    · have := hQ τ3 q1
      rw [he, agL_some hx] at this
      exact this
    · exact ih (L + 1) τ3 (by omega) (he.trans (agL_none hx)) q1
theorem op_agree {n q : Nat} {Ms : Nat → md_T} {fs : Nat → List Nat → Bool} {a1 a2 a3 : Int32} (h : iv_M n Ms σ) (hF : iv_Fm X (d + 4) q fs σ) (hF5 : iv_Fm X (d + 5) q fs σ) : lw_op X (d + 5) (aw_P σ) 122 227 [.int a1, .int a2, .int a3] σ := by
  unfold lw_op
  obtain ⟨b1, b2, b3, b4⟩ := h
  obtain ⟨f1, f2, f3, f4⟩ := hF
  refine w_WM_agree ⟨rfl, ?_⟩
  rcases ix_cs a1 n (by omega) with ⟨c1, c2⟩ | ⟨k, hk, rfl, c1⟩
  · rw [s_machineAt_no b2 c1]
    have rf : mv_wp X (d + 5) 227 [.ref 61, .int a1, .int a2, .int a3] σ (fun r2 σ2 => r2 = some (.int (-2)) ∧ aw_P σ σ2) := by
      refine w_Ref_agree ⟨rfl, ?_⟩
      rw [r_isMachine b3 b1, if_neg c2]
      exact ⟨_, rfl, fun _ => ⟨rfl, aw_rf σ⟩, fun z => absurd rfl z⟩
    refine Or.inl ⟨rfl, rfl, ?_⟩
    rcases ix_cs a2 q (by omega) with ⟨g1, g2⟩ | ⟨j, hj, rfl, g1⟩
    · exact s_formulaAt_no f2 g1 (Or.inl ⟨rfl, _, rfl, rf⟩)
    · exact s_formulaAt_ok f2 f1 hj (Or.inr ⟨_, rfl, _, rfl, rf⟩)
  obtain ⟨m1, m2, m3⟩ := b4 k hk
  rw [s_machineAt_ok b2 b1 hk]
  refine Or.inr ⟨_, rfl, rfl, ?_⟩
  rcases ix_cs a2 q (by omega) with ⟨g1, g2⟩ | ⟨j, hj, rfl, g1⟩
  · refine s_formulaAt_no f2 g1 (Or.inl ⟨rfl, _, rfl, ?_⟩)
    refine w_Ref_agree ⟨rfl, ?_⟩
    rw [r_isMachine b3 b1, if_pos c1]
    refine ⟨_, rfl, fun z => absurd z (by decide), fun _ => ⟨rfl, ?_⟩⟩
    refine r_isFormula f3 f1 ?_
    rw [if_neg g2]
    exact ⟨_, rfl, fun _ => ⟨rfl, aw_rf σ⟩, fun z => absurd rfl z⟩
  refine s_formulaAt_ok f2 f1 hj (Or.inr ⟨_, rfl, ?_⟩)
  have rf : ∀ τ v, aw_P σ τ → (¬ (0 ≤ a3.toInt ∧ a3.toInt ≤ 5) → v = -2) → (∀ N, N ≤ 5 → a3 = nI N → v = agA (agL (fun w => tkM (Ms k) w != fs j w) (N + 1) 0)) → mv_wp X (d + 5) 227 [.ref 61, .int (nI k), .int (nI j), .int a3] τ (fun r2 σ2 => r2 = some (.int v) ∧ aw_P σ σ2) := by
    intro τ v hτ hb hg
    have hsT := aw_smT hτ
    refine w_Ref_agree ⟨rfl, ?_⟩
    rw [r_isMachine (hsT.2.2.1.trans b3) b1, if_pos c1]
    refine ⟨_, rfl, fun z => absurd z (by decide), fun _ => ⟨rfl, ?_⟩⟩
    refine r_isFormula (hsT.2.2.2.trans f3) f1 ?_
    rw [if_pos g1]
    refine ⟨_, rfl, fun z => absurd z (by decide), fun _ => ?_⟩
    rw [r_inI (A := 0) (C := 5) rfl rfl]
    by_cases e : 0 ≤ a3.toInt ∧ a3.toInt ≤ 5
    · rw [if_pos e]
      refine ⟨_, rfl, fun _ => ?_, fun z => absurd z (by decide)⟩
      obtain ⟨N, hN, rfl⟩ := (ix_cs2 a3).resolve_left (by omega)
      rw [nI_toInt hN] at e
      rw [hg N (by omega) rfl]
      exact r_agL (σ := σ) (M := Ms k) (f := fs j) (by omega) m1 m3 (hF5.2.2.2 j hj).2 (by omega) (fun τ2 p => ⟨rfl, p⟩) (N + 1) 0 τ (by omega) rfl hτ
    · rw [if_neg e]
      exact ⟨_, rfl, fun z => absurd rfl z, fun _ => ⟨by rw [hb e], hτ⟩⟩
  by_cases e1 : a3.toInt < 0
  · repeat (first
        | (refine And.intro (show mv_sh _ = _ from rfl) ?_)
        | (refine And.intro (show mv_sh _ = _ by assumption) ?_)
        | (refine And.intro (show _ ≤ mv_sh _ from Nat.le_of_ble_eq_true rfl) ?_)
        | (refine And.intro (show _ ≤ mv_sh _ ∧ vp_in _ _ from ⟨Nat.le_of_ble_eq_true rfl, by (first | (simp (disch := omega) only [ln_64, ln_62, ln_87, ln_88, ln_93, ln_94, ln_95, not_true_eq_false, not_false_eq_true, Classical.not_not, ofn, b_z, b_nz, b_z', b_nz', mv_rd, mv_rn, mv_ld, mv_ln_, lit, nI_add, pk_mul, nI_clamp]; exact vp_in_nI (by omega) (by omega)) | (exact vp_in_nI (by omega) (by omega)))⟩) ?_)
        | (refine And.intro (show (_ : Int32) = 0 ∨ (_ : Int32) = 1 from by first | exact Or.inl rfl | exact Or.inr rfl | exact bI_01 _) ?_)
        | (refine And.intro (show mv_sh _ = _ ∧ vp_in _ _ from ⟨rfl, by (first | (simp (disch := omega) only [ln_64, ln_62, ln_87, ln_88, ln_93, ln_94, ln_95, not_true_eq_false, not_false_eq_true, Classical.not_not, ofn, b_z, b_nz, b_z', b_nz', mv_rd, mv_rn, mv_ld, mv_ln_, lit, nI_add, pk_mul, nI_clamp]; exact vp_in_nI (by omega) (by omega)) | (exact vp_in_nI (by omega) (by omega)))⟩) ?_)
        | (refine And.intro (show mv_sh _ = _ ∧ vp_in _ _ from ⟨by assumption, by (first | (simp (disch := omega) only [ln_64, ln_62, ln_87, ln_88, ln_93, ln_94, ln_95, not_true_eq_false, not_false_eq_true, Classical.not_not, ofn, b_z, b_nz, b_z', b_nz', mv_rd, mv_rn, mv_ld, mv_ln_, lit, nI_add, pk_mul, nI_clamp]; exact vp_in_nI (by omega) (by omega)) | (exact vp_in_nI (by omega) (by omega)))⟩) ?_)
        | (refine And.intro (show ¬ (_ : Int32) = 0 by decide) ?_)
        | (refine ⟨_, rfl, ?_⟩)
        | (refine And.intro (show (none : Option Value) = none from rfl) ?_)
        | (refine Or.inl ⟨rfl, ?_⟩)
        | (refine Or.inr ⟨_, rfl, ?_⟩)
        | (refine dt (by (first | assumption | omega | ((try simp (disch := omega) only [not_true_eq_false, not_false_eq_true, Classical.not_not, ofn, b_z, b_nz, b_z', b_nz', mv_rd, mv_rn, mv_ld, mv_ln_, lit, nI_add, pk_mul, nI_clamp]); (try simp (disch := omega) only [fa_lt, fa_le, fa_eq, nI_toInt, pk_sub_toInt, nI_m1, nI_m1', not_false_eq_true, true_and, and_true]); first | done | omega))) ?_)
        | (refine df (by (first | assumption | omega | ((try simp (disch := omega) only [not_true_eq_false, not_false_eq_true, Classical.not_not, ofn, b_z, b_nz, b_z', b_nz', mv_rd, mv_rn, mv_ld, mv_ln_, lit, nI_add, pk_mul, nI_clamp]); (try simp (disch := omega) only [fa_lt, fa_le, fa_eq, nI_toInt, pk_sub_toInt, nI_m1, nI_m1', not_false_eq_true, true_and, and_true]); first | done | omega))) ?_)
        | (refine dt' (by (first | assumption | omega | ((try simp (disch := omega) only [not_true_eq_false, not_false_eq_true, Classical.not_not, ofn, b_z, b_nz, b_z', b_nz', mv_rd, mv_rn, mv_ld, mv_ln_, lit, nI_add, pk_mul, nI_clamp]); (try simp (disch := omega) only [fa_lt, fa_le, fa_eq, nI_toInt, pk_sub_toInt, nI_m1, nI_m1', not_false_eq_true, true_and, and_true]); first | done | omega))) ?_)
        | (refine df' (by (first | assumption | omega | ((try simp (disch := omega) only [not_true_eq_false, not_false_eq_true, Classical.not_not, ofn, b_z, b_nz, b_z', b_nz', mv_rd, mv_rn, mv_ld, mv_ln_, lit, nI_add, pk_mul, nI_clamp]); (try simp (disch := omega) only [fa_lt, fa_le, fa_eq, nI_toInt, pk_sub_toInt, nI_m1, nI_m1', not_false_eq_true, true_and, and_true]); first | done | omega))) ?_)
        )
    exact rf σ _ (aw_rf σ) (fun _ => rfl) (fun N hN e => absurd e1 (by rw [e, nI_toInt (by omega)]; omega))
  by_cases e2 : 5 < a3.toInt
  · repeat (first
        | (refine And.intro (show mv_sh _ = _ from rfl) ?_)
        | (refine And.intro (show mv_sh _ = _ by assumption) ?_)
        | (refine And.intro (show _ ≤ mv_sh _ from Nat.le_of_ble_eq_true rfl) ?_)
        | (refine And.intro (show _ ≤ mv_sh _ ∧ vp_in _ _ from ⟨Nat.le_of_ble_eq_true rfl, by (first | (simp (disch := omega) only [ln_64, ln_62, ln_87, ln_88, ln_93, ln_94, ln_95, not_true_eq_false, not_false_eq_true, Classical.not_not, ofn, b_z, b_nz, b_z', b_nz', mv_rd, mv_rn, mv_ld, mv_ln_, lit, nI_add, pk_mul, nI_clamp]; exact vp_in_nI (by omega) (by omega)) | (exact vp_in_nI (by omega) (by omega)))⟩) ?_)
        | (refine And.intro (show (_ : Int32) = 0 ∨ (_ : Int32) = 1 from by first | exact Or.inl rfl | exact Or.inr rfl | exact bI_01 _) ?_)
        | (refine And.intro (show mv_sh _ = _ ∧ vp_in _ _ from ⟨rfl, by (first | (simp (disch := omega) only [ln_64, ln_62, ln_87, ln_88, ln_93, ln_94, ln_95, not_true_eq_false, not_false_eq_true, Classical.not_not, ofn, b_z, b_nz, b_z', b_nz', mv_rd, mv_rn, mv_ld, mv_ln_, lit, nI_add, pk_mul, nI_clamp]; exact vp_in_nI (by omega) (by omega)) | (exact vp_in_nI (by omega) (by omega)))⟩) ?_)
        | (refine And.intro (show mv_sh _ = _ ∧ vp_in _ _ from ⟨by assumption, by (first | (simp (disch := omega) only [ln_64, ln_62, ln_87, ln_88, ln_93, ln_94, ln_95, not_true_eq_false, not_false_eq_true, Classical.not_not, ofn, b_z, b_nz, b_z', b_nz', mv_rd, mv_rn, mv_ld, mv_ln_, lit, nI_add, pk_mul, nI_clamp]; exact vp_in_nI (by omega) (by omega)) | (exact vp_in_nI (by omega) (by omega)))⟩) ?_)
        | (refine And.intro (show ¬ (_ : Int32) = 0 by decide) ?_)
        | (refine ⟨_, rfl, ?_⟩)
        | (refine And.intro (show (none : Option Value) = none from rfl) ?_)
        | (refine Or.inl ⟨rfl, ?_⟩)
        | (refine Or.inr ⟨_, rfl, ?_⟩)
        | (refine dt (by (first | assumption | omega | ((try simp (disch := omega) only [not_true_eq_false, not_false_eq_true, Classical.not_not, ofn, b_z, b_nz, b_z', b_nz', mv_rd, mv_rn, mv_ld, mv_ln_, lit, nI_add, pk_mul, nI_clamp]); (try simp (disch := omega) only [fa_lt, fa_le, fa_eq, nI_toInt, pk_sub_toInt, nI_m1, nI_m1', not_false_eq_true, true_and, and_true]); first | done | omega))) ?_)
        | (refine df (by (first | assumption | omega | ((try simp (disch := omega) only [not_true_eq_false, not_false_eq_true, Classical.not_not, ofn, b_z, b_nz, b_z', b_nz', mv_rd, mv_rn, mv_ld, mv_ln_, lit, nI_add, pk_mul, nI_clamp]); (try simp (disch := omega) only [fa_lt, fa_le, fa_eq, nI_toInt, pk_sub_toInt, nI_m1, nI_m1', not_false_eq_true, true_and, and_true]); first | done | omega))) ?_)
        | (refine dt' (by (first | assumption | omega | ((try simp (disch := omega) only [not_true_eq_false, not_false_eq_true, Classical.not_not, ofn, b_z, b_nz, b_z', b_nz', mv_rd, mv_rn, mv_ld, mv_ln_, lit, nI_add, pk_mul, nI_clamp]); (try simp (disch := omega) only [fa_lt, fa_le, fa_eq, nI_toInt, pk_sub_toInt, nI_m1, nI_m1', not_false_eq_true, true_and, and_true]); first | done | omega))) ?_)
        | (refine df' (by (first | assumption | omega | ((try simp (disch := omega) only [not_true_eq_false, not_false_eq_true, Classical.not_not, ofn, b_z, b_nz, b_z', b_nz', mv_rd, mv_rn, mv_ld, mv_ln_, lit, nI_add, pk_mul, nI_clamp]); (try simp (disch := omega) only [fa_lt, fa_le, fa_eq, nI_toInt, pk_sub_toInt, nI_m1, nI_m1', not_false_eq_true, true_and, and_true]); first | done | omega))) ?_)
        )
    exact rf σ _ (aw_rf σ) (fun _ => rfl) (fun N hN e => absurd e2 (by rw [e, nI_toInt (by omega)]; omega))
  obtain ⟨N, hN, rfl⟩ := (ix_cs2 a3).resolve_left (by omega)
  rw [nI_toInt hN] at e1 e2
  repeat (first
      | (refine And.intro (show mv_sh _ = _ from rfl) ?_)
      | (refine And.intro (show mv_sh _ = _ by assumption) ?_)
      | (refine And.intro (show _ ≤ mv_sh _ from Nat.le_of_ble_eq_true rfl) ?_)
      | (refine And.intro (show _ ≤ mv_sh _ ∧ vp_in _ _ from ⟨Nat.le_of_ble_eq_true rfl, by (first | (simp (disch := omega) only [ln_64, ln_62, ln_87, ln_88, ln_93, ln_94, ln_95, not_true_eq_false, not_false_eq_true, Classical.not_not, ofn, b_z, b_nz, b_z', b_nz', mv_rd, mv_rn, mv_ld, mv_ln_, lit, nI_add, pk_mul, nI_clamp]; exact vp_in_nI (by omega) (by omega)) | (exact vp_in_nI (by omega) (by omega)))⟩) ?_)
      | (refine And.intro (show (_ : Int32) = 0 ∨ (_ : Int32) = 1 from by first | exact Or.inl rfl | exact Or.inr rfl | exact bI_01 _) ?_)
      | (refine And.intro (show mv_sh _ = _ ∧ vp_in _ _ from ⟨rfl, by (first | (simp (disch := omega) only [ln_64, ln_62, ln_87, ln_88, ln_93, ln_94, ln_95, not_true_eq_false, not_false_eq_true, Classical.not_not, ofn, b_z, b_nz, b_z', b_nz', mv_rd, mv_rn, mv_ld, mv_ln_, lit, nI_add, pk_mul, nI_clamp]; exact vp_in_nI (by omega) (by omega)) | (exact vp_in_nI (by omega) (by omega)))⟩) ?_)
      | (refine And.intro (show mv_sh _ = _ ∧ vp_in _ _ from ⟨by assumption, by (first | (simp (disch := omega) only [ln_64, ln_62, ln_87, ln_88, ln_93, ln_94, ln_95, not_true_eq_false, not_false_eq_true, Classical.not_not, ofn, b_z, b_nz, b_z', b_nz', mv_rd, mv_rn, mv_ld, mv_ln_, lit, nI_add, pk_mul, nI_clamp]; exact vp_in_nI (by omega) (by omega)) | (exact vp_in_nI (by omega) (by omega)))⟩) ?_)
      | (refine And.intro (show ¬ (_ : Int32) = 0 by decide) ?_)
      | (refine ⟨_, rfl, ?_⟩)
      | (refine And.intro (show (none : Option Value) = none from rfl) ?_)
      | (refine Or.inl ⟨rfl, ?_⟩)
      | (refine Or.inr ⟨_, rfl, ?_⟩)
      | (refine dt (by (first | assumption | omega | ((try simp (disch := omega) only [not_true_eq_false, not_false_eq_true, Classical.not_not, ofn, b_z, b_nz, b_z', b_nz', mv_rd, mv_rn, mv_ld, mv_ln_, lit, nI_add, pk_mul, nI_clamp]); (try simp (disch := omega) only [fa_lt, fa_le, fa_eq, nI_toInt, pk_sub_toInt, nI_m1, nI_m1', not_false_eq_true, true_and, and_true]); first | done | omega))) ?_)
      | (refine df (by (first | assumption | omega | ((try simp (disch := omega) only [not_true_eq_false, not_false_eq_true, Classical.not_not, ofn, b_z, b_nz, b_z', b_nz', mv_rd, mv_rn, mv_ld, mv_ln_, lit, nI_add, pk_mul, nI_clamp]); (try simp (disch := omega) only [fa_lt, fa_le, fa_eq, nI_toInt, pk_sub_toInt, nI_m1, nI_m1', not_false_eq_true, true_and, and_true]); first | done | omega))) ?_)
      | (refine dt' (by (first | assumption | omega | ((try simp (disch := omega) only [not_true_eq_false, not_false_eq_true, Classical.not_not, ofn, b_z, b_nz, b_z', b_nz', mv_rd, mv_rn, mv_ld, mv_ln_, lit, nI_add, pk_mul, nI_clamp]); (try simp (disch := omega) only [fa_lt, fa_le, fa_eq, nI_toInt, pk_sub_toInt, nI_m1, nI_m1', not_false_eq_true, true_and, and_true]); first | done | omega))) ?_)
      | (refine df' (by (first | assumption | omega | ((try simp (disch := omega) only [not_true_eq_false, not_false_eq_true, Classical.not_not, ofn, b_z, b_nz, b_z', b_nz', mv_rd, mv_rn, mv_ld, mv_ln_, lit, nI_add, pk_mul, nI_clamp]); (try simp (disch := omega) only [fa_lt, fa_le, fa_eq, nI_toInt, pk_sub_toInt, nI_m1, nI_m1', not_false_eq_true, true_and, and_true]); first | done | omega))) ?_)
      )
  refine s_agL (σ := σ) (M := Ms k) (f := fs j) (mc_now k (by omega)).1 (by omega) m1 m2 (by omega) (f4 j hj).1 (by omega) (fun τ p1 p2 => ⟨_, rfl, ?_⟩) (N + 1) 0 σ (by omega) rfl (fun _ _ _ => rfl) rfl
  refine rf τ _ (aw_10 p1 p2) (fun z => absurd ⟨by rw [nI_toInt hN]; omega, by rw [nI_toInt hN]; omega⟩ z) (fun N' hN' e => ?_)
  rw [(nI_eq hN (by omega)).mp e]
theorem op_says {q : Nat} {fs : Nat → List Nat → Bool} {a1 a2 : Int32} (hF : iv_Fm X (d + 4) q fs σ) (hF5 : iv_Fm X (d + 5) q fs σ) : lw_op X (d + 5) (aw_P σ) 120 223 [.int a1, .int a2] σ := by
  unfold lw_op
  obtain ⟨f1, f2, f3, f4⟩ := hF
  refine (w_WM_says _ _ _ _ _ _).mpr ⟨rfl, ?_⟩
  rcases ix_cs a1 q (by omega) with ⟨g1, g2⟩ | ⟨j, hj, rfl, g1⟩
  · refine s_formulaAt_no f2 g1 (Or.inl ⟨rfl, _, rfl, ?_⟩)
    refine (w_Ref_says _ _ _ _ _ _).mpr ⟨rfl, ?_⟩
    refine r_isFormula f3 f1 ?_
    rw [if_neg g2]
    exact ⟨_, rfl, fun _ => ⟨rfl, aw_rf σ⟩, fun z => absurd rfl z⟩
  refine s_formulaAt_ok f2 f1 hj (Or.inr ⟨_, rfl, rfl, rfl, ?_⟩)
  have rf0 : ∀ τ (Q : mv_Q), aw_P σ τ → mv_wp X (d + 4) 156 [.ref 61, .int a2] τ (fun r2 σ2 => ∃ v2, r2 = some (.int v2) ∧ ((v2 = 0 → Q (some (.int (-2))) σ2) ∧ (¬ v2 = 0 → mv_sh 61 = 12 ∧ mv_wp X (d + 4) 220 [.ref 61, .int (nI j)] σ2 (fun r3 σ3 => ∃ v3, r3 = some (.int v3) ∧ (mv_wp X (d + 4) 148 [.int v3] σ3 (fun r4 σ4 => ∃ v4, r4 = some (.int v4) ∧ (Q (some (.int v4)) σ4)))))))
      → mv_wp X (d + 5) 223 [.ref 61, .int (nI j), .int a2] τ Q := by
    intro τ Q hτ hh
    refine (w_Ref_says _ _ _ _ _ _).mpr ⟨rfl, ?_⟩
    refine r_isFormula ((aw_smT hτ).2.2.2.trans f3) f1 ?_
    rw [if_pos g1]
    exact ⟨_, rfl, fun z => absurd z (by decide), fun _ => ⟨rfl, hh⟩⟩
  rcases ix_cs2 a2 with e | ⟨x, hx, rfl⟩
  · refine s_read_neg e ⟨_, rfl, fun z => absurd rfl z, fun _ => ⟨_, rfl, rf0 σ _ (aw_rf σ) ?_⟩⟩
    exact r_isWord_neg e ⟨_, rfl, fun _ => ⟨rfl, aw_rf σ⟩, fun z => absurd rfl z⟩
  by_cases hw : wis 9 x = true
  · refine s_read_y hx hw (fun τ q1 q2 q3 => ⟨_, rfl, fun _ => ⟨rfl, ?_⟩, fun z => absurd z (by decide)⟩)
    have w1 := aw_10 q2 q3
    refine tkC_f (by omega) (f4 j hj).1 (fr10_sm q2 (by omega)) q1 (wk_n hw) ⟨_, rfl, ?_⟩
    have rf : mv_wp X (d + 5) 223 [.ref 61, .int (nI j), .int (nI x)] τ (fun r2 σ2 => r2 = some (.int (if fs j (wls 9 x) = true then 1 else 0)) ∧ aw_P σ σ2) := by
      refine rf0 τ _ w1 ?_
      refine r_isWord_y hx hw (fun τ2 p1 p2 => ⟨_, rfl, fun z => absurd z (by decide), fun _ => ⟨rfl, ?_⟩⟩)
      have w2 := aw_tr w1 (aw_W p2)
      refine tkR_f (hF5.2.2.2 j hj).2 (aw_smR w2) p1 (wk_n hw) (fun τ3 p3 => ⟨_, rfl, ?_⟩)
      exact r_bit.mpr ⟨_, rfl, rfl, aw_tr w2 (aw_F p3)⟩
    by_cases ht : fs j (wls 9 x) = true
    · rw [if_pos ht] at rf ⊢
      exact ⟨fun z => absurd z (by decide), fun _ => ⟨_, rfl, rf⟩⟩
    · rw [if_neg ht] at rf ⊢
      exact ⟨fun _ => ⟨_, rfl, rf⟩, fun z => absurd rfl z⟩
  · have hw := Bool.eq_false_iff.mpr hw
    refine s_read_n hx hw ⟨_, rfl, fun z => absurd rfl z, fun _ => ⟨_, rfl, rf0 σ _ (aw_rf σ) ?_⟩⟩
    exact r_isWord_n hx hw (fun τ p => ⟨_, rfl, fun _ => ⟨rfl, aw_W p⟩, fun z => absurd rfl z⟩)
end AGREE
