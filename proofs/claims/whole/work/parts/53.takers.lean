/-! ===== what takes words, of either sort; many, agree ===== -/
def frF (σ τ : mv_S) : Prop := (∀ c j, ¬ (c = 61 ∧ 44 ≤ j ∧ j ≤ 49) → ¬ c = 90 → ¬ c = 92 → τ.1 c j = σ.1 c j) ∧ τ.2 = σ.2
theorem aw_F {σ τ : mv_S} (h : frF σ τ) : aw_P σ τ := ⟨fun c j hc => h.1 c j (fun z => hc (by unfold scW; omega)) (fun z => hc (by unfold scW; omega)) (fun z => hc (by unfold scW; omega)), h.2⟩
theorem frF_rw {σ τ : mv_S} {w : List Nat} (h : frF σ τ) (hw : rwd σ w) : rwd τ w := rwd_fr hw (h.1 _ _ (by omega) (by omega) (by omega)) (fun k => h.1 _ _ (by omega) (by omega) (by omega))
def tkC (X : mv_X) (D t : Nat) (tk : List Nat → Bool) (σ : mv_S) : Prop := ∀ (τ : mv_S) (w : List Nat) (Q : mv_Q), (∀ j, τ.1 t j = σ.1 t j ∧ τ.1 (t + 1) j = σ.1 (t + 1) j) → cw τ w → wk w → Q (some (.int (if tk w = true then 1 else 0))) τ → (mv_sh t = 4 ∧ mv_wp X D 16 [.ref t, .ref 10] τ Q) ∨ (mv_sh t = 0 ∧ mv_wp X D 26 [.ref t, .ref 10] τ Q)
def sm_R (σ τ : mv_S) : Prop := ∀ j, τ.1 62 j = σ.1 62 j ∧ τ.1 87 j = σ.1 87 j ∧ τ.1 88 j = σ.1 88 j
def tkR (X : mv_X) (D s k : Nat) (tk : List Nat → Bool) (σ : mv_S) : Prop := ∀ (τ : mv_S) (w : List Nat) (Q : mv_Q), sm_R σ τ → rwd τ w → wk w → (∀ τ', frF τ τ' → Q (some (.int (if tk w = true then 1 else 0))) τ') → mv_wp X D 225 [.ref 61, .int (nI s), .int (nI k)] τ Q
theorem aw_smR {σ τ : mv_S} (h : aw_P σ τ) : sm_R σ τ := fun j => ⟨h.1 _ _ (by unfold scW; omega), h.1 _ _ (by unfold scW; omega), h.1 _ _ (by unfold scW; omega)⟩
theorem p39 {n : Nat} (h : n ≤ 9) : 3 ^ n ≤ 19683 := Nat.le_trans (Nat.pow_le_pow_right (by decide) h) (by decide)
section TAKERS
variable {X : mv_X} {d : Nat} {σ : mv_S} {Q : mv_Q}
theorem tkC_M {t : Nat} {M : md_T} (ht : mc_at t) (hM : md_ok M) (hc : cl_M σ t M) : tkC X (d + 2) t (tkM M) σ := by
  intro τ w Q hs hw hk hQ
  exact Or.inl ⟨ht.1, s_accepts ht hM ⟨(hs 1).1.trans hc.1, (hs 2).1.trans hc.2.1, (hs 3).1.trans hc.2.2.1, fun j hj => (hs j).2.trans (hc.2.2.2 j hj)⟩ hw hk hQ⟩
theorem tkR_M {k : Nat} {M : md_T} (hk : k < 3) (hM : md_ok M) (hr : rf_M σ 62 k M) : tkR X (d + 3) 0 k (tkM M) σ := by
  intro τ w Q hs hw ok hQ
  refine (w_Ref_saysOf _ _ _ _ _ _).mpr ⟨fun z => absurd rfl z, fun _ => ⟨rfl, ?_⟩⟩
  exact r_takesNow hk hM ⟨(hs _).1.trans hr.1, (hs _).1.trans hr.2.1, (hs _).1.trans hr.2.2.1, fun j hj => (hs _).1.trans (hr.2.2.2 j hj)⟩ hw ok ⟨_, rfl, bI_01 _, hQ τ ⟨fun _ _ _ _ _ => rfl, rfl⟩⟩
def sm_T (σ τ : mv_S) : Prop := τ.1 0 10 = σ.1 0 10 ∧ τ.1 0 12 = σ.1 0 12 ∧ τ.1 61 1 = σ.1 61 1 ∧ τ.1 61 41 = σ.1 61 41
theorem aw_smT {σ τ : mv_S} (h : aw_P σ τ) : sm_T σ τ := ⟨h.1 _ _ (by unfold scW; omega), h.1 _ _ (by unfold scW; omega), h.1 _ _ (by unfold scW; omega), h.1 _ _ (by unfold scW; omega)⟩
/-- formulas, as takers -/
def iv_Fm (X : mv_X) (D q : Nat) (fs : Nat → List Nat → Bool) (σ : mv_S) : Prop := q ≤ 4 ∧ σ.1 0 12 = nI q ∧ σ.1 61 41 = nI q ∧ ∀ k, k < q → tkC X D (45 + 2 * k) (fs k) σ ∧ tkR X D 1 k (fs k) σ
theorem fm_at : ∀ k, k < 4 → mv_sh (45 + 2 * k) = 0 ∧ mv_rf 3 k = 45 + 2 * k ∧ mv_rf (45 + 2 * k) 0 = 45 + 2 * k + 1 ∧ mv_sh (45 + 2 * k + 1) = 20 ∧ mv_ln (45 + 2 * k + 1) = 60 := by decide
theorem s_formulaAt_ok {q k : Nat} (h : σ.1 0 12 = nI q) (hq : q ≤ 4) (hk : k < q) (hQ : Q (some (.ref (45 + 2 * k))) σ) : mv_wp X (d + 1) 136 [.ref 0, .int (nI k)] σ Q := by
  refine (w_WM_formulaAt _ _ _ _ _).mpr ?_
  have h1 : ¬ nI k < 0 := nI_pos (by omega)
  have h2 : ¬ nI q ≤ nI k := nI_ge hk (by omega)
  have h3 : ¬ (4 : Int32) ≤ nI k := nI_ge (b := 4) (by omega) (by omega)
  have h4 : vp_in (nI k) (mv_ln 3) := vp_in_nI (N := 4) (by omega) (by omega)
  rw [h, nI_clamp (by omega), (fm_at k (by omega)).2.1]
  exact ⟨fun z => absurd z h1, fun _ => ⟨rfl, fun z => absurd z h2, fun _ => ⟨fun z => absurd z h3, fun _ => ⟨rfl, ⟨by decide, h4⟩, hQ⟩⟩⟩⟩
theorem s_formulaAt_no {q : Nat} {x : Int32} (h : σ.1 0 12 = nI q) (hx : x < 0 ∨ nI q ≤ x) (hQ : Q (some .null) σ) : mv_wp X (d + 1) 136 [.ref 0, .int x] σ Q := by
  refine (w_WM_formulaAt _ _ _ _ _).mpr ?_
  rw [h]
  by_cases h1 : x < 0
  · exact ⟨fun _ => hQ, fun z => absurd h1 z⟩
  · have h2 := hx.resolve_left h1
    exact ⟨fun z => absurd z h1, fun _ => ⟨rfl, fun _ => hQ, fun z => absurd h2 z⟩⟩
theorem r_isFormula {q : Nat} {x : Int32} (h : σ.1 61 41 = nI q) (hq : q ≤ 4) (hQ : Q (some (.int (if 0 ≤ x.toInt ∧ x.toInt ≤ (q : Int) - 1 then 1 else 0))) σ) : mv_wp X (d + 2) 219 [.ref 61, .int x] σ Q := by
  refine (w_Ref_isFormula _ _ _ _ _).mpr ⟨rfl, ?_⟩
  rw [h, r_inI rfl (pt_l (by omega))]
  exact ⟨_, rfl, bI_01 _, hQ⟩
/-- which sort and number name what -/
def tk_no (X : mv_X) (σ : mv_S) (a1 a2 : Int32) : Prop := (∀ (d : Nat) (τ : mv_S) (Q : mv_Q), sm_T σ τ → Q (some .null) τ → mv_wp X (d + 2) 138 [.ref 0, .int a1, .int a2] τ Q) ∧ (∀ (d : Nat) (τ : mv_S) (Q : mv_Q), sm_T σ τ → Q (some (.int 0)) τ → mv_wp X (d + 3) 224 [.ref 61, .int a1, .int a2] τ Q)
def tk_ok (X : mv_X) (D : Nat) (σ : mv_S) (a1 a2 : Int32) : Prop := ∃ (s k t : Nat) (tk : List Nat → Bool), a1 = nI s ∧ a2 = nI k ∧ 33 ≤ t ∧ t < 52 ∧ tkC X D t tk σ ∧ tkR X D s k tk σ ∧ (∀ (d : Nat) (τ : mv_S) (Q : mv_Q), sm_T σ τ → Q (some (.ref t)) τ → mv_wp X (d + 2) 138 [.ref 0, .int a1, .int a2] τ Q) ∧ (∀ (d : Nat) (τ : mv_S) (Q : mv_Q), sm_T σ τ → Q (some (.int 1)) τ → mv_wp X (d + 3) 224 [.ref 61, .int a1, .int a2] τ Q)
theorem tk_cs {n q : Nat} {Ms : Nat → md_T} {fs : Nat → List Nat → Bool} (h : iv_M n Ms σ) (hF : iv_Fm X (d + 3) q fs σ) (a1 a2 : Int32) : tk_no X σ a1 a2 ∨ tk_ok X (d + 3) σ a1 a2 := by
  obtain ⟨b1, b2, b3, b4⟩ := h
  obtain ⟨f1, f2, f3, f4⟩ := hF
  by_cases e0 : a1 = 0
  · subst e0
    rcases ix_cs a2 n (by omega) with ⟨c1, c2⟩ | ⟨k, hk, rfl, c1⟩
    · refine Or.inl ⟨fun d τ Q hs hQ => ?_, fun d τ Q hs hQ => ?_⟩
      · refine (w_WM_takerAt _ _ _ _ _ _).mpr ⟨fun z => absurd rfl z, fun _ => ⟨rfl, ?_⟩⟩
        exact (s_machineAt_no (hs.1.trans b2) c1).mpr (Or.inl ⟨rfl, hQ⟩)
      · refine (w_Ref_isAsked _ _ _ _ _ _).mpr ⟨fun z => absurd rfl z, fun _ => ⟨rfl, ?_⟩⟩
        rw [r_isMachine (hs.2.2.1.trans b3) b1, if_neg c2]
        exact ⟨_, rfl, Or.inl rfl, hQ⟩
    · obtain ⟨m1, m2, m3⟩ := b4 k hk
      refine Or.inr ⟨0, k, 33 + 4 * k, tkM (Ms k), rfl, rfl, by omega, by omega, tkC_M (d := d + 1) (mc_now k (by omega)).1 m1 m2, tkR_M (by omega) m1 m3, fun d τ Q hs hQ => ?_, fun d τ Q hs hQ => ?_⟩
      · refine (w_WM_takerAt _ _ _ _ _ _).mpr ⟨fun z => absurd rfl z, fun _ => ⟨rfl, ?_⟩⟩
        exact (s_machineAt_ok (hs.1.trans b2) b1 hk).mpr (Or.inr ⟨_, rfl, hQ⟩)
      · refine (w_Ref_isAsked _ _ _ _ _ _).mpr ⟨fun z => absurd rfl z, fun _ => ⟨rfl, ?_⟩⟩
        rw [r_isMachine (hs.2.2.1.trans b3) b1, if_pos c1]
        exact ⟨_, rfl, Or.inr rfl, hQ⟩
  by_cases e1 : a1 = 1
  · subst e1
    rcases ix_cs a2 q (by omega) with ⟨c1, c2⟩ | ⟨k, hk, rfl, c1⟩
    · refine Or.inl ⟨fun d τ Q hs hQ => ?_, fun d τ Q hs hQ => ?_⟩
      · refine (w_WM_takerAt _ _ _ _ _ _).mpr ⟨fun _ => ⟨fun z => absurd rfl z, fun _ => ⟨rfl, ?_⟩⟩, fun z => absurd z (by decide)⟩
        exact s_formulaAt_no (hs.2.1.trans f2) c1 (Or.inl ⟨rfl, hQ⟩)
      · refine (w_Ref_isAsked _ _ _ _ _ _).mpr ⟨fun _ => ⟨fun z => absurd rfl z, fun _ => ⟨rfl, ?_⟩⟩, fun z => absurd z (by decide)⟩
        refine r_isFormula (hs.2.2.2.trans f3) f1 ?_
        rw [if_neg c2]
        exact ⟨_, rfl, fun _ => ⟨Or.inl rfl, hQ⟩, fun z => absurd rfl z⟩
    · obtain ⟨g1, g2⟩ := f4 k hk
      refine Or.inr ⟨1, k, 45 + 2 * k, fs k, rfl, rfl, by omega, by omega, g1, g2, fun d τ Q hs hQ => ?_, fun d τ Q hs hQ => ?_⟩
      · refine (w_WM_takerAt _ _ _ _ _ _).mpr ⟨fun _ => ⟨fun z => absurd rfl z, fun _ => ⟨rfl, ?_⟩⟩, fun z => absurd z (by decide)⟩
        exact s_formulaAt_ok (hs.2.1.trans f2) f1 hk (Or.inr ⟨_, rfl, hQ⟩)
      · refine (w_Ref_isAsked _ _ _ _ _ _).mpr ⟨fun _ => ⟨fun z => absurd rfl z, fun _ => ⟨rfl, ?_⟩⟩, fun z => absurd z (by decide)⟩
        refine r_isFormula (hs.2.2.2.trans f3) f1 ?_
        rw [if_pos c1]
        exact ⟨_, rfl, fun z => absurd z (by decide), fun _ => ⟨Or.inr rfl, hQ⟩⟩
  refine Or.inl ⟨fun d τ Q hs hQ => ?_, fun d τ Q hs hQ => ?_⟩
  · exact (w_WM_takerAt _ _ _ _ _ _).mpr ⟨fun _ => ⟨fun _ => hQ, fun z => absurd z e1⟩, fun z => absurd z e0⟩
  · exact (w_Ref_isAsked _ _ _ _ _ _).mpr ⟨fun _ => ⟨fun _ => ⟨Or.inl rfl, hQ⟩, fun z => absurd z e1⟩, fun z => absurd z e0⟩
theorem fr10_sm {τ : mv_S} {t : Nat} (h : fr1 10 σ τ) (h1 : 33 ≤ t) : ∀ j, τ.1 t j = σ.1 t j ∧ τ.1 (t + 1) j = σ.1 (t + 1) j := fun j => ⟨h _ _ (by omega), h _ _ (by omega)⟩
theorem fr1_tr {n : Nat} {a b c : mv_S} (h : fr1 n a b) (g : fr1 n b c) : fr1 n a c := fun x j hx => (g x j hx).trans (h x j hx)
theorem s_manyL {t N : Nat} {tk : List Nat → Bool} (ht : 33 ≤ t) (hC : tkC X (d + 1) t tk σ) (hN : N ≤ 9) (hQ : ∀ τ, fr1 10 σ τ → τ.2 = σ.2 → Q (some (.int (nI (fa_cnt (fun k => tk (wl N k)) (3 ^ N))))) τ) :
    ∀ r k (τ : mv_S), k + r = 3 ^ N → (k < 3 ^ N → cw τ (wl N k)) → fr1 10 σ τ → τ.2 = σ.2 → mv_wf X (mv_wp X (d + 1)) m_WM_many Q 46 [.ref 0, .retAddr 0, .retAddr 0, .retAddr 0, .ref t, .int (nI (3 ^ N)), .int (nI (fa_cnt (fun k => tk (wl N k)) k)), .int (nI k)] [] τ := by
  intro r
  have h3 := p39 hN
  induction r with
  | zero =>
    intro k τ hk hw hf h2
    obtain rfl : k = 3 ^ N := by omega
    exact h_WM_many_46 ⟨fun _ => hQ τ hf h2, fun z => absurd (nI_le (Nat.le_refl _) (by omega)) z⟩
  | succ r ih =>
    intro k τ hk hw hf h2
    refine h_WM_many_46 ⟨fun z => absurd z (nI_ge (by omega) (by omega)), fun _ => ⟨rfl, ?_⟩⟩
    refine hC τ (wl N k) _ (fr10_sm hf ht) (hw (by omega)) (wk_wl k hN) ⟨_, rfl, ?_⟩
    have e : fa_cnt (fun k => tk (wl N k)) (k + 1) = fa_cnt (fun k => tk (wl N k)) k + if tk (wl N k) = true then 1 else 0 := rfl
    by_cases eb : tk (wl N k) = true
    · rw [if_pos eb] at e ⊢
      refine ⟨fun z => absurd z (by decide), fun _ => ⟨rfl, rfl, ?_⟩⟩
      refine s_advance hN (by omega) (hw (by omega)) (fun τ2 p1 p2 p3 => ⟨rfl, ?_⟩)
      have := ih (k + 1) τ2 (by omega) p1 (fr1_tr hf p2) (p3.trans h2)
      rw [nI_1, nI_1]
      rw [e] at this
      exact this
    · rw [if_neg eb] at e ⊢
      refine ⟨fun _ => ⟨rfl, rfl, ?_⟩, fun z => absurd rfl z⟩
      refine s_advance hN (by omega) (hw (by omega)) (fun τ2 p1 p2 p3 => ⟨rfl, ?_⟩)
      have := ih (k + 1) τ2 (by omega) p1 (fr1_tr hf p2) (p3.trans h2)
      rw [nI_1]
      rw [e] at this
      exact this
theorem r_manyL {s a N : Nat} {tk : List Nat → Bool} (hR : tkR X (d + 1) s a tk σ) (hN : N ≤ 9) (hQ : ∀ τ, aw_P σ τ → Q (some (.int (nI (fa_cnt (fun k => tk (wl N k)) (3 ^ N))))) τ) :
    ∀ r k (τ : mv_S), k + 1 + r = 3 ^ N → rwd τ (wl N k) → aw_P σ τ → mv_wf X (mv_wp X (d + 1)) m_Ref_many Q 40 [.ref 61, .int (nI s), .int (nI a), .retAddr 0, .int (nI (fa_cnt (fun k => tk (wl N k)) (k + 1)))] [] τ := by
  intro r
  induction r with
  | zero =>
    intro k τ hk hw hf
    refine h_Ref_many_40 ⟨rfl, ?_⟩
    refine r_goesToNext hN (by omega) hw (fun z => absurd z (by omega)) (fun _ τ2 p => ⟨_, rfl, fun _ => ?_, fun z => absurd rfl z⟩)
    have := hQ τ2 (aw_tr hf (aw_W p))
    rw [show k + 1 = 3 ^ N by omega]
    exact this
  | succ r ih =>
    intro k τ hk hw hf
    refine h_Ref_many_40 ⟨rfl, ?_⟩
    refine r_goesToNext hN (by omega) hw (fun _ τ2 p1 p2 => ⟨_, rfl, fun z => absurd z (by decide), fun _ => ⟨rfl, ?_⟩⟩) (fun z => absurd (show k + 1 < 3 ^ N by omega) z)
    have w2 := aw_tr hf (aw_W p2)
    refine hR τ2 _ _ (aw_smR w2) p1 (wk_wl _ hN) (fun τ3 p3 => ⟨_, rfl, ?_⟩)
    refine r_bit.mpr ⟨_, rfl, ?_⟩
    have e : fa_cnt (fun k => tk (wl N k)) (k + 1 + 1) = fa_cnt (fun k => tk (wl N k)) (k + 1) + if tk (wl N (k + 1)) = true then 1 else 0 := rfl
    have := ih (k + 1) τ3 (by omega) (frF_rw p3 p1) (aw_tr w2 (aw_F p3))
    by_cases eb : tk (wl N (k + 1)) = true
    · rw [if_pos eb] at e ⊢
      rw [show (1 : Int32) = nI 1 from rfl, nI_add]
      rw [e] at this
      exact this
    · rw [if_neg eb] at e ⊢
      rw [show (0 : Int32) = nI 0 from rfl, nI_add]
      rw [e] at this
      exact this
theorem op_many {n q : Nat} {Ms : Nat → md_T} {fs : Nat → List Nat → Bool} {a1 a2 a3 : Int32} (h : iv_M n Ms σ) (hF : iv_Fm X (d + 4) q fs σ) : lw_op X (d + 5) (aw_P σ) 121 226 [.int a1, .int a2, .int a3] σ := by
  unfold lw_op
  have self : sm_T σ σ := aw_smT (aw_rf σ)
  rcases tk_cs (d := d + 1) h hF a1 a2 with ⟨g1, g2⟩ | ⟨s, k, t, tk, rfl, rfl, ht1, ht2, hC, hR, g1, g2⟩
  · refine w_WM_many ⟨rfl, g1 (d + 2) _ _ self (Or.inl ⟨rfl, _, rfl, ?_⟩)⟩
    exact w_Ref_many ⟨rfl, g2 (d + 1) _ _ self ⟨_, rfl, fun _ => ⟨rfl, aw_rf σ⟩, fun z => absurd rfl z⟩⟩
  have bad : ¬ (0 ≤ a3.toInt ∧ a3.toInt ≤ 9) → mv_wp X (d + 5) 226 [.ref 61, .int (nI s), .int (nI k), .int a3] σ (fun r2 σ2 => r2 = some (.int (-2)) ∧ aw_P σ σ2) := by
    intro hb
    refine w_Ref_many ⟨rfl, g2 (d + 1) _ _ self ⟨_, rfl, fun z => absurd z (by decide), fun _ => ?_⟩⟩
    rw [r_inI (A := 0) (C := 9) rfl rfl, if_neg hb]
    exact ⟨_, rfl, fun z => absurd rfl z, fun _ => ⟨rfl, aw_rf σ⟩⟩
  refine w_WM_many ⟨rfl, g1 (d + 2) _ _ self (Or.inr ⟨_, rfl, ?_⟩)⟩
  by_cases e1 : a3.toInt < 0
  · repeat (first
        | (refine And.intro (show mv_sh _ = _ from rfl) ?_)
        | (refine And.intro (show mv_sh _ = _ by assumption) ?_)
        | (refine And.intro (show _ ≤ mv_sh _ from Nat.le_of_ble_eq_true rfl) ?_)
        | (refine And.intro (show _ ≤ mv_sh _ ∧ vp_in _ _ from ⟨Nat.le_of_ble_eq_true rfl, by (first | (simp (disch := omega) only [ln_64, ln_62, ln_87, ln_88, not_true_eq_false, not_false_eq_true, Classical.not_not, ofn, b_z, b_nz, b_z', b_nz', mv_rd, mv_rn, mv_ld, mv_ln_, lit, nI_add, pk_mul, nI_clamp]; exact vp_in_nI (by omega) (by omega)) | (exact vp_in_nI (by omega) (by omega)))⟩) ?_)
        | (refine And.intro (show (_ : Int32) = 0 ∨ (_ : Int32) = 1 from by first | exact Or.inl rfl | exact Or.inr rfl | exact bI_01 _) ?_)
        | (refine And.intro (show mv_sh _ = _ ∧ vp_in _ _ from ⟨rfl, by (first | (simp (disch := omega) only [ln_64, ln_62, ln_87, ln_88, not_true_eq_false, not_false_eq_true, Classical.not_not, ofn, b_z, b_nz, b_z', b_nz', mv_rd, mv_rn, mv_ld, mv_ln_, lit, nI_add, pk_mul, nI_clamp]; exact vp_in_nI (by omega) (by omega)) | (exact vp_in_nI (by omega) (by omega)))⟩) ?_)
        | (refine And.intro (show mv_sh _ = _ ∧ vp_in _ _ from ⟨by assumption, by (first | (simp (disch := omega) only [ln_64, ln_62, ln_87, ln_88, not_true_eq_false, not_false_eq_true, Classical.not_not, ofn, b_z, b_nz, b_z', b_nz', mv_rd, mv_rn, mv_ld, mv_ln_, lit, nI_add, pk_mul, nI_clamp]; exact vp_in_nI (by omega) (by omega)) | (exact vp_in_nI (by omega) (by omega)))⟩) ?_)
        | (refine And.intro (show ¬ (_ : Int32) = 0 by decide) ?_)
        | (refine ⟨_, rfl, ?_⟩)
        | (refine And.intro (show (none : Option Value) = none from rfl) ?_)
        | (refine Or.inl ⟨rfl, ?_⟩)
        | (refine Or.inr ⟨_, rfl, ?_⟩)
        | (refine dt (by (first | assumption | omega | ((try simp (disch := omega) only [not_true_eq_false, not_false_eq_true, Classical.not_not, ofn, b_z, b_nz, b_z', b_nz', mv_rd, mv_rn, mv_ld, mv_ln_, lit, nI_add, pk_mul, nI_clamp]); (try simp (disch := omega) only [fa_lt, fa_le, fa_eq, nI_toInt, pk_sub_toInt, nI_m1, nI_m1', not_false_eq_true, true_and, and_true]); first | done | omega))) ?_)
        | (refine df (by (first | assumption | omega | ((try simp (disch := omega) only [not_true_eq_false, not_false_eq_true, Classical.not_not, ofn, b_z, b_nz, b_z', b_nz', mv_rd, mv_rn, mv_ld, mv_ln_, lit, nI_add, pk_mul, nI_clamp]); (try simp (disch := omega) only [fa_lt, fa_le, fa_eq, nI_toInt, pk_sub_toInt, nI_m1, nI_m1', not_false_eq_true, true_and, and_true]); first | done | omega))) ?_)
        | (refine dt' (by (first | assumption | omega | ((try simp (disch := omega) only [not_true_eq_false, not_false_eq_true, Classical.not_not, ofn, b_z, b_nz, b_z', b_nz', mv_rd, mv_rn, mv_ld, mv_ln_, lit, nI_add, pk_mul, nI_clamp]); (try simp (disch := omega) only [fa_lt, fa_le, fa_eq, nI_toInt, pk_sub_toInt, nI_m1, nI_m1', not_false_eq_true, true_and, and_true]); first | done | omega))) ?_)
        | (refine df' (by (first | assumption | omega | ((try simp (disch := omega) only [not_true_eq_false, not_false_eq_true, Classical.not_not, ofn, b_z, b_nz, b_z', b_nz', mv_rd, mv_rn, mv_ld, mv_ln_, lit, nI_add, pk_mul, nI_clamp]); (try simp (disch := omega) only [fa_lt, fa_le, fa_eq, nI_toInt, pk_sub_toInt, nI_m1, nI_m1', not_false_eq_true, true_and, and_true]); first | done | omega))) ?_)
        )
    exact bad (by omega)
  by_cases e2 : 9 < a3.toInt
  · repeat (first
        | (refine And.intro (show mv_sh _ = _ from rfl) ?_)
        | (refine And.intro (show mv_sh _ = _ by assumption) ?_)
        | (refine And.intro (show _ ≤ mv_sh _ from Nat.le_of_ble_eq_true rfl) ?_)
        | (refine And.intro (show _ ≤ mv_sh _ ∧ vp_in _ _ from ⟨Nat.le_of_ble_eq_true rfl, by (first | (simp (disch := omega) only [ln_64, ln_62, ln_87, ln_88, not_true_eq_false, not_false_eq_true, Classical.not_not, ofn, b_z, b_nz, b_z', b_nz', mv_rd, mv_rn, mv_ld, mv_ln_, lit, nI_add, pk_mul, nI_clamp]; exact vp_in_nI (by omega) (by omega)) | (exact vp_in_nI (by omega) (by omega)))⟩) ?_)
        | (refine And.intro (show (_ : Int32) = 0 ∨ (_ : Int32) = 1 from by first | exact Or.inl rfl | exact Or.inr rfl | exact bI_01 _) ?_)
        | (refine And.intro (show mv_sh _ = _ ∧ vp_in _ _ from ⟨rfl, by (first | (simp (disch := omega) only [ln_64, ln_62, ln_87, ln_88, not_true_eq_false, not_false_eq_true, Classical.not_not, ofn, b_z, b_nz, b_z', b_nz', mv_rd, mv_rn, mv_ld, mv_ln_, lit, nI_add, pk_mul, nI_clamp]; exact vp_in_nI (by omega) (by omega)) | (exact vp_in_nI (by omega) (by omega)))⟩) ?_)
        | (refine And.intro (show mv_sh _ = _ ∧ vp_in _ _ from ⟨by assumption, by (first | (simp (disch := omega) only [ln_64, ln_62, ln_87, ln_88, not_true_eq_false, not_false_eq_true, Classical.not_not, ofn, b_z, b_nz, b_z', b_nz', mv_rd, mv_rn, mv_ld, mv_ln_, lit, nI_add, pk_mul, nI_clamp]; exact vp_in_nI (by omega) (by omega)) | (exact vp_in_nI (by omega) (by omega)))⟩) ?_)
        | (refine And.intro (show ¬ (_ : Int32) = 0 by decide) ?_)
        | (refine ⟨_, rfl, ?_⟩)
        | (refine And.intro (show (none : Option Value) = none from rfl) ?_)
        | (refine Or.inl ⟨rfl, ?_⟩)
        | (refine Or.inr ⟨_, rfl, ?_⟩)
        | (refine dt (by (first | assumption | omega | ((try simp (disch := omega) only [not_true_eq_false, not_false_eq_true, Classical.not_not, ofn, b_z, b_nz, b_z', b_nz', mv_rd, mv_rn, mv_ld, mv_ln_, lit, nI_add, pk_mul, nI_clamp]); (try simp (disch := omega) only [fa_lt, fa_le, fa_eq, nI_toInt, pk_sub_toInt, nI_m1, nI_m1', not_false_eq_true, true_and, and_true]); first | done | omega))) ?_)
        | (refine df (by (first | assumption | omega | ((try simp (disch := omega) only [not_true_eq_false, not_false_eq_true, Classical.not_not, ofn, b_z, b_nz, b_z', b_nz', mv_rd, mv_rn, mv_ld, mv_ln_, lit, nI_add, pk_mul, nI_clamp]); (try simp (disch := omega) only [fa_lt, fa_le, fa_eq, nI_toInt, pk_sub_toInt, nI_m1, nI_m1', not_false_eq_true, true_and, and_true]); first | done | omega))) ?_)
        | (refine dt' (by (first | assumption | omega | ((try simp (disch := omega) only [not_true_eq_false, not_false_eq_true, Classical.not_not, ofn, b_z, b_nz, b_z', b_nz', mv_rd, mv_rn, mv_ld, mv_ln_, lit, nI_add, pk_mul, nI_clamp]); (try simp (disch := omega) only [fa_lt, fa_le, fa_eq, nI_toInt, pk_sub_toInt, nI_m1, nI_m1', not_false_eq_true, true_and, and_true]); first | done | omega))) ?_)
        | (refine df' (by (first | assumption | omega | ((try simp (disch := omega) only [not_true_eq_false, not_false_eq_true, Classical.not_not, ofn, b_z, b_nz, b_z', b_nz', mv_rd, mv_rn, mv_ld, mv_ln_, lit, nI_add, pk_mul, nI_clamp]); (try simp (disch := omega) only [fa_lt, fa_le, fa_eq, nI_toInt, pk_sub_toInt, nI_m1, nI_m1', not_false_eq_true, true_and, and_true]); first | done | omega))) ?_)
        )
    exact bad (by omega)
  clear bad
  obtain ⟨N, hN, rfl⟩ := (ix_cs2 a3).resolve_left (by omega)
  rw [nI_toInt hN] at e1 e2
  have hN9 : N ≤ 9 := by omega
  repeat (first
      | (refine And.intro (show mv_sh _ = _ from rfl) ?_)
      | (refine And.intro (show mv_sh _ = _ by assumption) ?_)
      | (refine And.intro (show _ ≤ mv_sh _ from Nat.le_of_ble_eq_true rfl) ?_)
      | (refine And.intro (show _ ≤ mv_sh _ ∧ vp_in _ _ from ⟨Nat.le_of_ble_eq_true rfl, by (first | (simp (disch := omega) only [ln_64, ln_62, ln_87, ln_88, not_true_eq_false, not_false_eq_true, Classical.not_not, ofn, b_z, b_nz, b_z', b_nz', mv_rd, mv_rn, mv_ld, mv_ln_, lit, nI_add, pk_mul, nI_clamp]; exact vp_in_nI (by omega) (by omega)) | (exact vp_in_nI (by omega) (by omega)))⟩) ?_)
      | (refine And.intro (show (_ : Int32) = 0 ∨ (_ : Int32) = 1 from by first | exact Or.inl rfl | exact Or.inr rfl | exact bI_01 _) ?_)
      | (refine And.intro (show mv_sh _ = _ ∧ vp_in _ _ from ⟨rfl, by (first | (simp (disch := omega) only [ln_64, ln_62, ln_87, ln_88, not_true_eq_false, not_false_eq_true, Classical.not_not, ofn, b_z, b_nz, b_z', b_nz', mv_rd, mv_rn, mv_ld, mv_ln_, lit, nI_add, pk_mul, nI_clamp]; exact vp_in_nI (by omega) (by omega)) | (exact vp_in_nI (by omega) (by omega)))⟩) ?_)
      | (refine And.intro (show mv_sh _ = _ ∧ vp_in _ _ from ⟨by assumption, by (first | (simp (disch := omega) only [ln_64, ln_62, ln_87, ln_88, not_true_eq_false, not_false_eq_true, Classical.not_not, ofn, b_z, b_nz, b_z', b_nz', mv_rd, mv_rn, mv_ld, mv_ln_, lit, nI_add, pk_mul, nI_clamp]; exact vp_in_nI (by omega) (by omega)) | (exact vp_in_nI (by omega) (by omega)))⟩) ?_)
      | (refine And.intro (show ¬ (_ : Int32) = 0 by decide) ?_)
      | (refine ⟨_, rfl, ?_⟩)
      | (refine And.intro (show (none : Option Value) = none from rfl) ?_)
      | (refine Or.inl ⟨rfl, ?_⟩)
      | (refine Or.inr ⟨_, rfl, ?_⟩)
      | (refine dt (by (first | assumption | omega | ((try simp (disch := omega) only [not_true_eq_false, not_false_eq_true, Classical.not_not, ofn, b_z, b_nz, b_z', b_nz', mv_rd, mv_rn, mv_ld, mv_ln_, lit, nI_add, pk_mul, nI_clamp]); (try simp (disch := omega) only [fa_lt, fa_le, fa_eq, nI_toInt, pk_sub_toInt, nI_m1, nI_m1', not_false_eq_true, true_and, and_true]); first | done | omega))) ?_)
      | (refine df (by (first | assumption | omega | ((try simp (disch := omega) only [not_true_eq_false, not_false_eq_true, Classical.not_not, ofn, b_z, b_nz, b_z', b_nz', mv_rd, mv_rn, mv_ld, mv_ln_, lit, nI_add, pk_mul, nI_clamp]); (try simp (disch := omega) only [fa_lt, fa_le, fa_eq, nI_toInt, pk_sub_toInt, nI_m1, nI_m1', not_false_eq_true, true_and, and_true]); first | done | omega))) ?_)
      | (refine dt' (by (first | assumption | omega | ((try simp (disch := omega) only [not_true_eq_false, not_false_eq_true, Classical.not_not, ofn, b_z, b_nz, b_z', b_nz', mv_rd, mv_rn, mv_ld, mv_ln_, lit, nI_add, pk_mul, nI_clamp]); (try simp (disch := omega) only [fa_lt, fa_le, fa_eq, nI_toInt, pk_sub_toInt, nI_m1, nI_m1', not_false_eq_true, true_and, and_true]); first | done | omega))) ?_)
      | (refine df' (by (first | assumption | omega | ((try simp (disch := omega) only [not_true_eq_false, not_false_eq_true, Classical.not_not, ofn, b_z, b_nz, b_z', b_nz', mv_rd, mv_rn, mv_ld, mv_ln_, lit, nI_add, pk_mul, nI_clamp]); (try simp (disch := omega) only [fa_lt, fa_le, fa_eq, nI_toInt, pk_sub_toInt, nI_m1, nI_m1', not_false_eq_true, true_and, and_true]); first | done | omega))) ?_)
      | (refine s_howMany hN9 ?_)
      )
  refine s_first (fun τ p1 p2 p3 => ⟨rfl, ?_⟩)
  refine s_manyL (σ := σ) ht1 hC hN9 (fun τ2 q1 q2 => ⟨_, rfl, ?_⟩) (3 ^ N) 0 τ (by omega) (fun _ => p1) p2 p3
  have w1 := aw_10 q1 q2
  refine w_Ref_many ⟨rfl, g2 (d + 1) _ _ (aw_smT w1) ⟨_, rfl, fun z => absurd z (by decide), fun _ => ?_⟩⟩
  rw [r_inI (A := 0) (C := 9) rfl rfl, if_pos (by rw [nI_toInt hN]; omega)]
  refine ⟨_, rfl, fun _ => ⟨rfl, ?_⟩, fun z => absurd z (by decide)⟩
  refine r_beginsWords hN9 (fun τ3 p4 p5 => ⟨rfl, rfl, ?_⟩)
  have w2 := aw_tr w1 (aw_W p5)
  refine hR τ3 _ _ (aw_smR w2) p4 (wk_wl _ hN9) (fun τ4 p6 => ⟨_, rfl, ?_⟩)
  refine r_bit.mpr ⟨_, rfl, ?_⟩
  have h3 : 0 < 3 ^ N := Nat.pow_pos (by decide)
  have := r_manyL (Q := fun r2 σ2 => r2 = some (.int (nI (fa_cnt (fun k => tk (wl N k)) (3 ^ N)))) ∧ aw_P σ σ2) (σ := σ) hR hN9 (fun τ5 p => ⟨rfl, p⟩) (3 ^ N - 1) 0 τ4 (by omega) (frF_rw p6 p4) (aw_tr w2 (aw_F p6))
  have e : fa_cnt (fun k => tk (wl N k)) (0 + 1) = 0 + if tk (wl N 0) = true then 1 else 0 := rfl
  rw [e] at this
  by_cases eb : tk (wl N 0) = true
  · rw [if_pos eb] at this ⊢
    exact this
  · rw [if_neg eb] at this ⊢
    exact this
end TAKERS
