/-! ===== film ===== -/
abbrev fm_T : Type := Nat × (Nat → Int32)
def fmS (tk : List Nat → Bool) (n L k : Nat) (S : fm_T) : fm_T := if S.1 < n ∧ tk (wl L k) = true then (S.1 + 1, fun j => if j = S.1 then nI (wtn (wl L k) 0) else S.2 j) else S
def fmW (tk : List Nat → Bool) (n L : Nat) : Nat → Nat → fm_T → fm_T
  | 0, _, S => S
  | r + 1, k, S => fmW tk n L r (k + 1) (fmS tk n L k S)
def fmL (tk : List Nat → Bool) (n : Nat) : Nat → Nat → fm_T → fm_T
  | 0, _, S => S
  | r + 1, L, S => fmL tk n r (L + 1) (fmW tk n L (3 ^ L) 0 S)
theorem fmS_full {tk : List Nat → Bool} {n L k : Nat} {S : fm_T} (h : ¬ S.1 < n) : fmS tk n L k S = S := if_neg (fun z => h z.1)
theorem fmW_full {tk : List Nat → Bool} {n L : Nat} : ∀ r k (S : fm_T), ¬ S.1 < n → fmW tk n L r k S = S
  | 0, _, _, _ => rfl
  | r + 1, k, S, h => by show fmW tk n L r (k + 1) (fmS tk n L k S) = S; rw [fmS_full h]; exact fmW_full r (k + 1) S h
theorem fmL_full {tk : List Nat → Bool} {n : Nat} : ∀ r L (S : fm_T), ¬ S.1 < n → fmL tk n r L S = S
  | 0, _, _, _ => rfl
  | r + 1, L, S, h => by show fmL tk n r (L + 1) (fmW tk n L (3 ^ L) 0 S) = S; rw [fmW_full _ _ _ h]; exact fmL_full r (L + 1) S h
theorem fmS_yes {tk : List Nat → Bool} {n L k : Nat} {S : fm_T} (h : S.1 < n) (h2 : tk (wl L k) = true) : fmS tk n L k S = (S.1 + 1, fun j => if j = S.1 then nI (wtn (wl L k) 0) else S.2 j) := if_pos ⟨h, h2⟩
theorem fmS_no {tk : List Nat → Bool} {n L k : Nat} {S : fm_T} (h2 : ¬ tk (wl L k) = true) : fmS tk n L k S = S := if_neg (fun z => h2 z.2)
def frC (t : Nat) (σ τ : mv_S) : Prop := (∀ c j, ¬ c = 10 → ¬ c = t + 1 → τ.1 c j = σ.1 c j) ∧ τ.2 = σ.2
theorem frC_10 {t : Nat} {σ τ υ : mv_S} (h : frC t σ τ) (h1 : fr1 10 τ υ) (h2 : υ.2 = τ.2) : frC t σ υ := ⟨fun c j q1 q2 => (h1 c j q1).trans (h.1 c j q1 q2), h2.trans h.2⟩
section FILM
variable {X : mv_X} {d : Nat} {σ : mv_S} {Q : mv_Q}
theorem s_fmW {t u n L : Nat} {tk : List Nat → Bool} {E : fm_T} (ht : sh_at t) (ht1 : 53 ≤ t) (hu : 33 ≤ u) (hu2 : u < 52) (hn : n ≤ 40) (hL : L ≤ 5) (hs : σ.1 t 1 = 1) (hC : tkC X (d + 2) u tk σ)
    (hK : ∀ τ (S : fm_T), S.1 ≤ n → E = S → (∀ j, j < 40 → τ.1 (t + 1) j = S.2 j) → frC t σ τ → mv_wf X (mv_wp X (d + 2)) m_WM_film Q 54 [.ref 0, .retAddr 0, .retAddr 0, .retAddr 0, .int (nI n), .ref t, .ref u, .int (nI S.1), .int (nI (L + 1)), .retAddr 0, .retAddr 0] [] τ) :
    ∀ r k (τ : mv_S) (S : fm_T), k + r = 3 ^ L → S.1 ≤ n → E = fmW tk n L r k S → (k < 3 ^ L → cw τ (wl L k)) → (∀ j, j < 40 → τ.1 (t + 1) j = S.2 j) → frC t σ τ → mv_wf X (mv_wp X (d + 2)) m_WM_film Q 86 [.ref 0, .retAddr 0, .retAddr 0, .retAddr 0, .int (nI n), .ref t, .ref u, .int (nI S.1), .int (nI L), .int (nI (3 ^ L)), .int (nI k)] [] τ := by
  intro r
  have h3 := p39 (show L ≤ 9 by omega)
  induction r with
  | zero =>
    intro k τ S hk hS he hw hi hf
    refine h_WM_film_86 ⟨fun _ => ?_, fun z => absurd (nI_le (by omega) (by omega)) z⟩
    rw [nI_1]
    exact hK τ S hS he hi hf
  | succ r ih =>
    intro k τ S hk hS he hw hi hf
    have hw := hw (by omega)
    refine h_WM_film_86 ⟨fun z => absurd z (nI_ge (by omega) (by omega)), fun _ => ?_⟩
    by_cases ef : S.1 < n
    case neg =>
      refine ⟨fun _ => ?_, fun z => absurd (nI_le (by omega) (by omega)) z⟩
      rw [nI_1]
      rw [fmW_full _ _ _ ef] at he
      exact hK τ S hS he hi hf
    refine ⟨fun z => absurd z (nI_ge ef (by omega)), fun _ => ⟨rfl, ?_⟩⟩
    refine hC τ (wl L k) _ (fun j => ⟨hf.1 _ _ (by omega) (by omega), hf.1 _ _ (by omega) (by omega)⟩) hw (wk_wl k (by omega)) ⟨_, rfl, ?_⟩
    by_cases eb : tk (wl L k) = true
    · rw [if_pos eb]
      refine ⟨fun z => absurd z (by decide), fun _ => ⟨rfl, rfl, ?_⟩⟩
      refine s_told hw (wk_wl k (by omega)) ⟨_, rfl, ht.1, ?_⟩
      refine (s_write ht (by omega)).mpr ⟨rfl, rfl, rfl, ?_⟩
      rw [hf.1 t 1 (by omega) (by omega), hs, if_neg (by decide)]
      have hw2 : cw (mv_pi τ (t + 1) S.1 (nI (wtn (wl L k) 0))) (wl L k) := cw_fr hw (mv_rn (by omega)) (mv_rn (by omega))
      refine s_advance (by omega) (by omega) hw2 (fun τ2 p1 p2 p3 => ⟨rfl, ?_⟩)
      rw [nI_1, nI_1]
      refine ih (k + 1) τ2 (S.1 + 1, fun j => if j = S.1 then nI (wtn (wl L k) 0) else S.2 j) (by omega) ef (by rw [he, ← fmS_yes ef eb]; rfl) p1 (fun j hj => ?_) ?_
      · rw [p2 _ _ (by omega)]
        by_cases e : j = S.1
        · subst e; rw [mv_rd]; exact (if_pos rfl).symm
        · rw [mv_rn (by omega), hi j hj]; exact (if_neg e).symm
      · exact ⟨fun c j q1 q2 => (p2 c j q1).trans ((mv_rn (by omega)).trans (hf.1 c j q1 q2)), p3.trans hf.2⟩
    · rw [if_neg eb]
      refine ⟨fun _ => ⟨rfl, rfl, ?_⟩, fun z => absurd rfl z⟩
      refine s_advance (by omega) (by omega) hw (fun τ2 p1 p2 p3 => ⟨rfl, ?_⟩)
      rw [nI_1]
      exact ih (k + 1) τ2 S (by omega) hS (by rw [he]; show fmW tk n L r (k + 1) (fmS tk n L k S) = _; rw [fmS_no eb]) p1 (fun j hj => (p2 _ _ (by omega)).trans (hi j hj)) (frC_10 hf p2 p3)
theorem s_fmL {t u n : Nat} {tk : List Nat → Bool} {E : fm_T} (ht : sh_at t) (ht1 : 53 ≤ t) (hu : 33 ≤ u) (hu2 : u < 52) (hn : n ≤ 40) (hs : σ.1 t 1 = 1) (hC : tkC X (d + 2) u tk σ)
    (hQ : ∀ τ, (∀ j, j < 40 → τ.1 (t + 1) j = E.2 j) → frC t σ τ → Q (some (.int (nI E.1))) τ) :
    ∀ r L (τ : mv_S) (S : fm_T), L + r = 6 → S.1 ≤ n → E = fmL tk n r L S → (∀ j, j < 40 → τ.1 (t + 1) j = S.2 j) → frC t σ τ → mv_wf X (mv_wp X (d + 2)) m_WM_film Q 54 [.ref 0, .retAddr 0, .retAddr 0, .retAddr 0, .int (nI n), .ref t, .ref u, .int (nI S.1), .int (nI L), .retAddr 0, .retAddr 0] [] τ := by
  intro r
  induction r with
  | zero =>
    intro L τ S hL hS he hi hf
    have he : E = S := he
    subst he
    exact h_WM_film_54 ⟨fun _ => hQ τ hi hf, fun z => absurd (nI_lt (a := 5) (by omega) (by omega)) z⟩
  | succ r ih =>
    intro L τ S hL hS he hi hf
    refine h_WM_film_54 ⟨fun z => absurd z (nI_nlt (a := 5) (by omega) (by omega)), fun _ => ?_⟩
    by_cases ef : S.1 < n
    case neg =>
      rw [fmL_full _ _ _ ef] at he
      subst he
      exact ⟨fun _ => hQ τ hi hf, fun z => absurd (nI_le (by omega) (by omega)) z⟩
    refine ⟨fun z => absurd z (nI_ge ef (by omega)), fun _ => ?_⟩
    refine s_howMany (by omega) ⟨_, rfl, rfl, rfl, ?_⟩
    refine s_first (fun τ2 p1 p2 p3 => ⟨rfl, ?_⟩)
    refine s_fmW (σ := σ) (E := fmW tk n L (3 ^ L) 0 S) ht ht1 hu hu2 hn (by omega) hs hC (fun τ3 S3 q1 q2 q3 q4 => ?_) (3 ^ L) 0 τ2 S (by omega) hS rfl (fun _ => p1) (fun j hj => (p2 _ _ (by omega)).trans (hi j hj)) (frC_10 hf p2 p3)
    exact ih (L + 1) τ3 S3 (by omega) q1 (by rw [← q2]; exact he) q3 q4
def frR (b : Nat) (σ τ : mv_S) : Prop := (∀ c j, ¬ scW c j → ¬ (c = 95 ∧ 40 * b ≤ j ∧ j < 40 * b + 40) → τ.1 c j = σ.1 c j) ∧ τ.2 = σ.2
theorem frR_aw {b : Nat} {σ τ υ : mv_S} (h : frR b σ τ) (g : aw_P τ υ) : frR b σ υ := ⟨fun c j q1 q2 => (g.1 c j q1).trans (h.1 c j q1 q2), g.2.trans h.2⟩
theorem frR_sm {b : Nat} {τ : mv_S} (h : frR b σ τ) : sm_R σ τ := fun j => ⟨h.1 _ _ (by unfold scW; omega) (by omega), h.1 _ _ (by unfold scW; omega) (by omega), h.1 _ _ (by unfold scW; omega) (by omega)⟩
theorem r_fmW {b s a n L : Nat} {tk : List Nat → Bool} {E : fm_T} (hb : b < 4) (hn : n ≤ 40) (hL : L ≤ 5) (hR : tkR X (d + 2) s a tk σ)
    (hK : ∀ τ (S : fm_T), S.1 ≤ n → E = S → (∀ j, j < 40 → τ.1 95 (40 * b + j) = S.2 j) → frR b σ τ → mv_wf X (mv_wp X (d + 2)) m_Ref_film Q 46 [.ref 61, .int (nI b), .int (nI s), .int (nI a), .int (nI n), .int (nI S.1), .int (nI (L + 1)), .retAddr 0] [] τ) :
    ∀ r k (τ : mv_S) (S : fm_T), k + 1 + r = 3 ^ L → S.1 ≤ n → E = fmW tk n L (r + 1) k S → rwd τ (wl L k) → (∀ j, j < 40 → τ.1 95 (40 * b + j) = S.2 j) → frR b σ τ → mv_wf X (mv_wp X (d + 2)) m_Ref_film Q 61 [.ref 61, .int (nI b), .int (nI s), .int (nI a), .int (nI n), .int (nI S.1), .int (nI L), .int 1] [] τ := by
  intro r
  have h3 := p39 (show L ≤ 9 by omega)
  have step : ∀ r k (τ : mv_S) (S : fm_T), k < 3 ^ L → S.1 ≤ n → E = fmW tk n L (r + 1) k S → rwd τ (wl L k) → (∀ j, j < 40 → τ.1 95 (40 * b + j) = S.2 j) → frR b σ τ →
      (∀ τ3 (S3 : fm_T), S3.1 ≤ n → E = fmW tk n L r (k + 1) S3 → rwd τ3 (wl L k) → (∀ j, j < 40 → τ3.1 95 (40 * b + j) = S3.2 j) → frR b σ τ3 → mv_wp X (d + 2) 158 [.ref 61] τ3 (fun r2 σ2 => ∃ v2, r2 = some (.int v2) ∧ (mv_wf X (mv_wp X (d + 2)) m_Ref_film Q 61 [.ref 61, .int (nI b), .int (nI s), .int (nI a), .int (nI n), .int (nI S3.1), .int (nI L), .int v2] [] σ2))) →
      mv_wf X (mv_wp X (d + 2)) m_Ref_film Q 61 [.ref 61, .int (nI b), .int (nI s), .int (nI a), .int (nI n), .int (nI S.1), .int (nI L), .int 1] [] τ := by
    intro r k τ S hk hS he hw hi hf go
    refine h_Ref_film_61 ⟨fun z => absurd z (by decide), fun _ => ?_⟩
    by_cases ef : S.1 < n
    case neg =>
      refine ⟨fun _ => ?_, fun z => absurd (nI_le (by omega) (by omega)) z⟩
      rw [nI_1]
      rw [fmW_full _ _ _ ef] at he
      exact hK τ S hS he hi hf
    refine ⟨fun z => absurd z (nI_ge ef (by omega)), fun _ => ⟨rfl, ?_⟩⟩
    refine hR τ _ _ (frR_sm hf) hw (wk_wl k (by omega)) (fun τ2 p2 => ⟨_, rfl, ?_⟩)
    have f2 := frR_aw hf (aw_F p2)
    have w2 := frF_rw p2 hw
    have i2 : ∀ j, j < 40 → τ2.1 95 (40 * b + j) = S.2 j := fun j hj => (p2.1 _ _ (by omega) (by omega) (by omega)).trans (hi j hj)
    by_cases eb : tk (wl L k) = true
    · rw [if_pos eb]
      refine ⟨fun z => absurd z (by decide), fun _ => ⟨rfl, rfl, ?_⟩⟩
      refine r_wordNow w2 (wk_wl k (by omega)) ⟨_, rfl, ?_⟩
      rw [show (40 : Int32) = nI 40 from rfl, pk_mul, nI_add, nI_clamp (by omega), nI_1]
      refine ⟨⟨rfl, vp_in_nI (N := 160) (by omega) (by omega)⟩, rfl, ?_⟩
      refine go _ (S.1 + 1, fun j => if j = S.1 then nI (wtn (wl L k) 0) else S.2 j) ef (by rw [he, ← fmS_yes ef eb]; rfl) (rwd_fr w2 (mv_rn (by omega)) (fun j => mv_rn (by omega))) (fun j hj => ?_) ⟨fun c j q1 q2 => ?_, f2.2⟩
      · by_cases e : j = S.1
        · subst e; rw [mv_rd]; exact (if_pos rfl).symm
        · rw [mv_rn (by omega), i2 j hj]; exact (if_neg e).symm
      · rw [mv_rn (by omega)]; exact f2.1 c j q1 q2
    · rw [if_neg eb]
      refine ⟨fun _ => ⟨rfl, ?_⟩, fun z => absurd rfl z⟩
      exact go τ2 S hS (by rw [he]; show fmW tk n L r (k + 1) (fmS tk n L k S) = _; rw [fmS_no eb]) w2 i2 f2
  have i95 : ∀ (τ τ2 : mv_S) (S : fm_T), frW τ τ2 → (∀ j, j < 40 → τ.1 95 (40 * b + j) = S.2 j) → ∀ j, j < 40 → τ2.1 95 (40 * b + j) = S.2 j := fun τ τ2 S p hi j hj => (p.1 _ _ (by omega) (by omega)).trans (hi j hj)
  induction r with
  | zero =>
    intro k τ S hk hS he hw hi hf
    refine step 0 k τ S (by omega) hS he hw hi hf (fun τ3 S3 q1 q2 q3 q4 q5 => ?_)
    refine r_goesToNext (by omega) (by omega) q3 (fun z => absurd z (by omega)) (fun _ τ4 p => ⟨_, rfl, ?_⟩)
    refine h_Ref_film_61 ⟨fun _ => ?_, fun z => absurd rfl z⟩
    rw [nI_1]
    exact hK τ4 S3 q1 q2 (i95 _ _ _ p q4) (frR_aw q5 (aw_W p))
  | succ r ih =>
    intro k τ S hk hS he hw hi hf
    refine step (r + 1) k τ S (by omega) hS he hw hi hf (fun τ3 S3 q1 q2 q3 q4 q5 => ?_)
    refine r_goesToNext (by omega) (by omega) q3 (fun _ τ4 p1 p2 => ⟨_, rfl, ?_⟩) (fun z => absurd (show k + 1 < 3 ^ L by omega) z)
    exact ih (k + 1) τ4 S3 (by omega) q1 q2 p1 (i95 _ _ _ p2 q4) (frR_aw q5 (aw_W p2))
theorem r_fmL {b s a n : Nat} {tk : List Nat → Bool} {E : fm_T} (hb : b < 4) (hn : n ≤ 40) (hR : tkR X (d + 2) s a tk σ)
    (hQ : ∀ τ, (∀ j, j < 40 → τ.1 95 (40 * b + j) = E.2 j) → frR b σ τ → Q (some (.int (nI E.1))) τ) :
    ∀ r L (τ : mv_S) (S : fm_T), L + r = 6 → S.1 ≤ n → E = fmL tk n r L S → (∀ j, j < 40 → τ.1 95 (40 * b + j) = S.2 j) → frR b σ τ → mv_wf X (mv_wp X (d + 2)) m_Ref_film Q 46 [.ref 61, .int (nI b), .int (nI s), .int (nI a), .int (nI n), .int (nI S.1), .int (nI L), .retAddr 0] [] τ := by
  intro r
  induction r with
  | zero =>
    intro L τ S hL hS he hi hf
    have he : E = S := he
    subst he
    exact h_Ref_film_46 ⟨fun _ => hQ τ hi hf, fun z => absurd (nI_lt (a := 5) (by omega) (by omega)) z⟩
  | succ r ih =>
    intro L τ S hL hS he hi hf
    refine h_Ref_film_46 ⟨fun z => absurd z (nI_nlt (a := 5) (by omega) (by omega)), fun _ => ⟨rfl, ?_⟩⟩
    refine r_beginsWords (by omega) (fun τ2 p1 p2 => ⟨rfl, ?_⟩)
    have h3 : 0 < 3 ^ L := Nat.pow_pos (by decide)
    obtain ⟨m, hm⟩ : ∃ m, 3 ^ L = m + 1 := ⟨3 ^ L - 1, by omega⟩
    refine r_fmW (σ := σ) (E := fmW tk n L (3 ^ L) 0 S) hb hn (by omega) hR (fun τ3 S3 q1 q2 q3 q4 => ?_) m 0 τ2 S (by omega) hS (by rw [← hm]) p1 (fun j hj => (p2.1 _ _ (by omega) (by omega)).trans (hi j hj)) (frR_aw hf (aw_W p2))
    exact ih (L + 1) τ3 S3 (by omega) q1 (by rw [← q2]; exact he) q3 q4
def mf_P (σ σ2 : mv_S) : Prop := iv_S σ2 ∧ (∀ c j, ¬ tm_S c → ¬ scW c j → σ2.1 c j = σ.1 c j) ∧ σ2.2 = σ.2
theorem tkC_sh {D t u : Nat} {tk : List Nat → Bool} {τ : mv_S} (h : tkC X D u tk σ) (h1 : ∀ j, τ.1 u j = σ.1 u j ∧ τ.1 (u + 1) j = σ.1 (u + 1) j) : tkC X D u tk τ := fun υ w Q hs => h υ w Q (fun j => ⟨(hs j).1.trans (h1 j).1, (hs j).2.trans (h1 j).2⟩)
theorem tkR_sh {D s a : Nat} {tk : List Nat → Bool} {τ : mv_S} (h : tkR X D s a tk σ) (h1 : sm_R σ τ) : tkR X D s a tk τ := fun υ w Q hs => h υ w Q (fun j => ⟨(hs j).1.trans (h1 j).1, (hs j).2.1.trans (h1 j).2.1, (hs j).2.2.trans (h1 j).2.2⟩)
theorem op_film {n q : Nat} {Ms : Nat → md_T} {fs : Nat → List Nat → Bool} {a1 a2 a3 a4 : Int32} (hS : iv_S σ) (h : iv_M n Ms σ) (hF : iv_Fm X (d + 4) q fs σ) : lw_op X (d + 5) (mf_P σ) 126 232 [.int a1, .int a2, .int a3, .int a4] σ := by
  unfold lw_op
  have self : sm_T σ σ := aw_smT (aw_rf σ)
  have same : mf_P σ σ := ⟨hS, fun _ _ _ _ => rfl, rfl⟩
  refine w_WM_film ⟨rfl, ?_⟩
  have tcs := tk_cs (d := d + 1) h hF a2 a3
  rcases ix_cs a1 4 (by omega) with ⟨c1, c2⟩ | ⟨b, hb, rfl, c1⟩
  · have rf : mv_wp X (d + 5) 232 [.ref 61, .int a1, .int a2, .int a3, .int a4] σ (fun r2 σ2 => r2 = some (.int (-2)) ∧ mf_P σ σ2) := by
      refine w_Ref_film ?_
      rw [r_isSheet, if_neg c2]
      exact ⟨_, rfl, fun _ => ⟨rfl, same⟩, fun z => absurd rfl z⟩
    refine (s_sheetAt_no c1).mpr (Or.inl ⟨rfl, rfl, ?_⟩)
    rcases tcs with ⟨g1, g2⟩ | ⟨s, k, t, tk, rfl, rfl, ht1, ht2, hC, hR, g1, g2⟩
    · exact g1 (d + 2) _ _ self (Or.inl ⟨rfl, _, rfl, rf⟩)
    · exact g1 (d + 2) _ _ self (Or.inr ⟨_, rfl, _, rfl, rf⟩)
  refine (s_sheetAt_ok hb).mpr (Or.inr ⟨_, rfl, rfl, ?_⟩)
  rcases tcs with ⟨g1, g2⟩ | ⟨s, k, t, tk, rfl, rfl, ht1, ht2, hC, hR, g1, g2⟩
  · refine g1 (d + 2) _ _ self (Or.inl ⟨rfl, _, rfl, ?_⟩)
    refine w_Ref_film ?_
    rw [r_isSheet, if_pos c1]
    exact ⟨_, rfl, fun z => absurd z (by decide), fun _ => ⟨rfl, g2 (d + 1) _ _ self ⟨_, rfl, fun _ => ⟨rfl, same⟩, fun z => absurd rfl z⟩⟩⟩
  have hsh : sh_at (53 + 2 * b) := (sh_now b hb).1
  refine g1 (d + 2) _ _ self (Or.inr ⟨_, rfl, ?_⟩)
  have bad : ¬ (0 ≤ a4.toInt ∧ a4.toInt ≤ 40) → mv_wp X (d + 5) 232 [.ref 61, .int (nI b), .int (nI s), .int (nI k), .int a4] σ (fun r2 σ2 => r2 = some (.int (-2)) ∧ mf_P σ σ2) := by
    intro hb2
    refine w_Ref_film ?_
    rw [r_isSheet, if_pos c1]
    refine ⟨_, rfl, fun z => absurd z (by decide), fun _ => ⟨rfl, g2 (d + 1) _ _ self ⟨_, rfl, fun z => absurd z (by decide), fun _ => ?_⟩⟩⟩
    rw [r_inI (A := 0) (C := 40) rfl rfl, if_neg hb2]
    exact ⟨_, rfl, fun z => absurd rfl z, fun _ => ⟨rfl, same⟩⟩
  by_cases e1 : a4.toInt < 0
  · repeat (first
        | (refine And.intro (show mv_sh _ = _ from rfl) ?_)
        | (refine And.intro (show mv_sh _ = _ by assumption) ?_)
        | (refine And.intro (show _ ≤ mv_sh _ from Nat.le_of_ble_eq_true rfl) ?_)
        | (refine And.intro (show _ ≤ mv_sh _ ∧ vp_in _ _ from ⟨Nat.le_of_ble_eq_true rfl, by (first | (simp (disch := omega) only [ln_64, ln_62, ln_87, ln_88, ln_93, ln_94, ln_95, not_true_eq_false, not_false_eq_true, Classical.not_not, ofn, b_z, b_nz, b_z', b_nz', mv_rd, mv_rn, mv_ld, mv_ln_, lit, nI_add, pk_mul, nI_clamp]; exact vp_in_nI (by omega) (by omega)) | (exact vp_in_nI (by omega) (by omega)))⟩) ?_)
        | (refine And.intro (show (_ : Int32) = 0 ∨ (_ : Int32) = 1 from by first | exact Or.inl rfl | exact Or.inr rfl | exact bI_01 _) ?_)
        | (refine And.intro (show mv_sh _ = _ ∧ vp_in _ _ from ⟨rfl, by (first | (simp (disch := omega) only [ln_64, ln_62, ln_87, ln_88, ln_93, ln_94, ln_95, not_true_eq_false, not_false_eq_true, Classical.not_not, ofn, b_z, b_nz, b_z', b_nz', mv_rd, mv_rn, mv_ld, mv_ln_, lit, nI_add, pk_mul, nI_clamp]; exact vp_in_nI (by omega) (by omega)) | (exact vp_in_nI (by omega) (by omega)))⟩) ?_)
        | (refine And.intro (show mv_sh _ = _ ∧ vp_in _ _ from ⟨by assumption, by (first | (simp (disch := omega) only [ln_64, ln_62, ln_87, ln_88, ln_93, ln_94, ln_95, not_true_eq_false, not_false_eq_true, Classical.not_not, ofn, b_z, b_nz, b_z', b_nz', mv_rd, mv_rn, mv_ld, mv_ln_, lit, nI_add, pk_mul, nI_clamp]; exact vp_in_nI (by omega) (by omega)) | (exact vp_in_nI (by omega) (by omega)))⟩) ?_)
        | (refine And.intro (show ¬ (_ : Int32) = 0 by decide) ?_)
        | (refine ⟨_, rfl, ?_⟩)
        | (refine And.intro (show (none : Option Value) = none from rfl) ?_)
        | (refine Or.inl ⟨rfl, ?_⟩)
        | (refine Or.inr ⟨_, rfl, ?_⟩)
        | (refine dt (by (first | assumption | omega | ((try simp (disch := omega) only [not_true_eq_false, not_false_eq_true, Classical.not_not, ofn, b_z, b_nz, b_z', b_nz', mv_rd, mv_rn, mv_ld, mv_ln_, lit, nI_add, pk_mul, nI_clamp]); (try simp (disch := omega) only [fa_lt, fa_le, fa_eq, nI_toInt, pk_sub_toInt, nI_m1, nI_m1', not_false_eq_true, true_and, and_true]); first | done | omega))) ?_)
        | (refine df (by (first | assumption | omega | ((try simp (disch := omega) only [not_true_eq_false, not_false_eq_true, Classical.not_not, ofn, b_z, b_nz, b_z', b_nz', mv_rd, mv_rn, mv_ld, mv_ln_, lit, nI_add, pk_mul, nI_clamp]); (try simp (disch := omega) only [fa_lt, fa_le, fa_eq, nI_toInt, pk_sub_toInt, nI_m1, nI_m1', not_false_eq_true, true_and, and_true]); first | done | omega))) ?_)
        | (refine dt' (by (first | assumption | omega | ((try simp (disch := omega) only [not_true_eq_false, not_false_eq_true, Classical.not_not, ofn, b_z, b_nz, b_z', b_nz', mv_rd, mv_rn, mv_ld, mv_ln_, lit, nI_add, pk_mul, nI_clamp]); (try simp (disch := omega) only [fa_lt, fa_le, fa_eq, nI_toInt, pk_sub_toInt, nI_m1, nI_m1', not_false_eq_true, true_and, and_true]); first | done | omega))) ?_)
        | (refine df' (by (first | assumption | omega | ((try simp (disch := omega) only [not_true_eq_false, not_false_eq_true, Classical.not_not, ofn, b_z, b_nz, b_z', b_nz', mv_rd, mv_rn, mv_ld, mv_ln_, lit, nI_add, pk_mul, nI_clamp]); (try simp (disch := omega) only [fa_lt, fa_le, fa_eq, nI_toInt, pk_sub_toInt, nI_m1, nI_m1', not_false_eq_true, true_and, and_true]); first | done | omega))) ?_)
        )
    exact bad (by omega)
  by_cases e2 : 40 < a4.toInt
  · repeat (first
        | (refine And.intro (show mv_sh _ = _ from rfl) ?_)
        | (refine And.intro (show mv_sh _ = _ by assumption) ?_)
        | (refine And.intro (show _ ≤ mv_sh _ from Nat.le_of_ble_eq_true rfl) ?_)
        | (refine And.intro (show _ ≤ mv_sh _ ∧ vp_in _ _ from ⟨Nat.le_of_ble_eq_true rfl, by (first | (simp (disch := omega) only [ln_64, ln_62, ln_87, ln_88, ln_93, ln_94, ln_95, not_true_eq_false, not_false_eq_true, Classical.not_not, ofn, b_z, b_nz, b_z', b_nz', mv_rd, mv_rn, mv_ld, mv_ln_, lit, nI_add, pk_mul, nI_clamp]; exact vp_in_nI (by omega) (by omega)) | (exact vp_in_nI (by omega) (by omega)))⟩) ?_)
        | (refine And.intro (show (_ : Int32) = 0 ∨ (_ : Int32) = 1 from by first | exact Or.inl rfl | exact Or.inr rfl | exact bI_01 _) ?_)
        | (refine And.intro (show mv_sh _ = _ ∧ vp_in _ _ from ⟨rfl, by (first | (simp (disch := omega) only [ln_64, ln_62, ln_87, ln_88, ln_93, ln_94, ln_95, not_true_eq_false, not_false_eq_true, Classical.not_not, ofn, b_z, b_nz, b_z', b_nz', mv_rd, mv_rn, mv_ld, mv_ln_, lit, nI_add, pk_mul, nI_clamp]; exact vp_in_nI (by omega) (by omega)) | (exact vp_in_nI (by omega) (by omega)))⟩) ?_)
        | (refine And.intro (show mv_sh _ = _ ∧ vp_in _ _ from ⟨by assumption, by (first | (simp (disch := omega) only [ln_64, ln_62, ln_87, ln_88, ln_93, ln_94, ln_95, not_true_eq_false, not_false_eq_true, Classical.not_not, ofn, b_z, b_nz, b_z', b_nz', mv_rd, mv_rn, mv_ld, mv_ln_, lit, nI_add, pk_mul, nI_clamp]; exact vp_in_nI (by omega) (by omega)) | (exact vp_in_nI (by omega) (by omega)))⟩) ?_)
        | (refine And.intro (show ¬ (_ : Int32) = 0 by decide) ?_)
        | (refine ⟨_, rfl, ?_⟩)
        | (refine And.intro (show (none : Option Value) = none from rfl) ?_)
        | (refine Or.inl ⟨rfl, ?_⟩)
        | (refine Or.inr ⟨_, rfl, ?_⟩)
        | (refine dt (by (first | assumption | omega | ((try simp (disch := omega) only [not_true_eq_false, not_false_eq_true, Classical.not_not, ofn, b_z, b_nz, b_z', b_nz', mv_rd, mv_rn, mv_ld, mv_ln_, lit, nI_add, pk_mul, nI_clamp]); (try simp (disch := omega) only [fa_lt, fa_le, fa_eq, nI_toInt, pk_sub_toInt, nI_m1, nI_m1', not_false_eq_true, true_and, and_true]); first | done | omega))) ?_)
        | (refine df (by (first | assumption | omega | ((try simp (disch := omega) only [not_true_eq_false, not_false_eq_true, Classical.not_not, ofn, b_z, b_nz, b_z', b_nz', mv_rd, mv_rn, mv_ld, mv_ln_, lit, nI_add, pk_mul, nI_clamp]); (try simp (disch := omega) only [fa_lt, fa_le, fa_eq, nI_toInt, pk_sub_toInt, nI_m1, nI_m1', not_false_eq_true, true_and, and_true]); first | done | omega))) ?_)
        | (refine dt' (by (first | assumption | omega | ((try simp (disch := omega) only [not_true_eq_false, not_false_eq_true, Classical.not_not, ofn, b_z, b_nz, b_z', b_nz', mv_rd, mv_rn, mv_ld, mv_ln_, lit, nI_add, pk_mul, nI_clamp]); (try simp (disch := omega) only [fa_lt, fa_le, fa_eq, nI_toInt, pk_sub_toInt, nI_m1, nI_m1', not_false_eq_true, true_and, and_true]); first | done | omega))) ?_)
        | (refine df' (by (first | assumption | omega | ((try simp (disch := omega) only [not_true_eq_false, not_false_eq_true, Classical.not_not, ofn, b_z, b_nz, b_z', b_nz', mv_rd, mv_rn, mv_ld, mv_ln_, lit, nI_add, pk_mul, nI_clamp]); (try simp (disch := omega) only [fa_lt, fa_le, fa_eq, nI_toInt, pk_sub_toInt, nI_m1, nI_m1', not_false_eq_true, true_and, and_true]); first | done | omega))) ?_)
        )
    exact bad (by omega)
  clear bad
  obtain ⟨m, hm, rfl⟩ := (ix_cs2 a4).resolve_left (by omega)
  rw [nI_toInt hm] at e1 e2
  have hm40 : m ≤ 40 := by omega
  refine ⟨fun z => absurd z (nI_pos hm), fun _ => ⟨fun _ => ⟨hsh.1, ?_⟩, fun z => absurd (nI_le (b := 40) hm40 (by omega)) z⟩⟩
  refine s_sheetRenew hsh hm40 ⟨rfl, ?_⟩
  generalize hE : fmL tk m 6 0 (0, fun _ => 0) = E
  generalize hτ : mv_fo (mv_pi (mv_pi σ (53 + 2 * b) 1 1) (53 + 2 * b) 2 (nI m)) (53 + 2 * b + 1) 0 (fun _ => 0) 40 = τ
  have t1 : τ.1 (53 + 2 * b) 1 = 1 := by rw [← hτ, fo_out (by omega), mv_rn (by omega), mv_rd]
  have t2 : τ.1 (53 + 2 * b) 2 = nI m := by rw [← hτ, fo_out (by omega), mv_rd]
  have t3 : ∀ j, j < 40 → τ.1 (53 + 2 * b + 1) j = 0 := fun j hj => by
    rw [← hτ]
    have := fo_in (σ := mv_pi (mv_pi σ (53 + 2 * b) 1 1) (53 + 2 * b) 2 (nI m)) (c := 53 + 2 * b + 1) (off := 0) (f := fun _ => (0 : Int32)) (i := 40) hj
    rw [Nat.zero_add] at this
    exact this
  have t4 : ∀ c j, ¬ c = 53 + 2 * b → ¬ c = 53 + 2 * b + 1 → τ.1 c j = σ.1 c j := fun c j q1 q2 => by rw [← hτ, fo_out (by omega), mv_rn (by omega), mv_rn (by omega)]
  have t5 : τ.2 = σ.2 := by rw [← hτ]; rfl
  refine s_fmL (σ := τ) (E := E) (tk := tk) hsh (by omega) ht1 ht2 hm40 t1 (tkC_sh (t := 0) hC (fun j => ⟨t4 _ _ (by omega) (by omega), t4 _ _ (by omega) (by omega)⟩)) (fun υ p1 p2 => ⟨_, rfl, ?_⟩) 6 0 τ (0, fun _ => 0) rfl (Nat.zero_le _) hE.symm t3 ⟨fun _ _ _ _ => rfl, rfl⟩
  have hsT : sm_T σ υ := ⟨(p2.1 _ _ (by omega) (by omega)).trans (t4 _ _ (by omega) (by omega)), (p2.1 _ _ (by omega) (by omega)).trans (t4 _ _ (by omega) (by omega)), (p2.1 _ _ (by omega) (by omega)).trans (t4 _ _ (by omega) (by omega)), (p2.1 _ _ (by omega) (by omega)).trans (t4 _ _ (by omega) (by omega))⟩
  refine w_Ref_film ?_
  rw [r_isSheet, if_pos c1]
  refine ⟨_, rfl, fun z => absurd z (by decide), fun _ => ⟨rfl, g2 (d + 1) _ _ hsT ⟨_, rfl, fun z => absurd z (by decide), fun _ => ?_⟩⟩⟩
  rw [r_inI (A := 0) (C := 40) rfl rfl, if_pos (by rw [nI_toInt hm]; omega)]
  refine ⟨_, rfl, fun _ => ⟨rfl, ?_⟩, fun z => absurd z (by decide)⟩
  refine r_becomes hb ⟨rfl, ?_⟩
  generalize hω : mv_fo (mv_pi (mv_pi υ 93 b 1) 94 b (nI m)) 95 (40 * b) (fun _ => 0) 40 = ω
  have o1 : ω.1 93 b = 1 := by rw [← hω, fo_out (by omega), mv_rn (by omega), mv_rd]
  have o2 : ω.1 94 b = nI m := by rw [← hω, fo_out (by omega), mv_rd]
  have o3 : ∀ j, j < 40 → ω.1 95 (40 * b + j) = 0 := fun j hj => by
    rw [← hω]
    exact fo_in (σ := mv_pi (mv_pi υ 93 b 1) 94 b (nI m)) (c := 95) (off := 40 * b) (f := fun _ => (0 : Int32)) (i := 40) hj
  have o4 : ∀ c j, ¬ (c = 93 ∧ j = b) → ¬ (c = 94 ∧ j = b) → ¬ (c = 95 ∧ 40 * b ≤ j ∧ j < 40 * b + 40) → ω.1 c j = υ.1 c j := fun c j q1 q2 q3 => by rw [← hω, fo_out q3, mv_rn q2, mv_rn q1]
  have o5 : ω.2 = υ.2 := by rw [← hω]; rfl
  refine r_fmL (σ := ω) (E := E) (tk := tk) hb hm40 (tkR_sh hR (fun j => ⟨?_, ?_, ?_⟩)) (fun ρ q1 q2 => ⟨rfl, ?_⟩) 6 0 ω (0, fun _ => 0) rfl (Nat.zero_le _) hE.symm o3 ⟨fun _ _ _ _ => rfl, rfl⟩
  · rw [o4 _ _ (by omega) (by omega) (by omega), p2.1 _ _ (by omega) (by omega), t4 _ _ (by omega) (by omega)]
  · rw [o4 _ _ (by omega) (by omega) (by omega), p2.1 _ _ (by omega) (by omega), t4 _ _ (by omega) (by omega)]
  · rw [o4 _ _ (by omega) (by omega) (by omega), p2.1 _ _ (by omega) (by omega), t4 _ _ (by omega) (by omega)]
  have z1 : ∀ c j, ¬ scW c j → ¬ (c = 93 ∧ j = b) → ¬ (c = 94 ∧ j = b) → ¬ (c = 95 ∧ 40 * b ≤ j ∧ j < 40 * b + 40) → ¬ c = 53 + 2 * b → ¬ c = 53 + 2 * b + 1 → ρ.1 c j = σ.1 c j := fun c j q3 q4 q5 q6 q7 q8 => by
    rw [q2.1 c j q3 q6, o4 c j q4 q5 q6, p2.1 c j (fun z => q3 (by unfold scW; omega)) q8, t4 c j q7 q8]
  refine ⟨fun i hi => ?_, fun c j q3 q4 => ?_, q2.2.trans (o5.trans (p2.2.trans t5))⟩
  · by_cases ei : i = b
    · subst ei
      refine ⟨Or.inr (Or.inr ?_), ?_, ⟨m, hm40, ?_, ?_⟩, fun j hj => ?_⟩
      · rw [q2.1 _ _ (by unfold scW; omega) (by omega), o4 _ _ (by omega) (by omega) (by omega), p2.1 _ _ (by omega) (by omega), t1]
      · rw [q2.1 93 i (by unfold scW; omega) (by omega), o1, q2.1 (53 + 2 * i) 1 (by unfold scW; omega) (by omega), o4 _ _ (by omega) (by omega) (by omega), p2.1 _ _ (by omega) (by omega), t1]
      · rw [q2.1 _ _ (by unfold scW; omega) (by omega), o4 _ _ (by omega) (by omega) (by omega), p2.1 _ _ (by omega) (by omega), t2]
      · rw [q2.1 94 i (by unfold scW; omega) (by omega), o2]
      · rw [q1 j hj, q2.1 (53 + 2 * i + 1) j (by unfold scW; omega) (by omega), o4 _ _ (by omega) (by omega) (by omega), p1 j hj]
    · obtain ⟨i1, i2, ⟨m', hm', i3, i4⟩, i5⟩ := hS i hi
      have y : ∀ c j, (c = 53 + 2 * i ∨ c = 53 + 2 * i + 1 ∨ (c = 93 ∧ j = i) ∨ (c = 94 ∧ j = i) ∨ (c = 95 ∧ 40 * i ≤ j ∧ j < 40 * i + 40)) → ρ.1 c j = σ.1 c j := fun c j hc => z1 c j (by unfold scW; omega) (by omega) (by omega) (by omega) (by omega) (by omega)
      refine ⟨?_, ?_, ⟨m', hm', ?_, ?_⟩, fun j hj => ?_⟩
      · rw [y _ _ (by omega)]; exact i1
      · rw [y 93 i (by omega), y (53 + 2 * i) 1 (by omega)]; exact i2
      · rw [y _ _ (by omega)]; exact i3
      · rw [y _ _ (by omega)]; exact i4
      · rw [y 95 (40 * i + j) (by omega), y (53 + 2 * i + 1) j (by omega)]; exact i5 j hj
  · unfold tm_S at q3
    exact z1 c j q4 (by omega) (by omega) (by omega) (by omega) (by omega)
end FILM
