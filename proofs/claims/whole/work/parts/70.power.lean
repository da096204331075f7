/-! ===== of, power ===== -/
def pw (c : Nat) : Nat → Nat
  | 0 => c
  | n + 1 => th (pw c n) c
/-- one less than the index, the period -/
def ix0 (c : Nat) : Nat := fa_first (fun n => decide (th (pw c n) (om c) = pw c n)) 4
def pr0 (c : Nat) : Nat := fa_first (fun p => decide (th (om c) (pw c p) = om c)) 4
theorem ix_pr : ∀ c, c < 256 → ix0 c < 4 ∧ pr0 c < 4 ∧ pw c (ix0 c + (pr0 c + 1)) = pw c (ix0 c) := by decide +kernel
theorem pw_ne : ∀ c, c < 256 → ∀ a, a < ix0 c + (pr0 c + 1) → ∀ b, b < a → ¬ pw c b = pw c a := by decide +kernel
theorem pw_lt {c : Nat} (hc : c < 256) : ∀ n, pw c n < 256
  | 0 => hc
  | _ + 1 => th_lt _ _
theorem inm_pw {g : Nat → Nat} {c : Nat} (h : inm g c) : ∀ n, inm g (pw c n)
  | 0 => h
  | n + 1 => inm_th (inm_pw h n) h
theorem inm_omf {g : Nat → Nat} {c : Nat} (h : inm g c) : ∀ f x, inm g x → inm g (omf c f x)
  | 0, _, hx => hx
  | f + 1, x, hx => by
    show inm g (if th x x = x then x else omf c f (th x c))
    by_cases e : th x x = x
    · rw [if_pos e]; exact hx
    · rw [if_neg e]; exact inm_omf h f _ (inm_th hx h)
theorem inm_om {g : Nat → Nat} {c : Nat} (h : inm g c) : inm g (om c) := inm_omf h 12 c h
section POWER
variable {X : mv_X} {d : Nat} {σ : mv_S} {Q : mv_Q} {M : md_T}
theorem c_indexOf {i : Nat} (m : moC M σ) (hi : i < (eF (gL M)).1) (hQ : Q (some (.int (nI (ix0 ((eF (gL M)).2.1 i) + 1)))) σ) : mv_wp X (d + 2) 66 [.ref 12, .int (nI i)] σ Q := by
  have hc := eF_q hi
  have tb := ix_pr _ hc
  have ho := (om_idem _ hc).2
  have cO : ∀ (Q : mv_Q), Q (some (.int (nI (om ((eF (gL M)).2.1 i))))) σ → mv_wp X (d + 1) 59 [.ref 12, .int (nI ((eF (gL M)).2.1 i))] σ Q := fun Q q => c_omega m hi q
  have cC : ∀ (Q : mv_Q), Q (some (.int (nI ((eF (gL M)).2.1 i)))) σ → mv_wp X (d + 1) 57 [.ref 12, .int (nI i)] σ Q := fun Q q => c_code m hi q
  generalize (eF (gL M)).2.1 i = c at *
  have loop : ∀ r n, n + r = ix0 c → mv_wf X (mv_wp X (d + 1)) m_Monoid_indexOf Q 8 [.ref 12, .int (nI i), .int (nI (pw c n)), .int (nI (n + 1))] [] σ := by
    intro r
    induction r with
    | zero =>
      intro n hn
      refine h_Monoid_indexOf_8 ⟨fun z => absurd z (nI_ge (b := 256) (by omega) (by omega)), fun _ => ⟨rfl, ?_⟩⟩
      refine cC _ ⟨_, rfl, rfl, cO _ ⟨_, rfl, ?_⟩⟩
      refine (s_then (pw_lt hc n) ho).mpr ⟨_, rfl, ?_⟩
      have y : th (pw c n) (om c) = pw c n := by
        rw [show n = ix0 c by omega]
        exact of_decide_eq_true (fa_first_yes _ _ tb.1)
      rw [y]
      refine ⟨fun z => absurd rfl z, fun _ => ?_⟩
      rw [show n = ix0 c by omega]
      exact hQ
    | succ r ih =>
      intro n hn
      refine h_Monoid_indexOf_8 ⟨fun z => absurd z (nI_ge (b := 256) (by omega) (by omega)), fun _ => ⟨rfl, ?_⟩⟩
      refine cC _ ⟨_, rfl, rfl, cO _ ⟨_, rfl, ?_⟩⟩
      refine (s_then (pw_lt hc n) ho).mpr ⟨_, rfl, ?_⟩
      have y : ¬ th (pw c n) (om c) = pw c n := of_decide_eq_false (fa_first_no (fun n => decide (th (pw c n) (om c) = pw c n)) 4 n (by unfold ix0 at hn; omega))
      have y2 : ¬ nI (th (pw c n) (om c)) = nI (pw c n) := fun z => y (nI_28 (by have := th_lt (pw c n) (om c); omega) (by have := pw_lt hc n; omega) z)
      refine ⟨fun _ => ⟨rfl, ?_⟩, fun z => absurd z y2⟩
      refine cC _ ⟨_, rfl, ?_⟩
      refine (s_then (pw_lt hc n) hc).mpr ⟨_, rfl, ?_⟩
      rw [nI_1]
      exact ih (n + 1) (by omega)
  refine w_Monoid_indexOf ⟨rfl, ?_⟩
  exact cC _ ⟨_, rfl, loop (ix0 c) 0 (by omega)⟩
theorem c_periodOf {i : Nat} (m : moC M σ) (hi : i < (eF (gL M)).1) (hQ : Q (some (.int (nI (pr0 ((eF (gL M)).2.1 i) + 1)))) σ) : mv_wp X (d + 2) 67 [.ref 12, .int (nI i)] σ Q := by
  have hc := eF_q hi
  have tb := ix_pr _ hc
  have ho := (om_idem _ hc).2
  have cO : ∀ (Q : mv_Q), Q (some (.int (nI (om ((eF (gL M)).2.1 i))))) σ → mv_wp X (d + 1) 59 [.ref 12, .int (nI ((eF (gL M)).2.1 i))] σ Q := fun Q q => c_omega m hi q
  have cC : ∀ (Q : mv_Q), Q (some (.int (nI ((eF (gL M)).2.1 i)))) σ → mv_wp X (d + 1) 57 [.ref 12, .int (nI i)] σ Q := fun Q q => c_code m hi q
  generalize (eF (gL M)).2.1 i = c at *
  have loop : ∀ r n, n + r = pr0 c → mv_wf X (mv_wp X (d + 1)) m_Monoid_periodOf Q 23 [.ref 12, .int (nI i), .int (nI (om c)), .int (nI (th (om c) (pw c n))), .int (nI (n + 1))] [] σ := by
    intro r
    induction r with
    | zero =>
      intro n hn
      have y : th (om c) (pw c n) = om c := by
        rw [show n = pr0 c by omega]
        exact of_decide_eq_true (fa_first_yes _ _ tb.2.1)
      refine h_Monoid_periodOf_23 ⟨fun z => absurd z (nI_ge (b := 256) (by omega) (by omega)), fun _ => ?_⟩
      rw [y]
      refine ⟨fun z => absurd rfl z, fun _ => ?_⟩
      rw [show n = pr0 c by omega]
      exact hQ
    | succ r ih =>
      intro n hn
      have y : ¬ th (om c) (pw c n) = om c := of_decide_eq_false (fa_first_no (fun p => decide (th (om c) (pw c p) = om c)) 4 n (by unfold pr0 at hn; omega))
      have y2 : ¬ nI (th (om c) (pw c n)) = nI (om c) := fun z => y (nI_28 (by have := th_lt (om c) (pw c n); omega) (by omega) z)
      refine h_Monoid_periodOf_23 ⟨fun z => absurd z (nI_ge (b := 256) (by omega) (by omega)), fun _ => ⟨fun _ => ⟨rfl, ?_⟩, fun z => absurd z y2⟩⟩
      refine cC _ ⟨_, rfl, ?_⟩
      refine (s_then (th_lt _ _) hc).mpr ⟨_, rfl, ?_⟩
      rw [nI_1, th_assoc]
      exact ih (n + 1) (by omega)
  refine w_Monoid_periodOf ⟨rfl, ?_⟩
  refine cC _ ⟨_, rfl, rfl, cO _ ⟨_, rfl, rfl, cC _ ⟨_, rfl, ?_⟩⟩⟩
  refine (s_then ho hc).mpr ⟨_, rfl, ?_⟩
  exact loop (pr0 c) 0 (by omega)
theorem r_omegaOf {i : Nat} (hM : md_ok M) (m : moR M σ) (hi : i < (eF (gL M)).1) (hQ : Q (some (.int (nI (bf_ix (eF (gL M)) (om ((eF (gL M)).2.1 i)))))) σ) : mv_wp X (d + 4) 179 [.ref 61, .int (nI i)] σ Q := by
  have hle := eF_le (g := gL M)
  have hc := eF_q hi
  have hin : inm (gL M) (om ((eF (gL M)).2.1 i)) := inm_om ⟨i, hi, rfl⟩
  have loop : ∀ f j, j < (eF (gL M)).1 → om ((eF (gL M)).2.1 i) = omf ((eF (gL M)).2.1 i) f ((eF (gL M)).2.1 j) → mv_wf X (mv_wp X (d + 3)) m_Ref_omegaOf Q 2 [.ref 61, .int (nI i), .int (nI j)] [] σ := by
    intro f
    have stop : ∀ j, j < (eF (gL M)).1 → om ((eF (gL M)).2.1 i) = (eF (gL M)).2.1 j → th ((eF (gL M)).2.1 j) ((eF (gL M)).2.1 j) = (eF (gL M)).2.1 j → mv_wf X (mv_wp X (d + 3)) m_Ref_omegaOf Q 2 [.ref 61, .int (nI i), .int (nI j)] [] σ := by
      intro j hj he hid
      refine h_Ref_omegaOf_2 ⟨rfl, ?_⟩
      have ep : pd (gL M) j j = j := by unfold pd; rw [hid]; exact ix_cd hj
      refine r_timesOf hM m hj hj ⟨_, rfl, ?_⟩
      rw [ep]
      refine ⟨fun _ => ?_, fun z => absurd rfl z⟩
      rw [he, ix_cd hj] at hQ
      exact hQ
    induction f with
    | zero =>
      intro j hj he
      have he : om ((eF (gL M)).2.1 i) = (eF (gL M)).2.1 j := he
      refine stop j hj he ?_
      rw [← he]
      exact (om_idem _ hc).1
    | succ f ih =>
      intro j hj he
      by_cases e : th ((eF (gL M)).2.1 j) ((eF (gL M)).2.1 j) = (eF (gL M)).2.1 j
      · exact stop j hj (he.trans (if_pos e)) e
      · have he2 : om ((eF (gL M)).2.1 i) = omf ((eF (gL M)).2.1 i) f (th ((eF (gL M)).2.1 j) ((eF (gL M)).2.1 i)) := he.trans (if_neg e)
        have hp := pd_lt (g := gL M) hj hj
        refine h_Ref_omegaOf_2 ⟨rfl, ?_⟩
        refine r_timesOf hM m hj hj ⟨_, rfl, ?_⟩
        have ne : ¬ nI (pd (gL M) j j) = nI j := by
          intro z
          have z := nI_28 (by omega) (by omega) z
          have := pd_cd (g := gL M) hj hj
          rw [z] at this
          exact e this.symm
        refine ⟨fun z => absurd z ne, fun _ => ⟨rfl, ?_⟩⟩
        refine r_timesOf hM m hj hi ⟨_, rfl, ?_⟩
        refine ih (pd (gL M) j i) (pd_lt hj hi) ?_
        rw [pd_cd hj hi]
        exact he2
  exact w_Ref_omegaOf (loop 12 i hi rfl)
def frX (σ τ : mv_S) : Prop := (∀ c j, ¬ c = 77 → ¬ (c = 61 ∧ (j = 25 ∨ j = 26)) → τ.1 c j = σ.1 c j) ∧ τ.2 = σ.2
theorem r_findsPowers {i : Nat} (hM : md_ok M) (m : moR M σ) (hi : i < (eF (gL M)).1) (hQ : ∀ τ, τ.1 61 25 = nI (ix0 ((eF (gL M)).2.1 i) + 1) → τ.1 61 26 = nI (pr0 ((eF (gL M)).2.1 i) + 1) → frX σ τ → Q none τ) : mv_wp X (d + 4) 187 [.ref 61, .int (nI i)] σ Q := by
  have hle := eF_le (g := gL M)
  have hc := eF_q hi
  have tb := ix_pr _ hc
  have tn := pw_ne _ hc
  have hin : inm (gL M) ((eF (gL M)).2.1 i) := ⟨i, hi, rfl⟩
  have mS : ∀ τ, frX σ τ → moR M τ := fun τ h => moR_S (fun c j q => h.1 c j (by omega) (by omega)) m
  have tms : ∀ n τ (Q : mv_Q), moR M τ → Q (some (.int (nI (bf_ix (eF (gL M)) (pw ((eF (gL M)).2.1 i) (n + 1)))))) τ → mv_wp X (d + 3) 177 [.ref 61, .int (nI (bf_ix (eF (gL M)) (pw ((eF (gL M)).2.1 i) n))), .int (nI i)] τ Q := by
    intro n τ Q mt hq
    have h1 := inm_ix (inm_pw hin n)
    refine r_timesOf hM mt h1.1 hi ?_
    unfold pd
    rw [h1.2]
    exact hq
  have ixi : bf_ix (eF (gL M)) (pw ((eF (gL M)).2.1 i) 0) = i := ix_cd hi
  have jlt : ∀ n, bf_ix (eF (gL M)) (pw ((eF (gL M)).2.1 i) n) < (eF (gL M)).1 := fun n => (inm_ix (inm_pw hin n)).1
  have jne : ∀ a b, bf_ix (eF (gL M)) (pw ((eF (gL M)).2.1 i) a) = bf_ix (eF (gL M)) (pw ((eF (gL M)).2.1 i) b) → pw ((eF (gL M)).2.1 i) a = pw ((eF (gL M)).2.1 i) b := by
    intro a b e
    have h1 := (inm_ix (inm_pw hin a)).2
    have h2 := (inm_ix (inm_pw hin b)).2
    rw [← h1, e, h2]
  generalize hN : (eF (gL M)).1 = N at *
  generalize hcc : (eF (gL M)).2.1 i = c at *
  generalize hJ : (fun n => bf_ix (eF (gL M)) (pw c n)) = J at *
  have hJ' : ∀ n, bf_ix (eF (gL M)) (pw c n) = J n := fun n => by rw [← hJ]
  simp only [hJ'] at tms ixi jlt jne
  have h14 : ∀ τ, frX σ τ → τ.1 61 14 = nI N := fun τ h => by rw [h.1 61 14 (by omega) (by omega), m.2.2.1, hN]
  have walk : ∀ r n (τ : mv_S), n + r = ix0 c + (pr0 c + 1) → (∀ a, a < n → τ.1 77 (J a) = nI (a + 1)) → (∀ e, e < N → (∀ a, a < n → ¬ J a = e) → τ.1 77 e = 0) → frX σ τ → mv_wf X (mv_wp X (d + 3)) m_Ref_findsPowers Q 27 [.ref 61, .int (nI i), .int (nI (J n)), .int (nI (n + 1))] [] τ := by
    intro r
    induction r with
    | zero =>
      intro n τ hn h1 h2 hf
      have hn' : n = ix0 c + (pr0 c + 1) := by omega
      have eJ : J n = J (ix0 c) := by rw [← hJ' n, ← hJ' (ix0 c), hn', tb.2.2]
      have v := h1 (ix0 c) (by omega)
      have jl := jlt n
      refine h_Ref_findsPowers_27 ⟨rfl, ⟨rfl, vp_in_nI (N := 256) (by omega) (by omega)⟩, ?_⟩
      rw [nI_clamp (by omega), eJ, v]
      refine ⟨fun _ => ⟨rfl, ⟨rfl, vp_in_nI (N := 256) (by rw [← eJ]; omega) (by omega)⟩, rfl, rfl, rfl, ?_⟩, fun z => absurd z (nI_ne0 (by omega) (by omega))⟩
      refine hQ _ ?_ ?_ ⟨fun c' j q1 q2 => ?_, hf.2⟩
      · rw [mv_rn (by omega), mv_rd]
      · rw [mv_rd, mv_rd, pk_sub (by omega), show n + 1 - (ix0 c + 1) = pr0 c + 1 by omega]
      · rw [mv_rn (by omega), mv_rn (by omega)]; exact hf.1 c' j q1 q2
    | succ r ih =>
      intro n τ hn h1 h2 hf
      have jl := jlt n
      have v := h2 (J n) jl (fun a ha e => tn n (by omega) a ha (jne a n e))
      refine h_Ref_findsPowers_27 ⟨rfl, ⟨rfl, vp_in_nI (N := 256) (by omega) (by omega)⟩, ?_⟩
      rw [nI_clamp (by omega), v]
      refine ⟨fun z => absurd rfl z, fun _ => ⟨rfl, ⟨rfl, vp_in_nI (N := 256) (by omega) (by omega)⟩, rfl, ?_⟩⟩
      have hf2 : frX σ (mv_pi τ 77 (J n) (nI (n + 1))) := ⟨fun c' j q1 q2 => by rw [mv_rn (by omega)]; exact hf.1 c' j q1 q2, hf.2⟩
      refine tms n _ _ (mS _ hf2) ⟨_, rfl, ?_⟩
      rw [nI_1]
      refine ih (n + 1) _ (by omega) (fun a ha => ?_) (fun e he hne => ?_) hf2
      · by_cases ea : a = n
        · subst ea; exact mv_rd
        · have : ¬ J a = J n := fun e => tn n (by omega) a (by omega) (jne a n e)
          rw [mv_rn (by omega)]; exact h1 a (by omega)
      · have h5 := hne n (by omega)
        rw [mv_rn (by omega)]; exact h2 e he (fun a ha => hne a (by omega))
  have fill : ∀ r x (τ : mv_S), x + r = N → (∀ y, y < x → τ.1 77 y = 0) → frX σ τ → mv_wf X (mv_wp X (d + 3)) m_Ref_findsPowers Q 2 [.ref 61, .int (nI i), .int (nI x), .retAddr 0] [] τ := by
    intro r
    induction r with
    | zero =>
      intro x τ hx h1 hf
      refine h_Ref_findsPowers_2 ⟨rfl, ?_⟩
      rw [h14 τ hf]
      refine ⟨fun _ => ?_, fun z => absurd (nI_le (by omega) (by omega)) z⟩
      have := walk (ix0 c + (pr0 c + 1)) 0 τ (by omega) (fun a ha => absurd ha (Nat.not_lt_zero _)) (fun e he _ => h1 e (by omega)) hf
      rw [ixi] at this
      exact this
    | succ r ih =>
      intro x τ hx h1 hf
      refine h_Ref_findsPowers_2 ⟨rfl, ?_⟩
      rw [h14 τ hf]
      refine ⟨fun z => absurd z (nI_ge (by omega) (by omega)), fun _ => ⟨rfl, ⟨rfl, vp_in_nI (N := 256) (by omega) (by omega)⟩, ?_⟩⟩
      rw [nI_clamp (by omega), nI_1]
      refine ih (x + 1) _ (by omega) (fun y hy => ?_) ⟨fun c' j q1 q2 => by rw [mv_rn (by omega)]; exact hf.1 c' j q1 q2, hf.2⟩
      by_cases ey : y = x
      · subst ey; exact mv_rd
      · rw [mv_rn (by omega)]; exact h1 y (by omega)
  exact w_Ref_findsPowers (fill N 0 σ (by omega) (fun y hy => absurd hy (Nat.not_lt_zero _)) ⟨fun _ _ _ _ => rfl, rfl⟩)
theorem S_X {τ : mv_S} (h : frX σ τ) : frS σ τ := ⟨fun c j q => h.1 c j (fun z => q (by unfold sc2; omega)) (fun z => q (by unfold sc2; omega)), h.2⟩
theorem G_X {G : Nat} {τ : mv_S} (h : frX σ τ) (m : iv_G G σ) : iv_G G τ := iv_G_S (h.1 _ _ (by omega) (by omega)) (fun c => h.1 _ _ (by omega) (by omega)) m
theorem op_power {n G : Nat} {Ms : Nat → md_T} {a1 a2 a3 : Int32} (h : iv_M n Ms σ) (hC : iv_C σ) (hR : iv_R n σ) (hG : iv_G G σ) : lw_op X (d + 20) (mo_P n G σ) 110 188 [.int a1, .int a2, .int a3] σ := by
  unfold lw_op
  have h9 := h
  obtain ⟨b1, b2, b3, b4⟩ := h9
  refine (w_WM_power _ _ _ _ _ _ _).mpr ⟨rfl, ?_⟩
  rcases ix_cs a1 n (by omega) with ⟨c1, c2⟩ | ⟨k, hk, rfl, c1⟩
  · refine s_learnt_no b2 c1 ⟨_, rfl, fun _ => ⟨_, rfl, ?_⟩, fun z => absurd rfl z⟩
    refine (w_Ref_power _ _ _ _ _ _ _).mpr ⟨rfl, ?_⟩
    rw [r_isMachine b3 b1, if_neg c2]
    exact ⟨_, rfl, fun _ => ⟨rfl, mo_same hC hR hG⟩, fun z => absurd rfl z⟩
  have hle := eF_le (g := gL (nrm (Ms k)))
  refine s_learnt_ok h hC hk (fun τ1 e1 e2 e3 => ⟨_, rfl, fun z => absurd z (by decide), fun _ => ⟨rfl, rfl, ?_⟩⟩)
  obtain ⟨f3, f4, hM, f5⟩ := mo_ref h hR hk e1 e2 e3 (frS_rf τ1) (Nat.le_add_right G 300) (G_Y e3 hG)
  have bad : ¬ (0 ≤ a3.toInt ∧ a3.toInt ≤ 2) → mv_wp X (d + 20) 188 [.ref 61, .int (nI k), .int a2, .int a3] τ1 (fun r2 σ2 => r2 = some (.int (-2)) ∧ mo_P n G σ σ2) := by
    intro hb
    refine (w_Ref_power _ _ _ _ _ _ _).mpr ⟨rfl, ?_⟩
    rw [r_isMachine f3 b1, if_pos c1]
    refine ⟨_, rfl, fun z => absurd z (by decide), fun _ => ?_⟩
    rw [r_inI (A := 0) (C := 2) rfl rfl, if_neg hb]
    exact ⟨_, rfl, fun z => absurd rfl z, fun _ => ⟨rfl, f4⟩⟩
  have go : ∀ (Q : mv_Q), (0 ≤ a3.toInt ∧ a3.toInt ≤ 2) → (∀ τ3, moR (nrm (Ms k)) τ3 → iv_G G τ3 → (∀ τ4 G4, frS τ3 τ4 → G4 ≤ G + 300 → iv_G G4 τ4 → mo_P n G σ τ4) → mv_wp X (d + 19) 181 [.ref 61, .int a2] τ3 (fun r4 σ4 => ∃ v4, r4 = some (.int v4) ∧ ((¬ v4 = 0 → (¬ a3 = 2 → mv_sh 61 = 12 ∧ mv_wp X (d + 19) 187 [.ref 61, .int a2] σ4 (fun r5 σ5 => r5 = none ∧ ((¬ a3 = 0 → mv_sh 61 = 12 ∧ (Q (some (.int (σ5.1 61 26))) σ5)) ∧ (a3 = 0 → mv_sh 61 = 12 ∧ (Q (some (.int (σ5.1 61 25))) σ5))))) ∧ (a3 = 2 → mv_sh 61 = 12 ∧ mv_wp X (d + 19) 179 [.ref 61, .int a2] σ4 (fun r6 σ6 => ∃ v6, r6 = some (.int v6) ∧ (Q (some (.int v6)) σ6)))) ∧ (v4 = 0 → Q (some (.int (-2))) σ4)))) → mv_wp X (d + 20) 188 [.ref 61, .int (nI k), .int a2, .int a3] τ1 Q := by
    intro Q hb hh
    refine (w_Ref_power _ _ _ _ _ _ _).mpr ⟨rfl, ?_⟩
    rw [r_isMachine f3 b1, if_pos c1]
    refine ⟨_, rfl, fun z => absurd z (by decide), fun _ => ?_⟩
    rw [r_inI (A := 0) (C := 2) rfl rfl, if_pos hb]
    refine ⟨_, rfl, fun _ => ⟨rfl, ?_⟩, fun z => absurd z (by decide)⟩
    exact f5 _ _ _ (fun τ3 q1 q2 q3 q4 => ⟨rfl, rfl, hh τ3 q1 q3 q4⟩)
  refine c_has e1 ?_
  rcases ix_cs a2 (eF (gL (nrm (Ms k)))).1 (by omega) with ⟨i1, i2⟩ | ⟨i, hi, rfl, i1⟩
  · rw [if_neg i2]
    refine ⟨_, rfl, fun _ => ⟨_, rfl, ?_⟩, fun z => absurd rfl z⟩
    by_cases e : 0 ≤ a3.toInt ∧ a3.toInt ≤ 2
    · refine go _ e (fun τ3 g1 g2 g3 => r_isElement g1 ?_)
      rw [if_neg i2]
      exact ⟨_, rfl, fun z => absurd rfl z, fun _ => ⟨rfl, g3 τ3 G (frS_rf _) (Nat.le_add_right _ _) g2⟩⟩
    · exact bad e
  rw [if_pos i1]
  refine ⟨_, rfl, fun z => absurd z (by decide), fun _ => ?_⟩
  by_cases t1 : a3.toInt < 0
  · repeat (first
        | (refine And.intro (show mv_sh _ = _ from rfl) ?_)
        | (refine And.intro (show mv_sh _ = _ by assumption) ?_)
        | (refine And.intro (show _ ≤ mv_sh _ from Nat.le_of_ble_eq_true rfl) ?_)
        | (refine And.intro (show _ ≤ mv_sh _ ∧ vp_in _ _ from ⟨Nat.le_of_ble_eq_true rfl, by (first | (simp (disch := omega) only [ln_14, ln_17, ln_18, ln_19, ln_20, ln_21, ln_22, ln_23, ln_62, ln_64, ln_70, ln_71, ln_72, ln_73, ln_76, ln_77, not_true_eq_false, not_false_eq_true, Classical.not_not, ofn, b_z, b_nz, b_z', b_nz', mv_rd, mv_rn, mv_ld, mv_ln_, lit, nI_add, pk_mul, nI_clamp]; exact vp_in_nI (by omega) (by omega)) | (exact vp_in_nI (by omega) (by omega)))⟩) ?_)
        | (refine And.intro (show (_ : Int32) = 0 ∨ (_ : Int32) = 1 from by first | exact Or.inl rfl | exact Or.inr rfl | exact bI_01 _) ?_)
        | (refine And.intro (show mv_sh _ = _ ∧ vp_in _ _ from ⟨rfl, by (first | (simp (disch := omega) only [ln_14, ln_17, ln_18, ln_19, ln_20, ln_21, ln_22, ln_23, ln_62, ln_64, ln_70, ln_71, ln_72, ln_73, ln_76, ln_77, not_true_eq_false, not_false_eq_true, Classical.not_not, ofn, b_z, b_nz, b_z', b_nz', mv_rd, mv_rn, mv_ld, mv_ln_, lit, nI_add, pk_mul, nI_clamp]; exact vp_in_nI (by omega) (by omega)) | (exact vp_in_nI (by omega) (by omega)))⟩) ?_)
        | (refine And.intro (show mv_sh _ = _ ∧ vp_in _ _ from ⟨by assumption, by (first | (simp (disch := omega) only [ln_14, ln_17, ln_18, ln_19, ln_20, ln_21, ln_22, ln_23, ln_62, ln_64, ln_70, ln_71, ln_72, ln_73, ln_76, ln_77, not_true_eq_false, not_false_eq_true, Classical.not_not, ofn, b_z, b_nz, b_z', b_nz', mv_rd, mv_rn, mv_ld, mv_ln_, lit, nI_add, pk_mul, nI_clamp]; exact vp_in_nI (by omega) (by omega)) | (exact vp_in_nI (by omega) (by omega)))⟩) ?_)
        | (refine And.intro (show ¬ (_ : Int32) = 0 by decide) ?_)
        | (refine ⟨_, rfl, ?_⟩)
        | (refine And.intro (show (none : Option Value) = none from rfl) ?_)
        | (refine Or.inl ⟨rfl, ?_⟩)
        | (refine Or.inr ⟨_, rfl, ?_⟩)
        | (refine dt (by (first | assumption | omega | ((try simp (disch := omega) only [not_true_eq_false, not_false_eq_true, Classical.not_not, ofn, b_z, b_nz, b_z', b_nz', mv_rd, mv_rn, mv_ld, mv_ln_, lit, nI_add, pk_mul, nI_clamp]); (try simp (disch := omega) only [fa_lt, fa_le, fa_eq, nI_toInt, pk_sub_toInt, nI_m1, nI_m1', not_false_eq_true, true_and, and_true]); first | done | omega))) ?_)
        | (refine df (by (first | assumption | omega | ((try simp (disch := omega) only [not_true_eq_false, not_false_eq_true, Classical.not_not, ofn, b_z, b_nz, b_z', b_nz', mv_rd, mv_rn, mv_ld, mv_ln_, lit, nI_add, pk_mul, nI_clamp]); (try simp (disch := omega) only [fa_lt, fa_le, fa_eq, nI_toInt, pk_sub_toInt, nI_m1, nI_m1', not_false_eq_true, true_and, and_true]); first | done | omega))) ?_)
        | (refine dt' (by (first | assumption | omega | ((try simp (disch := omega) only [not_true_eq_false, not_false_eq_true, Classical.not_not, ofn, b_z, b_nz, b_z', b_nz', mv_rd, mv_rn, mv_ld, mv_ln_, lit, nI_add, pk_mul, nI_clamp]); (try simp (disch := omega) only [fa_lt, fa_le, fa_eq, nI_toInt, pk_sub_toInt, nI_m1, nI_m1', not_false_eq_true, true_and, and_true]); first | done | omega))) ?_)
        | (refine df' (by (first | assumption | omega | ((try simp (disch := omega) only [not_true_eq_false, not_false_eq_true, Classical.not_not, ofn, b_z, b_nz, b_z', b_nz', mv_rd, mv_rn, mv_ld, mv_ln_, lit, nI_add, pk_mul, nI_clamp]); (try simp (disch := omega) only [fa_lt, fa_le, fa_eq, nI_toInt, pk_sub_toInt, nI_m1, nI_m1', not_false_eq_true, true_and, and_true]); first | done | omega))) ?_)
        )
    exact bad (by omega)
  by_cases t2 : 2 < a3.toInt
  · repeat (first
        | (refine And.intro (show mv_sh _ = _ from rfl) ?_)
        | (refine And.intro (show mv_sh _ = _ by assumption) ?_)
        | (refine And.intro (show _ ≤ mv_sh _ from Nat.le_of_ble_eq_true rfl) ?_)
        | (refine And.intro (show _ ≤ mv_sh _ ∧ vp_in _ _ from ⟨Nat.le_of_ble_eq_true rfl, by (first | (simp (disch := omega) only [ln_14, ln_17, ln_18, ln_19, ln_20, ln_21, ln_22, ln_23, ln_62, ln_64, ln_70, ln_71, ln_72, ln_73, ln_76, ln_77, not_true_eq_false, not_false_eq_true, Classical.not_not, ofn, b_z, b_nz, b_z', b_nz', mv_rd, mv_rn, mv_ld, mv_ln_, lit, nI_add, pk_mul, nI_clamp]; exact vp_in_nI (by omega) (by omega)) | (exact vp_in_nI (by omega) (by omega)))⟩) ?_)
        | (refine And.intro (show (_ : Int32) = 0 ∨ (_ : Int32) = 1 from by first | exact Or.inl rfl | exact Or.inr rfl | exact bI_01 _) ?_)
        | (refine And.intro (show mv_sh _ = _ ∧ vp_in _ _ from ⟨rfl, by (first | (simp (disch := omega) only [ln_14, ln_17, ln_18, ln_19, ln_20, ln_21, ln_22, ln_23, ln_62, ln_64, ln_70, ln_71, ln_72, ln_73, ln_76, ln_77, not_true_eq_false, not_false_eq_true, Classical.not_not, ofn, b_z, b_nz, b_z', b_nz', mv_rd, mv_rn, mv_ld, mv_ln_, lit, nI_add, pk_mul, nI_clamp]; exact vp_in_nI (by omega) (by omega)) | (exact vp_in_nI (by omega) (by omega)))⟩) ?_)
        | (refine And.intro (show mv_sh _ = _ ∧ vp_in _ _ from ⟨by assumption, by (first | (simp (disch := omega) only [ln_14, ln_17, ln_18, ln_19, ln_20, ln_21, ln_22, ln_23, ln_62, ln_64, ln_70, ln_71, ln_72, ln_73, ln_76, ln_77, not_true_eq_false, not_false_eq_true, Classical.not_not, ofn, b_z, b_nz, b_z', b_nz', mv_rd, mv_rn, mv_ld, mv_ln_, lit, nI_add, pk_mul, nI_clamp]; exact vp_in_nI (by omega) (by omega)) | (exact vp_in_nI (by omega) (by omega)))⟩) ?_)
        | (refine And.intro (show ¬ (_ : Int32) = 0 by decide) ?_)
        | (refine ⟨_, rfl, ?_⟩)
        | (refine And.intro (show (none : Option Value) = none from rfl) ?_)
        | (refine Or.inl ⟨rfl, ?_⟩)
        | (refine Or.inr ⟨_, rfl, ?_⟩)
        | (refine dt (by (first | assumption | omega | ((try simp (disch := omega) only [not_true_eq_false, not_false_eq_true, Classical.not_not, ofn, b_z, b_nz, b_z', b_nz', mv_rd, mv_rn, mv_ld, mv_ln_, lit, nI_add, pk_mul, nI_clamp]); (try simp (disch := omega) only [fa_lt, fa_le, fa_eq, nI_toInt, pk_sub_toInt, nI_m1, nI_m1', not_false_eq_true, true_and, and_true]); first | done | omega))) ?_)
        | (refine df (by (first | assumption | omega | ((try simp (disch := omega) only [not_true_eq_false, not_false_eq_true, Classical.not_not, ofn, b_z, b_nz, b_z', b_nz', mv_rd, mv_rn, mv_ld, mv_ln_, lit, nI_add, pk_mul, nI_clamp]); (try simp (disch := omega) only [fa_lt, fa_le, fa_eq, nI_toInt, pk_sub_toInt, nI_m1, nI_m1', not_false_eq_true, true_and, and_true]); first | done | omega))) ?_)
        | (refine dt' (by (first | assumption | omega | ((try simp (disch := omega) only [not_true_eq_false, not_false_eq_true, Classical.not_not, ofn, b_z, b_nz, b_z', b_nz', mv_rd, mv_rn, mv_ld, mv_ln_, lit, nI_add, pk_mul, nI_clamp]); (try simp (disch := omega) only [fa_lt, fa_le, fa_eq, nI_toInt, pk_sub_toInt, nI_m1, nI_m1', not_false_eq_true, true_and, and_true]); first | done | omega))) ?_)
        | (refine df' (by (first | assumption | omega | ((try simp (disch := omega) only [not_true_eq_false, not_false_eq_true, Classical.not_not, ofn, b_z, b_nz, b_z', b_nz', mv_rd, mv_rn, mv_ld, mv_ln_, lit, nI_add, pk_mul, nI_clamp]); (try simp (disch := omega) only [fa_lt, fa_le, fa_eq, nI_toInt, pk_sub_toInt, nI_m1, nI_m1', not_false_eq_true, true_and, and_true]); first | done | omega))) ?_)
        )
    exact bad (by omega)
  obtain ⟨p, hp, rfl⟩ := (ix_cs2 a3).resolve_left (by omega)
  rw [nI_toInt hp] at t1 t2 go
  have go := go
  have hp3 : p = 0 ∨ p = 1 ∨ p = 2 := by omega
  refine ⟨fun z => absurd z (nI_pos hp), fun _ => ⟨fun _ => ?_, fun z => absurd (nI_le (b := 2) (by omega) (by omega)) z⟩⟩
  rcases hp3 with rfl | rfl | rfl
  · refine ⟨fun _ => ⟨fun z => absurd rfl z, fun _ => ⟨rfl, rfl, ?_⟩⟩, fun z => absurd z (by decide)⟩
    refine c_indexOf e1 hi ⟨_, rfl, _, rfl, ?_⟩
    refine go _ (by omega) (fun τ3 g1 g2 g3 => r_isElement g1 ?_)
    rw [if_pos i1]
    refine ⟨_, rfl, fun _ => ⟨fun _ => ⟨rfl, ?_⟩, fun z => absurd z (by decide)⟩, fun z => absurd z (by decide)⟩
    refine r_findsPowers hM g1 hi (fun τ4 s1 s2 s3 => ⟨rfl, fun z => absurd rfl z, fun _ => ⟨rfl, ?_⟩⟩)
    rw [s1]
    exact ⟨rfl, g3 τ4 G (S_X s3) (Nat.le_add_right _ _) (G_X s3 g2)⟩
  · refine ⟨fun _ => ⟨fun _ => ⟨rfl, rfl, ?_⟩, fun z => absurd z (by decide)⟩, fun z => absurd z (by decide)⟩
    refine c_periodOf e1 hi ⟨_, rfl, _, rfl, ?_⟩
    refine go _ (by omega) (fun τ3 g1 g2 g3 => r_isElement g1 ?_)
    rw [if_pos i1]
    refine ⟨_, rfl, fun _ => ⟨fun _ => ⟨rfl, ?_⟩, fun z => absurd z (by decide)⟩, fun z => absurd z (by decide)⟩
    refine r_findsPowers hM g1 hi (fun τ4 s1 s2 s3 => ⟨rfl, fun _ => ⟨rfl, ?_⟩, fun z => absurd z (by decide)⟩)
    rw [s2]
    exact ⟨rfl, g3 τ4 G (S_X s3) (Nat.le_add_right _ _) (G_X s3 g2)⟩
  · refine ⟨fun z => absurd rfl z, fun _ => ⟨rfl, rfl, rfl, rfl, ?_⟩⟩
    refine c_code e1 hi ⟨_, rfl, rfl, ?_⟩
    refine c_omega e1 hi ⟨_, rfl, rfl, ?_⟩
    refine c_number e1 (inm_om ⟨i, hi, rfl⟩) ⟨_, rfl, _, rfl, ?_⟩
    refine go _ (by omega) (fun τ3 g1 g2 g3 => r_isElement g1 ?_)
    rw [if_pos i1]
    refine ⟨_, rfl, fun _ => ⟨fun z => absurd rfl z, fun _ => ⟨rfl, ?_⟩⟩, fun z => absurd z (by decide)⟩
    exact r_omegaOf hM g1 hi ⟨_, rfl, rfl, g3 τ3 G (frS_rf _) (Nat.le_add_right _ _) g2⟩
theorem op_of {n G : Nat} {Ms : Nat → md_T} {a1 a2 : Int32} (h : iv_M n Ms σ) (hC : iv_C σ) (hR : iv_R n σ) (hG : iv_G G σ) : lw_op X (d + 20) (mo_P n G σ) 102 166 [.int a1, .int a2] σ := by
  unfold lw_op
  have h9 := h
  obtain ⟨b1, b2, b3, b4⟩ := h9
  have same := mo_same hC hR hG
  refine (w_WM_of _ _ _ _ _ _).mpr ⟨rfl, ?_⟩
  rcases ix_cs a1 n (by omega) with ⟨c1, c2⟩ | ⟨k, hk, rfl, c1⟩
  · rw [s_machineAt_no b2 c1]
    refine Or.inl ⟨rfl, _, rfl, ?_⟩
    refine (w_Ref_of _ _ _ _ _ _).mpr ⟨rfl, ?_⟩
    rw [r_isMachine b3 b1, if_neg c2]
    exact ⟨_, rfl, fun _ => ⟨rfl, same⟩, fun z => absurd rfl z⟩
  obtain ⟨m1, m2, m3⟩ := b4 k hk
  have hM := nrm_ok m1
  have hN := nrm_n (Ms k)
  have hr := nrm_rf m3
  have hc := nrm_cl m2
  have ht : mc_at (33 + 4 * k) := (mc_now k (by omega)).1
  have ht1 := ht.1
  have hp4 := md_4 hM
  have hp1 := hM.1
  have start : ∀ τ (Q : mv_Q), τ.1 61 1 = nI n → ((0 : Int32) ≤ a2 → ((3 : Int32) ≤ a2 → ((5 : Int32) ≤ a2 → mv_sh 61 = 12 ∧ mv_wp X (d + 19) 150 [.ref 61, .int (nI k)] τ (fun r2 σ2 => ∃ v2, r2 = some (.int v2) ∧ (mv_wp X (d + 19) 147 [.long (a2.toInt64), .long 10, .long ((9 + (3 * v2) : Int32).toInt64)] σ2 (fun r3 σ3 => ∃ v3, r3 = some (.int v3) ∧ ((¬ v3 = 0 → ¬ 3 = (0 : Int32) ∧ (¬ 3 = (0 : Int32) ∧ (mv_sh 61 = 12 ∧ mv_wp X (d + 19) 153 [.ref 61, .int (nI k), .int ((a2 - 10) / 3), .int ((a2 - 10) - (a2 - 10) / 3 * 3)] σ3 (fun r4 σ4 => ∃ v4, r4 = some (.int v4) ∧ (Q (some (.int v4)) σ4))))) ∧ (v3 = 0 → Q (some (.int (-2))) σ3)))))) ∧ (¬ (5 : Int32) ≤ a2 → mv_sh 61 = 12 ∧ mv_wp X (d + 19) 172 [.ref 61, .int (nI k)] τ (fun r5 σ5 => r5 = none ∧ ((¬ a2 = 3 → mv_sh 61 = 12 ∧ (Q (some (.int (σ5.1 61 8))) σ5)) ∧ (a2 = 3 → mv_sh 61 = 12 ∧ (Q (some (.int (σ5.1 61 7))) σ5)))))) ∧ (¬ (3 : Int32) ≤ a2 → mv_sh 61 = 12 ∧ ((mv_sh 62 = 20 ∧ vp_in ((15 * nI k) + a2) (mv_ln 62)) ∧ (Q (some (.int (τ.1 62 (((15 * nI k) + a2) : Int32).toNatClampNeg))) τ)))) ∧ (¬ (0 : Int32) ≤ a2 → Q (some (.int (-2))) τ) → mv_wp X (d + 20) 166 [.ref 61, .int (nI k), .int a2] τ Q := by
    intro τ Q h61 hh
    refine (w_Ref_of _ _ _ _ _ _).mpr ⟨rfl, ?_⟩
    rw [r_isMachine h61 b1, if_pos c1]
    exact ⟨_, rfl, fun z => absurd z (by decide), fun _ => hh⟩
  rw [s_machineAt_ok b2 b1 hk]
  refine Or.inr ⟨_, rfl, ?_⟩
  by_cases t1 : a2.toInt < 0
  · have l0 : ¬ (0 : Int32) ≤ a2 := by rw [fa_le, Int32.toInt_zero]; omega
    have l10 : a2 < 10 := by rw [fa_lt, show (10 : Int32).toInt = 10 from rfl]; omega
    have ne : ∀ v : Int32, 0 ≤ v.toInt → ¬ a2 = v := fun v hv e => by rw [e] at t1; omega
    refine ⟨fun _ => ⟨fun z => absurd z (ne _ (by decide)), fun _ => ⟨fun z => absurd z (ne _ (by decide)), fun _ => ⟨fun z => absurd z (ne _ (by decide)), fun _ => ⟨fun z => absurd z (ne _ (by decide)), fun _ => ⟨fun z => absurd z (ne _ (by decide)), fun _ => ⟨_, rfl, ?_⟩⟩⟩⟩⟩⟩, fun z => absurd l10 z⟩
    exact start σ _ b3 ⟨fun z => absurd z l0, fun _ => ⟨rfl, same⟩⟩
  obtain ⟨x, hx, rfl⟩ := (ix_cs2 a2).resolve_left t1
  have l0 : (0 : Int32) ≤ nI x := nI_pos' hx
  have least : ∀ (v : md_T → Nat) (f : Nat), (f = 7 ∧ x = 3 ∧ (∀ τ, lpC (nrm (Ms k)) τ → τ.1 13 3 = nI (v (nrm (Ms k))) ) ∧ (∀ τ, lpR (nrm (Ms k)) τ → τ.1 61 7 = nI (v (nrm (Ms k))))) ∨ (f = 8 ∧ x = 4 ∧ (∀ τ, lpC (nrm (Ms k)) τ → τ.1 13 4 = nI (v (nrm (Ms k)))) ∧ (∀ τ, lpR (nrm (Ms k)) τ → τ.1 61 8 = nI (v (nrm (Ms k))))) → ∀ τ, moC (nrm (Ms k)) τ → τ.2 12 14 = lN (kq (nrm (Ms k)) 12) → frY σ τ → mv_wp X (d + 20) 166 [.ref 61, .int (nI k), .int (nI x)] τ (fun r2 σ2 => r2 = some (.int (nI (v (nrm (Ms k))))) ∧ mo_P n G σ σ2) := by
    intro v f hf τ e1 e2 e3
    obtain ⟨f1, f2, f3⟩ := af_R hR hr b3 e3 (frS_rf τ)
    have hx3 : x = 3 ∨ x = 4 := by rcases hf with z | z <;> omega
    refine start τ _ f3 ⟨fun _ => ⟨fun _ => ⟨fun z => absurd z (nI_ge (b := 5) (by omega) (by omega)), fun _ => ⟨rfl, ?_⟩⟩, fun z => absurd (nI_le (a := 3) (by omega) hx) z⟩, fun z => absurd l0 z⟩
    refine r_findsLeast (by omega) hM f2 (fun τ2 p1 p2 p3 => ⟨rfl, ?_⟩)
    have fin : mo_P n G σ τ2 := by
      refine ⟨Or.inr ⟨_, hM, hN, by rw [p2.2]; exact e2, moC_S (fun c j q => p2.1 c j (by omega) (by omega)) e1⟩, Or.inl p3, ⟨G, by omega, iv_G_S ?_ (fun c => ?_) hG⟩, fun c j q => ?_, fun c j q => ?_⟩
      · rw [p2.1 _ _ (by omega) (by omega), e3.1 _ _ (by omega) (by omega)]
      · rw [p2.1 _ _ (by omega) (by omega), e3.1 _ _ (by omega) (by omega)]
      · unfold scM at q
        rw [p2.1 c j (by omega) (by omega), e3.1 c j (by omega) (by omega)]
      · rw [p2.2]; exact e3.2 c j q
    rcases hf with ⟨_, hx, _, hv⟩ | ⟨_, hx, _, hv⟩
    · subst hx
      refine ⟨fun z => absurd rfl z, fun _ => ⟨rfl, ?_⟩⟩
      rw [hv τ2 p1]
      exact ⟨rfl, fin⟩
    · subst hx
      refine ⟨fun _ => ⟨rfl, ?_⟩, fun z => absurd z (by decide)⟩
      rw [hv τ2 p1]
      exact ⟨rfl, fin⟩
  have small : ∀ v : Nat, x < 3 → σ.1 62 (15 * k + x) = nI v → mv_wp X (d + 20) 166 [.ref 61, .int (nI k), .int (nI x)] σ (fun r2 σ2 => r2 = some (.int (nI v)) ∧ mo_P n G σ σ2) := by
    intro v hx3 hv
    refine start σ _ b3 ⟨fun _ => ⟨fun z => absurd z (nI_ge (b := 3) (by omega) (by omega)), fun _ => ⟨rfl, ?_⟩⟩, fun z => absurd l0 z⟩
    rw [show (15 : Int32) = nI 15 from rfl, pk_mul, nI_add, nI_clamp (by omega), hv]
    exact ⟨⟨rfl, vp_in_nI (N := 45) (by omega) (by omega)⟩, rfl, same⟩
  have big : 5 ≤ x → ∀ (Q : mv_Q), ((10 ≤ x ∧ x < 10 + 3 * (Ms k).1) → Q (some (.int (nI ((nrm (Ms k)).2.2.2 (x - 10))))) σ) → (¬ (10 ≤ x ∧ x < 10 + 3 * (Ms k).1) → Q (some (.int (-2))) σ) → mv_wp X (d + 20) 166 [.ref 61, .int (nI k), .int (nI x)] σ Q := by
    intro hx5 Q h1 h2
    refine start σ _ b3 ⟨fun _ => ⟨fun _ => ⟨fun _ => ⟨rfl, ?_⟩, fun z => absurd (nI_le (a := 5) hx5 hx) z⟩, fun z => absurd (nI_le (a := 3) (by omega) hx) z⟩, fun z => absurd l0 z⟩
    rw [r_pointsOf (by omega), m3.1]
    refine ⟨_, rfl, ?_⟩
    have hC : (9 + 3 * nI (Ms k).1 : Int32).toInt64.toInt = ((9 + 3 * (Ms k).1 : Nat) : Int) := by
      rw [show (3 : Int32) = nI 3 from rfl, show (9 : Int32) = nI 9 from rfl, pk_mul, nI_add, Int32.toInt_toInt64, nI_toInt (by have : (nrm (Ms k)).1 = (Ms k).1 := rfl; omega)]
    rw [r_inI (A := 10) (C := ((9 + 3 * (Ms k).1 : Nat) : Int)) rfl hC, nI_toInt hx]
    have hpe : (nrm (Ms k)).1 = (Ms k).1 := rfl
    by_cases e : 10 ≤ x ∧ x < 10 + 3 * (Ms k).1
    · rw [if_pos (by omega)]
      refine ⟨_, rfl, fun _ => ⟨by decide, by decide, rfl, ?_⟩, fun z => absurd z (by decide)⟩
      rw [show nI x - 10 = nI (x - 10) from pk_sub (b := 10) (by omega), q_rem3 (by omega), q_div3 (by omega)]
      refine r_toM (M := nrm (Ms k)) (by omega) hr (by omega) (by omega) ⟨_, rfl, ?_⟩
      rw [show 3 * ((x - 10) / 3) + (x - 10) % 3 = x - 10 by omega]
      exact h1 e
    · rw [if_neg (by omega)]
      exact ⟨_, rfl, fun z => absurd rfl z, fun _ => h2 e⟩
  by_cases hx5 : x < 5
  · have l10 : nI x < 10 := nI_lt (b := 10) (by omega) (by omega)
    have hx' : x = 0 ∨ x = 1 ∨ x = 2 ∨ x = 3 ∨ x = 4 := by omega
    refine ⟨fun _ => ?_, fun z => absurd l10 z⟩
    rcases hx' with rfl | rfl | rfl | rfl | rfl
    · refine ⟨fun _ => ⟨ht1, _, rfl, ?_⟩, fun z => absurd rfl z⟩
      rw [m2.1]
      exact small _ (by decide) m3.1
    · refine ⟨fun z => absurd z (by decide), fun _ => ⟨fun _ => ⟨ht1, _, rfl, ?_⟩, fun z => absurd (by decide) z⟩⟩
      rw [m2.2.1]
      exact small _ (by decide) m3.2.1
    · refine ⟨fun z => absurd z (by decide), fun _ => ⟨fun z => absurd z (by decide), fun _ => ⟨fun _ => ⟨ht1, _, rfl, ?_⟩, fun z => absurd (by decide) z⟩⟩⟩
      rw [m2.2.2.1]
      exact small _ (by decide) m3.2.2.1
    · refine ⟨fun z => absurd z (by decide), fun _ => ⟨fun z => absurd z (by decide), fun _ => ⟨fun z => absurd z (by decide), fun _ => ⟨fun _ => ⟨rfl, rfl, ?_⟩, fun z => absurd (by decide) z⟩⟩⟩⟩
      refine s_learn ht (by omega) hM hN hc hC (fun τ e1 e2 e3 => ⟨rfl, rfl, rfl, rfl, _, rfl, ?_⟩)
      rw [e1.1.1]
      exact least (fun M => (lF M).1) 7 (Or.inl ⟨rfl, rfl, fun _ z => z.1, fun _ z => z.1⟩) τ e1 e2 e3
    · refine ⟨fun z => absurd z (by decide), fun _ => ⟨fun z => absurd z (by decide), fun _ => ⟨fun z => absurd z (by decide), fun _ => ⟨fun z => absurd z (by decide), fun _ => ⟨fun _ => ⟨rfl, rfl, ?_⟩, fun z => absurd (by decide) z⟩⟩⟩⟩⟩
      refine s_learn ht (by omega) hM hN hc hC (fun τ e1 e2 e3 => ⟨rfl, rfl, rfl, rfl, _, rfl, ?_⟩)
      rw [e1.1.2.1]
      exact least lE 8 (Or.inr ⟨rfl, rfl, fun _ z => z.2.1, fun _ z => z.2.1⟩) τ e1 e2 e3
  · have ne : ∀ j, j < 5 → ¬ nI x = nI j := fun j hj z => by have := (nI_eq hx (by omega)).mp z; omega
    have n0 : ¬ nI x = 0 := ne 0 (by decide)
    have n1 : ¬ nI x = (0 + 1) := fun z => ne 1 (by decide) (z.trans (by decide))
    have n2 : ¬ nI x = ((0 + 1) + 1) := fun z => ne 2 (by decide) (z.trans (by decide))
    have n3 : ¬ nI x = (((0 + 1) + 1) + 1) := fun z => ne 3 (by decide) (z.trans (by decide))
    have n4 : ¬ nI x = ((((0 + 1) + 1) + 1) + 1) := fun z => ne 4 (by decide) (z.trans (by decide))
    have hpe : (nrm (Ms k)).1 = (Ms k).1 := rfl
    by_cases hx10 : x < 10
    · refine ⟨fun _ => ⟨fun z => absurd z n0, fun _ => ⟨fun z => absurd z n1, fun _ => ⟨fun z => absurd z n2, fun _ => ⟨fun z => absurd z n3, fun _ => ⟨fun z => absurd z n4, fun _ => ⟨_, rfl, ?_⟩⟩⟩⟩⟩⟩, fun z => absurd (nI_lt (b := 10) hx10 (by omega)) z⟩
      exact big (by omega) _ (fun z => absurd z (by omega)) (fun _ => ⟨rfl, same⟩)
    · refine ⟨fun z => absurd z (nI_nlt (b := 10) (by omega) hx), fun _ => ⟨ht1, ?_⟩⟩
      rw [m2.1, show (3 : Int32) = nI 3 from rfl, show (10 : Int32) = nI 10 from rfl, pk_mul, nI_add]
      by_cases e : x < 10 + 3 * (Ms k).1
      · refine ⟨fun z => absurd z (nI_ge e (by omega)), fun _ => ⟨by decide, by decide, ht1, ?_⟩⟩
        rw [show nI x - nI 10 = nI (x - 10) from pk_sub (by omega), show nI (x - 10) - nI (x - 10) / nI 3 * nI 3 = nI ((x - 10) % 3) from q_rem3 (by omega), show nI (x - 10) / nI 3 = nI ((x - 10) / 3) from q_div3 (by omega)]
        refine s_nextM (M := nrm (Ms k)) ht hc (by omega) (by omega) ⟨_, rfl, _, rfl, ?_⟩
        rw [show 3 * ((x - 10) / 3) + (x - 10) % 3 = x - 10 by omega]
        exact big (by omega) _ (fun _ => ⟨rfl, same⟩) (fun z => absurd ⟨by omega, e⟩ z)
      · refine ⟨fun _ => ⟨fun z => absurd z n0, fun _ => ⟨fun z => absurd z n1, fun _ => ⟨fun z => absurd z n2, fun _ => ⟨fun z => absurd z n3, fun _ => ⟨fun z => absurd z n4, fun _ => ⟨_, rfl, ?_⟩⟩⟩⟩⟩⟩, fun z => absurd (nI_le (by omega) hx) z⟩
        exact big (by omega) _ (fun z => absurd z (by omega)) (fun _ => ⟨rfl, same⟩)
end POWER
