/-! ===== op wrong, op holds ===== -/
theorem nI_nm1 {a : Nat} (ha : a < 2 ^ 31) : ¬ nI a = -1 := fun z => by
  have : (nI a).toInt = -1 := by rw [z]; exact nI_m1
  rw [nI_toInt ha] at this
  omega
section OPWRONG
variable {X : mv_X} {d : Nat} {σ : mv_S} {Q : mv_Q} {M : md_T}
theorem r_by1 {law : Nat} (hl : law < 12) (hQ : Q (some (.int (if by1 law = true then 1 else 0))) σ) : mv_wp X (d + 1) 196 [.int (nI law)] σ Q := by
  refine (w_Ref_isByOne _ _ _ _ _).mpr ?_
  rcases by1_cs law with ⟨e, b⟩ | ⟨⟨e0, e1, e3⟩, b⟩
  · rw [b, if_pos rfl] at hQ
    rcases e with rfl | rfl | rfl
    · exact ⟨fun _ => ⟨Or.inr rfl, hQ⟩, fun z => absurd rfl z⟩
    · exact ⟨fun z => absurd z (by decide), fun _ => ⟨fun _ => ⟨Or.inr rfl, hQ⟩, fun z => absurd rfl z⟩⟩
    · exact ⟨fun z => absurd z (by decide), fun _ => ⟨fun z => absurd z (by decide), fun _ => ⟨fun z => absurd rfl z, fun _ => ⟨Or.inr rfl, hQ⟩⟩⟩⟩
  · rw [b, if_neg (by decide)] at hQ
    exact ⟨fun z => absurd (nI_28 (b := 0) (by omega) (by omega) z) e0, fun _ => ⟨fun z => absurd (nI_28 (b := 1) (by omega) (by omega) z) e1, fun _ => ⟨fun _ => ⟨Or.inl rfl, hQ⟩, fun z => absurd (nI_28 (b := 3) (by omega) (by omega) z) e3⟩⟩⟩
def frv (σ τ : mv_S) : Prop := (∀ c j, ¬ (c = 61 ∧ (j = 31 ∨ j = 32)) → τ.1 c j = σ.1 c j) ∧ τ.2 = σ.2
theorem tbR_S {σ τ : mv_S} (h : frv σ τ) (t : tbR M σ) : tbR M τ := ⟨moR_S (fun c j q => h.1 c j (by omega)) t.1, fun a b ha hb => by rw [h.1 _ _ (by omega)]; exact t.2.1 a b ha hb, fun a ha => by rw [h.1 _ _ (by omega)]; exact t.2.2 a ha⟩
theorem v_w {σ τ : mv_S} (h : frv σ τ) : frw σ τ := ⟨fun c j _ _ q => h.1 c j q, h.2⟩
theorem r_findsWrong {law : Nat} (hl : law < 12) (t : tbR M σ)
    (h0 : ∀ τ, frv σ τ → wrN (eF (gL M)).1 (oth law (eF (gL M)).1) (lawb (gL M) law) → τ.1 61 31 = -1 → τ.1 61 32 = -1 → Q none τ)
    (h1 : ∀ τ i j, frv σ τ → wrF (eF (gL M)).1 (oth law (eF (gL M)).1) (lawb (gL M) law) i j → τ.1 61 31 = nI i → τ.1 61 32 = wrB law j → Q none τ) : mv_wp X (d + 5) 201 [.ref 61, .int (nI law)] σ Q := by
  have hle := eF_le (g := gL M)
  have hps := eF_pos (g := gL M)
  have h14 := t.1.2.2.1
  have ho : oth law (eF (gL M)).1 ≤ 256 := by unfold oth; split <;> omega
  have hoN : ∀ j, j < oth law (eF (gL M)).1 → j < (eF (gL M)).1 := fun j hj => by
    unfold oth at hj
    split at hj <;> omega
  have fin : ∀ i j, wrF (eF (gL M)).1 (oth law (eF (gL M)).1) (lawb (gL M) law) i j → mv_wp X (d + 4) 196 [.int (nI law)] (mv_pi σ 61 31 (nI i)) (fun r3 σ3 => ∃ v3, r3 = some (.int v3) ∧ ((v3 = 0 → mv_sh 61 = 12 ∧ Q none (mv_pi σ3 61 32 (nI j))) ∧ (¬ v3 = 0 → mv_sh 61 = 12 ∧ Q none (mv_pi σ3 61 32 (-1))))) := by
    intro i j hw
    refine r_by1 hl ⟨_, rfl, ?_⟩
    have f : ∀ b, wrB law j = b → Q none (mv_pi (mv_pi σ 61 31 (nI i)) 61 32 b) := fun b hb => h1 _ i j ⟨fun c y q => by rw [mv_rn (by omega), mv_rn (by omega)], rfl⟩ hw (by rw [mv_rn (by omega), mv_rd]) (by rw [mv_rd, hb])
    by_cases eb : by1 law = true
    · rw [if_pos eb]
      exact ⟨fun z => absurd z (by decide), fun _ => ⟨rfl, f _ (by unfold wrB; rw [if_pos eb])⟩⟩
    · rw [if_neg eb]
      exact ⟨fun _ => ⟨rfl, f _ (by unfold wrB; rw [if_neg eb])⟩, fun z => absurd rfl z⟩
  refine w_Ref_findsWrong ?_
  have outer : ∀ r i, i + r = (eF (gL M)).1 → (∀ i' j', i' < i → j' < oth law (eF (gL M)).1 → lawb (gL M) law i' j' = true) → mv_wf X (mv_wp X (d + 4)) m_Ref_findsWrong Q 2 [.ref 61, .int (nI law), .int (nI i), .retAddr 0] [] σ := by
    intro r
    induction r with
    | zero =>
      intro i hi p
      refine h_Ref_findsWrong_2 ⟨rfl, ?_⟩
      rw [h14]
      exact ⟨fun _ => ⟨rfl, rfl, h0 _ ⟨fun c y q => by rw [mv_rn (by omega), mv_rn (by omega)], rfl⟩ (fun i' j' q1 q2 => p i' j' (by omega) q2) (by rw [mv_rn (by omega), mv_rd]) mv_rd⟩, fun z => absurd (nI_le (by omega) (by omega)) z⟩
    | succ r ih =>
      intro i hi p
      have inner : ∀ s j, j + s = oth law (eF (gL M)).1 → (∀ j', j' < j → lawb (gL M) law i j' = true) → mv_wf X (mv_wp X (d + 4)) m_Ref_findsWrong Q 12 [.ref 61, .int (nI law), .int (nI i), .int (nI j)] [] σ := by
        intro s
        induction s with
        | zero =>
          intro j hj p2
          have nx : mv_wf X (mv_wp X (d + 4)) m_Ref_findsWrong Q 2 [.ref 61, .int (nI law), .int (nI i + 1), .retAddr 0] [] σ := by
            rw [nI_1]
            refine ih (i + 1) (by omega) (fun i' j' q1 q2 => ?_)
            by_cases e : i' = i
            · rw [e]; exact p2 j' (by omega)
            · exact p i' j' (by omega) q2
          refine h_Ref_findsWrong_12 (r_by1 hl ⟨_, rfl, ?_⟩)
          unfold oth at hj
          by_cases eb : by1 law = true
          · rw [if_pos eb] at hj ⊢
            exact ⟨fun z => absurd z (by decide), fun _ => ⟨fun _ => nx, fun z => absurd (nI_le (a := 1) (by omega) (by omega)) z⟩⟩
          · rw [if_neg eb] at hj ⊢
            refine ⟨fun _ => ⟨rfl, ?_⟩, fun z => absurd rfl z⟩
            rw [h14]
            exact ⟨fun _ => nx, fun z => absurd (nI_le (by omega) (by omega)) z⟩
        | succ s ih2 =>
          intro j hj p2
          have go : mv_wp X (d + 4) 200 [.ref 61, .int (nI law), .int (nI i), .int (nI j)] σ (fun r2 σ2 => ∃ v2, r2 = some (.int v2) ∧ ((¬ v2 = 0 → mv_wf X (mv_wp X (d + 4)) m_Ref_findsWrong Q 12 [.ref 61, .int (nI law), .int (nI i), .int (nI j + 1)] [] σ2) ∧ (v2 = 0 → mv_sh 61 = 12 ∧ mv_wp X (d + 4) 196 [.int (nI law)] (mv_pi σ2 61 31 (nI i)) (fun r3 σ3 => ∃ v3, r3 = some (.int v3) ∧ ((v3 = 0 → mv_sh 61 = 12 ∧ Q none (mv_pi σ3 61 32 (nI j))) ∧ (¬ v3 = 0 → mv_sh 61 = 12 ∧ Q none (mv_pi σ3 61 32 (-1)))))))) := by
            refine r_isSo hl t (by omega) (hoN j (by omega)) ⟨_, rfl, ?_⟩
            by_cases e : lawb (gL M) law i j = true
            · rw [if_pos e]
              refine ⟨fun _ => ?_, fun z => absurd z (by decide)⟩
              rw [nI_1]
              refine ih2 (j + 1) (by omega) (fun j' q => ?_)
              by_cases e2 : j' = j
              · rw [e2]; exact e
              · exact p2 j' (by omega)
            · rw [if_neg e]
              exact ⟨fun z => absurd rfl z, fun _ => ⟨rfl, fin i j ⟨by omega, by omega, eq_false_of_ne_true e, p, p2⟩⟩⟩
          refine h_Ref_findsWrong_12 (r_by1 hl ⟨_, rfl, ?_⟩)
          by_cases eb : by1 law = true
          · rw [if_pos eb]
            refine ⟨fun z => absurd z (by decide), fun _ => ⟨fun z => absurd z (nI_ge (b := 1) ?_ (by omega)), fun _ => ⟨rfl, go⟩⟩⟩
            unfold oth at hj
            rw [if_pos eb] at hj
            omega
          · rw [if_neg eb]
            refine ⟨fun _ => ⟨rfl, ?_⟩, fun z => absurd rfl z⟩
            rw [h14]
            have := hoN j (by omega)
            exact ⟨fun z => absurd z (nI_ge (by omega) (by omega)), fun _ => ⟨rfl, go⟩⟩
      refine h_Ref_findsWrong_2 ⟨rfl, ?_⟩
      rw [h14]
      exact ⟨fun z => absurd z (nI_ge (by omega) (by omega)), fun _ => inner (oth law (eF (gL M)).1) 0 (by omega) (fun j' q => absurd q (Nat.not_lt_zero _))⟩
  exact outer (eF (gL M)).1 0 (by omega) (fun i' j' q => absurd q (Nat.not_lt_zero _))
theorem op_wrong {n G : Nat} {Ms : Nat → md_T} {a1 a2 a3 : Int32} (hG30 : G < 2 ^ 29) (h : iv_M n Ms σ) (hC : iv_C σ) (hR : iv_R n σ) (hG : iv_G G σ) : lw_op X (d + 20) (mo_P n G σ) 114 203 [.int a1, .int a2, .int a3] σ := by
  unfold lw_op
  have h9 := h
  obtain ⟨b1, b2, b3, b4⟩ := h9
  refine (w_WM_wrong _ _ _ _ _ _ _).mpr ⟨rfl, ?_⟩
  rcases ix_cs a1 n (by omega) with ⟨c1, c2⟩ | ⟨k, hk, rfl, c1⟩
  · refine s_learnt_no b2 c1 ⟨_, rfl, fun _ => ⟨_, rfl, ?_⟩, fun z => absurd rfl z⟩
    refine (w_Ref_wrong _ _ _ _ _ _ _).mpr ⟨rfl, ?_⟩
    rw [r_isMachine b3 b1, if_neg c2]
    exact ⟨_, rfl, fun _ => ⟨rfl, mo_same hC hR hG⟩, fun z => absurd rfl z⟩
  have hle := eF_le (g := gL (nrm (Ms k)))
  refine s_learnt_ok h hC hk (fun τ1 e1 e2 e3 => ⟨_, rfl, fun z => absurd z (by decide), fun _ => ?_⟩)
  have gY := G_Y e3 hG
  have hM : md_ok (nrm (Ms k)) := nrm_ok (b4 k hk).1
  obtain ⟨f3, f4, _, f5⟩ := mo_ref h hR hk e1 e2 e3 (frS_rf τ1) (Nat.le_add_right G 300) gY
  have bad : ¬ (0 ≤ a2.toInt ∧ a2.toInt ≤ 11) ∨ ¬ (0 ≤ a3.toInt ∧ a3.toInt ≤ 1) → ∃ v, (some (.int (-2)) : Option Value) = some (.int v) ∧ mv_wp X (d + 20) 203 [.ref 61, .int (nI k), .int a2, .int a3] τ1 (fun r2 σ2 => r2 = some (.int v) ∧ mo_P n G σ σ2) := by
    intro hb
    refine ⟨_, rfl, (w_Ref_wrong _ _ _ _ _ _ _).mpr ⟨rfl, ?_⟩⟩
    rw [r_isMachine f3 b1, if_pos c1]
    refine ⟨_, rfl, fun z => absurd z (by decide), fun _ => ?_⟩
    rw [r_inI (A := 0) (C := 11) rfl rfl]
    by_cases q : 0 ≤ a2.toInt ∧ a2.toInt ≤ 11
    · rw [if_pos q]
      refine ⟨_, rfl, fun z => absurd z (by decide), fun _ => ?_⟩
      rw [r_inI (A := 0) (C := 1) rfl rfl, if_neg (hb.resolve_left (fun z => z q))]
      exact ⟨_, rfl, fun z => absurd rfl z, fun _ => ⟨rfl, f4⟩⟩
    · rw [if_neg q]
      exact ⟨_, rfl, fun _ => ⟨rfl, f4⟩, fun z => absurd rfl z⟩
  rcases ix_cs2 a2 with t2 | ⟨law, hlaw, rfl⟩
  · exact ⟨fun _ => bad (Or.inl (by omega)), fun z => absurd (by rw [fa_lt, Int32.toInt_zero]; omega) z⟩
  refine ⟨fun z => absurd z (nI_pos hlaw), fun _ => ?_⟩
  by_cases hl : law < 12
  case neg => exact ⟨fun _ => bad (Or.inl (by rw [nI_toInt hlaw]; omega)), fun z => absurd (nI_le (a := 12) (by omega) (by omega)) z⟩
  refine ⟨fun z => absurd z (nI_ge (b := 12) (by omega) (by omega)), fun _ => ?_⟩
  rcases ix_cs2 a3 with t3 | ⟨w, hw, rfl⟩
  · exact ⟨fun _ => bad (Or.inr (by omega)), fun z => absurd (by rw [fa_lt, Int32.toInt_zero]; omega) z⟩
  refine ⟨fun z => absurd z (nI_pos hw), fun _ => ?_⟩
  by_cases hw2 : w < 2
  case neg => exact ⟨fun z => absurd z (nI_ge (a := 1) (by omega) (by omega)), fun _ => bad (Or.inr (by rw [nI_toInt hw]; omega))⟩
  refine ⟨fun _ => ⟨rfl, rfl, ?_⟩, fun z => absurd (nI_le (b := 1) (by omega) (by omega)) z⟩
  have go : ∀ (τ : mv_S) G' v, frS τ1 τ → G' ≤ G + 300 → iv_G G' τ →
      (wrN (eF (gL (nrm (Ms k)))).1 (oth law (eF (gL (nrm (Ms k)))).1) (lawb (gL (nrm (Ms k))) law) → v = -1) →
      (∀ i j, wrF (eF (gL (nrm (Ms k)))).1 (oth law (eF (gL (nrm (Ms k)))).1) (lawb (gL (nrm (Ms k))) law) i j → v = if w = 0 then nI i else wrB law j) →
      mv_wp X (d + 20) 203 [.ref 61, .int (nI k), .int (nI law), .int (nI w)] τ (fun r2 σ2 => r2 = some (.int v) ∧ mo_P n G σ σ2) := by
    intro τ G' v s2 hG' g2 vN vF
    obtain ⟨f3, f4, _, f5⟩ := mo_ref h hR hk e1 e2 e3 s2 hG' g2
    refine (w_Ref_wrong _ _ _ _ _ _ _).mpr ⟨rfl, ?_⟩
    rw [r_isMachine f3 b1, if_pos c1]
    refine ⟨_, rfl, fun z => absurd z (by decide), fun _ => ?_⟩
    rw [r_inI (A := 0) (C := 11) rfl rfl, if_pos (by rw [nI_toInt hlaw]; omega)]
    refine ⟨_, rfl, fun z => absurd z (by decide), fun _ => ?_⟩
    rw [r_inI (A := 0) (C := 1) rfl rfl, if_pos (by rw [nI_toInt hw]; omega)]
    refine ⟨_, rfl, fun _ => ⟨rfl, ?_⟩, fun z => absurd z (by decide)⟩
    refine w_Ref_findsTable ⟨rfl, f5 _ _ _ (fun τ3 q1 q2 q3 q4 => ⟨rfl, r_tabL hM q1 (fun τ4 t4 w4 => ⟨rfl, rfl, ?_⟩)⟩)⟩
    have hw01 : w = 0 ∨ w = 1 := by omega
    refine r_findsWrong hl t4 (fun τ5 v5 x5 y5 z5 => ⟨rfl, ?_⟩) (fun τ5 i j v5 x5 y5 z5 => ⟨rfl, ?_⟩)
    · have P := q4 τ5 G' (S_w (frw_tr w4 (v_w v5))) hG' (G_w (frw_tr w4 (v_w v5)) q3)
      rw [y5, z5, vN x5]
      exact ⟨fun _ => ⟨rfl, rfl, P⟩, fun _ => ⟨rfl, rfl, P⟩⟩
    · have P := q4 τ5 G' (S_w (frw_tr w4 (v_w v5))) hG' (G_w (frw_tr w4 (v_w v5)) q3)
      rw [y5, z5, vF i j x5]
      rcases hw01 with rfl | rfl
      · exact ⟨fun z => absurd rfl z, fun _ => ⟨rfl, rfl, P⟩⟩
      · exact ⟨fun _ => ⟨rfl, rfl, P⟩, fun z => absurd z (by decide)⟩
  have hw01 : w = 0 ∨ w = 1 := by omega
  refine c_findWrong hl (by omega) e1 gY (fun τ2 G' u1 _ u2 u3 u4 => ⟨_, rfl, fun z => absurd rfl z, fun _ => ⟨_, rfl, ?_⟩⟩) (fun τ2 G' i j u1 _ u2 u3 u4 u5 u6 => ⟨_, rfl, fun _ => ?_, fun z => absurd z (by decide)⟩)
  · exact go τ2 G' _ (S_q u3) (by omega) u2 (fun _ => rfl) (fun i j z => (wr_no z u4).elim)
  · rw [u5, u6]
    rcases hw01 with rfl | rfl
    · refine ⟨fun z => absurd rfl z, fun _ => ⟨rfl, rfl, _, rfl, go τ2 G' _ (S_q u3) (by omega) u2 (fun z => (wr_no u4 z).elim) (fun i' j' z => ?_)⟩⟩
      rw [(wr_un u4 z).1]; rfl
    · refine ⟨fun _ => ⟨rfl, rfl, _, rfl, go τ2 G' _ (S_q u3) (by omega) u2 (fun z => (wr_no u4 z).elim) (fun i' j' z => ?_)⟩, fun z => absurd z (by decide)⟩
      rw [(wr_un u4 z).2]; rfl
/-- the bits of the laws that hold -/
def hol (b : Nat → Bool) : Nat → Int32
  | 0 => 0
  | n + 1 => if b n = true then hol b n ||| ((1 : Int32) <<< (nI n &&& 31)) else hol b n
theorem op_holds {n G : Nat} {Ms : Nat → md_T} {a1 : Int32} (hG30 : G < 2 ^ 29) (h : iv_M n Ms σ) (hC : iv_C σ) (hR : iv_R n σ) (hG : iv_G G σ) : lw_op X (d + 20) (mo_P n G σ) 113 202 [.int a1] σ := by
  unfold lw_op
  have h9 := h
  obtain ⟨b1, b2, b3, b4⟩ := h9
  refine w_WM_holds ⟨rfl, ?_⟩
  rcases ix_cs a1 n (by omega) with ⟨c1, c2⟩ | ⟨k, hk, rfl, c1⟩
  · refine s_learnt_no b2 c1 ⟨_, rfl, fun z => absurd rfl z, fun _ => ⟨_, rfl, ?_⟩⟩
    refine w_Ref_holds ⟨rfl, ?_⟩
    rw [r_isMachine b3 b1, if_neg c2]
    exact ⟨_, rfl, fun z => absurd rfl z, fun _ => ⟨rfl, mo_same hC hR hG⟩⟩
  refine s_learnt_ok h hC hk (fun τ1 e1 e2 e3 => ⟨_, rfl, fun _ => ?_, fun z => absurd z (by decide)⟩)
  have gY := G_Y e3 hG
  have hM : md_ok (nrm (Ms k)) := nrm_ok (b4 k hk).1
  obtain ⟨b, hb⟩ : ∃ b : Nat → Bool, ∀ l, b l = true ↔ wrN (eF (gL (nrm (Ms k)))).1 (oth l (eF (gL (nrm (Ms k)))).1) (lawb (gL (nrm (Ms k))) l) := by
    classical
    exact ⟨fun l => decide (wrN (eF (gL (nrm (Ms k)))).1 (oth l (eF (gL (nrm (Ms k)))).1) (lawb (gL (nrm (Ms k))) l)), fun l => decide_eq_true_iff⟩
  have ref : ∀ (τ : mv_S) G', frS τ1 τ → G' ≤ G + 300 → iv_G G' τ → mv_wp X (d + 20) 202 [.ref 61, .int (nI k)] τ (fun r2 σ2 => r2 = some (.int (hol b 12)) ∧ mo_P n G σ σ2) := by
    intro τ G' s2 hG' g2
    obtain ⟨f3, f4, _, f5⟩ := mo_ref h hR hk e1 e2 e3 s2 hG' g2
    refine w_Ref_holds ⟨rfl, ?_⟩
    rw [r_isMachine f3 b1, if_pos c1]
    refine ⟨_, rfl, fun _ => ⟨rfl, ?_⟩, fun z => absurd z (by decide)⟩
    refine w_Ref_findsTable ⟨rfl, f5 _ _ _ (fun τ3 q1 q2 q3 q4 => ⟨rfl, r_tabL hM q1 (fun τ4 t4 w4 => ⟨rfl, ?_⟩)⟩)⟩
    have loop : ∀ r l (υ : mv_S), l + r = 12 → frv τ4 υ → mv_wf X (mv_wp X (d + 19)) m_Ref_holds (fun r2 σ2 => r2 = some (.int (hol b 12)) ∧ mo_P n G σ σ2) 20 [.ref 61, .retAddr 0, .int (hol b l), .int (nI l)] [] υ := by
      intro r
      induction r with
      | zero =>
        intro l υ hl fv
        refine h_Ref_holds_20 ⟨fun _ => ⟨?_, q4 υ G' (S_w (frw_tr w4 (v_w fv))) hG' (G_w (frw_tr w4 (v_w fv)) q3)⟩, fun z => absurd (nI_le (a := 12) (by omega) (by omega)) z⟩
        rw [show l = 12 by omega]
      | succ r ih =>
        intro l υ hl fv
        refine h_Ref_holds_20 ⟨fun z => absurd z (nI_ge (b := 12) (by omega) (by omega)), fun _ => ⟨rfl, ?_⟩⟩
        have nx : ∀ υ2, frv υ υ2 → mv_wf X (mv_wp X (d + 19)) m_Ref_holds (fun r2 σ2 => r2 = some (.int (hol b 12)) ∧ mo_P n G σ σ2) 20 [.ref 61, .retAddr 0, .int (hol b (l + 1)), .int (nI (l + 1))] [] υ2 := fun υ2 f2 => ih (l + 1) υ2 (by omega) ⟨fun c j q => (f2.1 c j q).trans (fv.1 c j q), f2.2.trans fv.2⟩
        refine r_findsWrong (by omega) (tbR_S fv t4) (fun υ2 v5 x5 y5 z5 => ⟨rfl, rfl, ?_⟩) (fun υ2 i j v5 x5 y5 z5 => ⟨rfl, rfl, ?_⟩)
        · rw [y5, nI_1]
          refine ⟨fun z => absurd rfl z, fun _ => (w_Ref_bit _ _ _ _ _).mpr ⟨fun z => absurd z (by decide), fun _ => ⟨_, rfl, ?_⟩⟩⟩
          have := nx υ2 v5
          rw [show hol b (l + 1) = hol b l ||| ((1 : Int32) <<< (nI l &&& 31)) from if_pos ((hb l).mpr x5)] at this
          exact this
        · rw [y5, nI_1]
          have hi := x5.1
          have hle := eF_le (g := gL (nrm (Ms k)))
          refine ⟨fun _ => (w_Ref_bit _ _ _ _ _).mpr ⟨fun _ => ⟨_, rfl, ?_⟩, fun z => absurd rfl z⟩, fun z => absurd z (nI_nm1 (by omega))⟩
          have := nx υ2 v5
          rw [show hol b (l + 1) = hol b l from if_neg (fun z => wr_no x5 ((hb l).mp z))] at this
          rw [Int32.zero_shiftLeft, Int32.or_zero]
          exact this
    exact loop 12 0 τ4 (by omega) ⟨fun _ _ _ => rfl, rfl⟩
  have loop : ∀ r l (υ : mv_S) G', l + r = 12 → (l ≤ 7 → G' = G) → G' ≤ G + 256 → iv_G G' υ → frq τ1 υ → mv_wf X (mv_wp X (d + 19)) m_WM_holds (fun r1 σ1 => ∃ v, r1 = some (.int v) ∧ mv_wp X (d + 20) 202 [.ref 61, .int (nI k)] σ1 (fun r2 σ2 => r2 = some (.int v) ∧ mo_P n G σ σ2)) 15 [.ref 0, .retAddr 0, .int (hol b l), .int (nI l)] [] υ := by
    intro r
    induction r with
    | zero =>
      intro l υ G' hl g1 g2 g3 fq
      refine h_WM_holds_15 ⟨fun _ => ⟨_, rfl, ?_⟩, fun z => absurd (nI_le (a := 12) (by omega) (by omega)) z⟩
      rw [show l = 12 by omega]
      exact ref υ G' (S_q fq) (by omega) g3
    | succ r ih =>
      intro l υ G' hl g1 g2 g3 fq
      refine h_WM_holds_15 ⟨fun z => absurd z (nI_ge (b := 12) (by omega) (by omega)), fun _ => ⟨rfl, rfl, ?_⟩⟩
      have nx : ∀ υ2 G2, G2 ≤ G' + 256 → (¬ l = 7 → G2 = G') → iv_G G2 υ2 → frq υ υ2 → mv_wf X (mv_wp X (d + 19)) m_WM_holds (fun r1 σ1 => ∃ v, r1 = some (.int v) ∧ mv_wp X (d + 20) 202 [.ref 61, .int (nI k)] σ1 (fun r2 σ2 => r2 = some (.int v) ∧ mo_P n G σ σ2)) 15 [.ref 0, .retAddr 0, .int (hol b (l + 1)), .int (nI (l + 1))] [] υ2 := by
        intro υ2 G2 p1 p2 p3 p4
        refine ih (l + 1) υ2 G2 (by omega) (fun z => by have := g1 (by omega); have := p2 (by omega); omega) ?_ p3 (frq_tr fq p4)
        by_cases e : l = 7
        · have := g1 (by omega); omega
        · have := p2 e; omega
      refine c_findWrong (by omega) (by omega) (frq_C fq e1) g3 (fun υ2 G2 u1 u0 u2 u3 u4 => ⟨_, rfl, fun z => absurd rfl z, fun _ => ?_⟩) (fun υ2 G2 i j u1 u0 u2 u3 u4 u5 u6 => ⟨_, rfl, fun _ => ?_, fun z => absurd z (by decide)⟩)
      · have := nx υ2 G2 u1 u0 u2 u3
        rw [nI_1]
        rw [show hol b (l + 1) = hol b l ||| ((1 : Int32) <<< (nI l &&& 31)) from if_pos ((hb l).mpr u4)] at this
        exact this
      · have := nx υ2 G2 u1 u0 u2 u3
        rw [nI_1]
        rw [show hol b (l + 1) = hol b l from if_neg (fun z => wr_no u4 ((hb l).mp z))] at this
        exact this
  exact loop 12 0 τ1 G (by omega) (fun _ => rfl) (by omega) gY ⟨fun _ _ _ _ _ _ => rfl, rfl⟩
end OPWRONG
