/-! ===== of, word, element, drawn ===== -/
section MOPS2
variable {X : mv_X} {d : Nat} {σ : mv_S} {Q : mv_Q} {M : md_T}
theorem mo_ref {n G G' k : Nat} {Ms : Nat → md_T} {τ1 τ2 : mv_S} (h : iv_M n Ms σ) (hR : iv_R n σ) (hk : k < n) (e1 : moC (nrm (Ms k)) τ1) (e2 : τ1.2 12 14 = lN (kq (nrm (Ms k)) 12)) (e3 : frY σ τ1) (s2 : frS τ1 τ2) (hG : G' ≤ G + 300) (g2 : iv_G G' τ2) :
    τ2.1 61 1 = nI n ∧ mo_P n G σ τ2 ∧ md_ok (nrm (Ms k)) ∧ ∀ (X : mv_X) (d : Nat) (Q : mv_Q), (∀ τ3, moR (nrm (Ms k)) τ3 → frZ τ2 τ3 → iv_G G' τ3 → (∀ τ4 G4, frS τ3 τ4 → G4 ≤ G + 300 → iv_G G4 τ4 → mo_P n G σ τ4) → Q none τ3) → mv_wp X (d + 5) 176 [.ref 61, .int (nI k)] τ2 Q := by
  obtain ⟨b1, b2, b3, b4⟩ := h
  obtain ⟨m1, m2, m3⟩ := b4 k hk
  have hM := nrm_ok m1
  have hN := nrm_n (Ms k)
  have hr := nrm_rf m3
  obtain ⟨f1, f2, f3⟩ := af_R hR hr b3 e3 s2
  refine ⟨f3, mo_fin0 hM hN hR e1 e2 e3 s2 hG g2, hM, fun X d Q hQ => ?_⟩
  exact r_findsElements hk b1 hM hN f2 f1 (fun τ3 q1 q2 q3 => hQ τ3 q1 q3 (G_Z q3 g2) (fun τ4 G4 s4 h4 g4 => mo_fin hk hM hN hr e1 e2 e3 s2 q1 q2 q3 s4 h4 g4))
/-! word -/
def anc (src : Nat → Nat) : Nat → Nat → Nat
  | 0, i => i
  | s + 1, i => anc src s (src i / 3)
theorem anc_0 (src : Nat → Nat) (i : Nat) : anc src 0 i = i := rfl
theorem anc_s (src : Nat → Nat) (s i : Nat) : anc src (s + 1) i = anc src s (src i / 3) := rfl
theorem c_letterOf {i a : Nat} (m : moC M σ) (hi : i < (eF (gL M)).1) (ha : a < 2 ^ 31) (hQ : Q (some (.int (if a < eln (gL M) i then nI ((eF (gL M)).2.2 (anc (eF (gL M)).2.2 (eln (gL M) i - 1 - a) i) % 3) else -1))) σ) : mv_wp X (d + 2) 63 [.ref 12, .int (nI i), .int (nI a)] σ Q := by
  have hle := eF_le (g := gL M)
  have hei := eln_le (g := gL M) i
  have loop : ∀ r at_, at_ < (eF (gL M)).1 → r + a < 2 ^ 31 → (0 < r → 0 < at_ ∧ r + 1 ≤ eln (gL M) at_) → Q (some (.int (nI ((eF (gL M)).2.2 (anc (eF (gL M)).2.2 r at_) % 3)))) σ → mv_wf X (mv_wp X (d + 1)) m_Monoid_letterOf Q 29 [.ref 12, .retAddr 0, .int (nI a), .retAddr 0, .int (nI at_), .int (nI (a + r))] [] σ := by
    intro r
    induction r with
    | zero =>
      intro at_ h1 h2 h3 h4
      refine h_Monoid_letterOf_29 ⟨fun _ => ⟨rfl, ⟨rfl, vp_in_nI (N := 256) (by omega) (by omega)⟩, ?_⟩, fun z => absurd (nI_le (Nat.le_refl _) (by omega)) z⟩
      rw [nI_clamp (by omega), (m.2.2.1.2.2.1 at_ h1).2.2.1]
      rw [anc_0] at h4
      exact h4
    | succ r ih =>
      intro at_ h1 h2 h3 h4
      obtain ⟨h5, h6⟩ := h3 (by omega)
      have hs := eF_src h5 h1
      have hl := eln_s h5 h1
      refine h_Monoid_letterOf_29 ⟨fun z => absurd z (nI_ge (by omega) (by omega)), fun _ => ⟨rfl, ⟨rfl, vp_in_nI (N := 256) (by omega) (by omega)⟩, ?_⟩⟩
      rw [nI_clamp (by omega), (m.2.2.1.2.2.1 at_ h1).2.1, q_and255, Nat.mod_eq_of_lt (by omega), show nI (a + (r + 1)) + (-1) = nI (a + r) by rw [← Int32.sub_eq_add_neg]; exact pk_sub (b := 1) (by omega)]
      rw [anc_s] at h4
      refine ih _ (by omega) (by omega) (fun z => ⟨?_, by omega⟩) h4
      have : eln (gL M) ((eF (gL M)).2.2 at_ / 3) ≤ (eF (gL M)).2.2 at_ / 3 := eln_le _
      omega
  refine w_Monoid_letterOf ⟨rfl, ?_⟩
  refine (w_Monoid_lettersOf _ _ _ _ _).mpr ?_
  rw [q_and255, Nat.mod_eq_of_lt (by omega), nI_clamp (by omega), (m.2.2.1.2.2.1 i hi).2.2.2]
  refine ⟨rfl, ⟨rfl, vp_in_nI (N := 256) (by omega) (by omega)⟩, _, rfl, fun z => absurd z (nI_pos ha), fun _ => ?_⟩
  by_cases e : a < eln (gL M) i
  · rw [if_pos e] at hQ
    refine ⟨fun _ => ?_, fun z => absurd (nI_lt e (by omega)) z⟩
    rw [show nI (eln (gL M) i) - 1 = nI (a + (eln (gL M) i - 1 - a)) by rw [show (1 : Int32) = nI 1 from rfl, pk_sub (by omega)]; congr 1; omega]
    refine loop _ i hi (by omega) (fun _ => ⟨?_, by omega⟩) hQ
    rcases Nat.eq_zero_or_pos i with z | z
    · subst z
      have : eln (gL M) 0 = 0 := lnp_0 _ _
      omega
    · exact z
  · rw [if_neg e] at hQ
    exact ⟨fun z => absurd z (nI_nlt (by omega) (by omega)), fun _ => hQ⟩
theorem r_lengthOf {i : Nat} (m : moR M σ) (hi : i < (eF (gL M)).1) (hQ : Q (some (.int (nI (eln (gL M) i)))) σ) : mv_wp X (d + 1) 183 [.ref 61, .int (nI i)] σ Q := by
  have hle := eF_le (g := gL M)
  have loop : ∀ e n, e < (eF (gL M)).1 → n + eln (gL M) e = eln (gL M) i → mv_wf X (mv_wp X d) m_Ref_lengthOf Q 4 [.ref 61, .retAddr 0, .int (nI n), .int (nI e)] [] σ := by
    intro e
    induction e using Nat.strongRecOn with
    | ind e ih =>
      intro n he hn
      rcases Nat.eq_zero_or_pos e with z | z
      · subst z
        have e0 : eln (gL M) 0 = 0 := lnp_0 _ _
        have : n = eln (gL M) i := by omega
        rw [this]
        exact h_Ref_lengthOf_4 ⟨fun _ => hQ, fun z => absurd rfl z⟩
      · have hs := eF_src z he
        have hl := eln_s z he
        refine h_Ref_lengthOf_4 ⟨fun y => absurd y (nI_ne0 z (by omega)), fun _ => ⟨rfl, ⟨rfl, vp_in_nI (N := 256) (by omega) (by omega)⟩, ?_⟩⟩
        rw [nI_clamp (by omega), (m.2.2.2.2.2.1 e z he).1, nI_1]
        exact ih _ hs.1 (n + 1) (by omega) (by omega)
  exact w_Ref_lengthOf (loop i 0 hi (by omega))
theorem r_wordL {a N : Nat} (m : moR M σ) (ha : a < 2 ^ 30) (hN : N < 256) : ∀ r e, e < (eF (gL M)).1 → (a < N → 0 < e) → (0 < r → r + 1 ≤ eln (gL M) e) → Q (some (.int (if a < N then nI ((eF (gL M)).2.2 (anc (eF (gL M)).2.2 r e) % 3) else -1))) σ → mv_wf X (mv_wp X d) m_Ref_word Q 56 [.ref 61, .retAddr 0, .retAddr 0, .int (nI a), .int (nI N), .int (nI e), .int (nI (a + r))] [] σ := by
  intro r
  have hle := eF_le (g := gL M)
  induction r with
  | zero =>
    intro e h1 h2 h3 h4
    refine h_Ref_word_56 ⟨fun _ => ?_, fun z => absurd (nI_le (Nat.le_refl _) (by omega)) z⟩
    by_cases ea : a < N
    · rw [if_pos ea] at h4
      refine ⟨fun z => absurd z (nI_ge ea (by omega)), fun _ => ⟨rfl, ⟨rfl, vp_in_nI (N := 256) (by omega) (by omega)⟩, ?_⟩⟩
      rw [nI_clamp (by omega), (m.2.2.2.2.2.1 e (h2 ea) h1).2]
      rw [anc_0] at h4
      exact h4
    · rw [if_neg ea] at h4
      exact ⟨fun _ => h4, fun z => absurd (nI_le (by omega) (by omega)) z⟩
  | succ r ih =>
    intro e h1 h2 h3 h4
    have h6 := h3 (by omega)
    have z : 0 < e := by
      rcases Nat.eq_zero_or_pos e with z | z
      · subst z
        have : eln (gL M) 0 = 0 := lnp_0 _ _
        omega
      · exact z
    have hs := eF_src z h1
    have hl := eln_s z h1
    have hel := eln_le (g := gL M) ((eF (gL M)).2.2 e / 3)
    have hee := eln_le (g := gL M) e
    refine h_Ref_word_56 ⟨fun z => absurd z (nI_ge (by omega) (by omega)), fun _ => ⟨rfl, ⟨rfl, vp_in_nI (N := 256) (by omega) (by omega)⟩, ?_⟩⟩
    rw [nI_clamp (by omega), (m.2.2.2.2.2.1 e z h1).1, show nI (a + (r + 1)) + (-1) = nI (a + r) by rw [← Int32.sub_eq_add_neg]; exact pk_sub (b := 1) (by omega)]
    rw [anc_s] at h4
    exact ih _ (by omega) (fun _ => by omega) (fun _ => by omega) h4
theorem op_word {n G : Nat} {Ms : Nat → md_T} {a1 a2 a3 : Int32} (h : iv_M n Ms σ) (hC : iv_C σ) (hR : iv_R n σ) (hG : iv_G G σ) : lw_op X (d + 20) (mo_P n G σ) 107 184 [.int a1, .int a2, .int a3] σ := by
  unfold lw_op
  have h9 := h
  obtain ⟨b1, b2, b3, b4⟩ := h9
  refine (w_WM_word _ _ _ _ _ _ _).mpr ⟨rfl, ?_⟩
  rcases ix_cs a1 n (by omega) with ⟨c1, c2⟩ | ⟨k, hk, rfl, c1⟩
  · refine s_learnt_no b2 c1 ⟨_, rfl, fun _ => ⟨_, rfl, ?_⟩, fun z => absurd rfl z⟩
    refine w_Ref_word ⟨rfl, ?_⟩
    rw [r_isMachine b3 b1, if_neg c2]
    exact ⟨_, rfl, fun _ => ⟨rfl, mo_same hC hR hG⟩, fun z => absurd rfl z⟩
  have hle := eF_le (g := gL (nrm (Ms k)))
  refine s_learnt_ok h hC hk (fun τ1 e1 e2 e3 => ⟨_, rfl, fun z => absurd z (by decide), fun _ => ⟨rfl, rfl, ?_⟩⟩)
  obtain ⟨f3, f4, hM, f5⟩ := mo_ref h hR hk e1 e2 e3 (frS_rf τ1) (Nat.le_add_right G 300) (G_Y e3 hG)
  have neg : ¬ (-1 : Int32) ≤ a3 → mv_wp X (d + 20) 184 [.ref 61, .int (nI k), .int a2, .int a3] τ1 (fun r2 σ2 => r2 = some (.int (-2)) ∧ mo_P n G σ σ2) := by
    intro e
    refine w_Ref_word ⟨rfl, ?_⟩
    rw [r_isMachine f3 b1, if_pos c1]
    exact ⟨_, rfl, fun z => absurd z (by decide), fun _ => ⟨fun z => absurd z e, fun _ => ⟨rfl, f4⟩⟩⟩
  have pos : ∀ (Q : mv_Q), (-1 : Int32) ≤ a3 → (∀ τ3, moR (nrm (Ms k)) τ3 → mo_P n G σ τ3 → mv_wp X (d + 19) 181 [.ref 61, .int a2] τ3 (fun r3 σ3 => ∃ v3, r3 = some (.int v3) ∧ ((¬ v3 = 0 → mv_sh 61 = 12 ∧ mv_wp X (d + 19) 183 [.ref 61, .int a2] σ3 (fun r4 σ4 => ∃ v4, r4 = some (.int v4) ∧ ((¬ a3 = (-1) → mv_wf X (mv_wp X (d + 19)) m_Ref_word Q 56 [.ref 61, .retAddr 0, .retAddr 0, .int a3, .int v4, .int a2, .int (v4 - 1)] [] σ4) ∧ (a3 = (-1) → Q (some (.int v4)) σ4)))) ∧ (v3 = 0 → Q (some (.int (-2))) σ3)))) → mv_wp X (d + 20) 184 [.ref 61, .int (nI k), .int a2, .int a3] τ1 Q := by
    intro Q e hh
    refine w_Ref_word ⟨rfl, ?_⟩
    rw [r_isMachine f3 b1, if_pos c1]
    refine ⟨_, rfl, fun z => absurd z (by decide), fun _ => ⟨fun _ => ⟨rfl, ?_⟩, fun z => absurd e z⟩⟩
    exact f5 _ _ _ (fun τ3 q1 q2 q3 q4 => ⟨rfl, rfl, hh τ3 q1 (q4 τ3 G (frS_rf _) (Nat.le_add_right _ _) q3)⟩)
  refine c_has e1 ?_
  rcases ix_cs a2 (eF (gL (nrm (Ms k)))).1 (by omega) with ⟨i1, i2⟩ | ⟨i, hi, rfl, i1⟩
  · rw [if_neg i2]
    refine ⟨_, rfl, fun _ => ⟨_, rfl, ?_⟩, fun z => absurd rfl z⟩
    by_cases e : (-1 : Int32) ≤ a3
    · refine pos _ e (fun τ3 g1 g2 => r_isElement g1 ?_)
      rw [if_neg i2]
      exact ⟨_, rfl, fun z => absurd rfl z, fun _ => ⟨rfl, g2⟩⟩
    · exact neg e
  rw [if_pos i1]
  refine ⟨_, rfl, fun z => absurd z (by decide), fun _ => ?_⟩
  by_cases e : (-1 : Int32) ≤ a3
  case neg => exact ⟨fun z => absurd z e, fun _ => ⟨_, rfl, neg e⟩⟩
  refine ⟨fun _ => ?_, fun z => absurd e z⟩
  have hei := eln_le (g := gL (nrm (Ms k))) i
  by_cases e1' : a3 = -1
  · refine ⟨fun z => absurd e1' z, fun _ => ⟨rfl, rfl, ?_⟩⟩
    refine (w_Monoid_lettersOf _ _ _ _ _).mpr ?_
    rw [q_and255, Nat.mod_eq_of_lt (by omega), nI_clamp (by omega), (e1.2.2.1.2.2.1 i hi).2.2.2]
    refine ⟨rfl, ⟨rfl, vp_in_nI (N := 256) (by omega) (by omega)⟩, _, rfl, _, rfl, ?_⟩
    refine pos _ e (fun τ3 g1 g2 => r_isElement g1 ?_)
    rw [if_pos i1]
    refine ⟨_, rfl, fun _ => ⟨rfl, ?_⟩, fun z => absurd z (by decide)⟩
    exact r_lengthOf g1 hi ⟨_, rfl, fun z => absurd e1' z, fun _ => ⟨rfl, g2⟩⟩
  · refine ⟨fun _ => ⟨rfl, rfl, ?_⟩, fun z => absurd z e1'⟩
    have hneg : ¬ a3.toInt < 0 := by
      intro z
      rw [fa_le, nI_m1] at e
      exact e1' ((fa_eq _ _).mpr (by rw [nI_m1]; omega))
    obtain ⟨a, ha, rfl⟩ := (ix_cs2 a3).resolve_left hneg
    refine c_letterOf e1 hi ha ⟨_, rfl, _, rfl, ?_⟩
    refine pos _ e (fun τ3 g1 g2 => r_isElement g1 ?_)
    rw [if_pos i1]
    refine ⟨_, rfl, fun _ => ⟨rfl, ?_⟩, fun z => absurd z (by decide)⟩
    refine r_lengthOf g1 hi ⟨_, rfl, fun _ => ?_, fun z => absurd z e1'⟩
    have e0 : eln (gL (nrm (Ms k))) 0 = 0 := lnp_0 _ _
    have ipos : a < eln (gL (nrm (Ms k))) i → 0 < i := by
      intro z
      rcases Nat.eq_zero_or_pos i with y | y
      · rw [y, e0] at z; omega
      · exact y
    by_cases el : a < eln (gL (nrm (Ms k))) i
    · rw [show nI (eln (gL (nrm (Ms k))) i) - 1 = nI (a + (eln (gL (nrm (Ms k))) i - 1 - a)) by rw [show (1 : Int32) = nI 1 from rfl, pk_sub (by omega)]; congr 1; omega]
      exact r_wordL g1 (by omega) (by omega) _ i hi ipos (fun _ => by omega) ⟨rfl, g2⟩
    · rw [if_neg el]
      refine h_Ref_word_56 ⟨fun _ => ⟨fun _ => ⟨rfl, g2⟩, fun z => absurd (nI_le (by omega) ha) z⟩, fun z => absurd ?_ z⟩
      rw [fa_le, show (1 : Int32) = nI 1 from rfl, pk_sub_toInt (by omega) (by omega), nI_toInt ha]
      omega
/-! element, drawn -/
def ewd (g : Nat → Nat) (c : Nat) (w : List Nat) : Nat := w.foldl (fun c l => th c (g l)) c
theorem inm_ew {g : Nat → Nat} (hg : ∀ l, l < 3 → g l < 256) : ∀ (w : List Nat) c, inm g c → (∀ l, l ∈ w → l < 3) → inm g (ewd g c w)
  | [], c, h, _ => h
  | a :: w, c, h, hw => inm_ew hg w (th c (g a)) (inm_th h (inm_l (hw a List.mem_cons_self) (hg a (hw a List.mem_cons_self)))) (fun l hl => hw l (List.mem_cons_of_mem _ hl))
theorem gl_256 (hM : md_ok M) {l : Nat} (hl : l < 3) : gL M l < 256 := (gL_fx hM hl).1
theorem op_element {n G : Nat} {Ms : Nat → md_T} {a1 a2 : Int32} (h : iv_M n Ms σ) (hC : iv_C σ) (hR : iv_R n σ) (hG : iv_G G σ) : lw_op X (d + 20) (mo_P n G σ) 108 185 [.int a1, .int a2] σ := by
  unfold lw_op
  have h9 := h
  obtain ⟨b1, b2, b3, b4⟩ := h9
  refine w_WM_element ⟨rfl, ?_⟩
  rcases ix_cs a1 n (by omega) with ⟨c1, c2⟩ | ⟨k, hk, rfl, c1⟩
  · refine s_learnt_no b2 c1 ⟨_, rfl, fun _ => ⟨_, rfl, ?_⟩, fun z => absurd rfl z⟩
    refine w_Ref_element ⟨rfl, ?_⟩
    rw [r_isMachine b3 b1, if_neg c2]
    exact ⟨_, rfl, fun _ => ⟨rfl, mo_same hC hR hG⟩, fun z => absurd rfl z⟩
  refine s_learnt_ok h hC hk (fun τ1 e1 e2 e3 => ⟨_, rfl, fun z => absurd z (by decide), fun _ => ⟨rfl, rfl, ?_⟩⟩)
  have gY := G_Y e3 hG
  rcases ix_cs2 a2 with e | ⟨x, hx, rfl⟩
  · obtain ⟨f3, f4, hM, f5⟩ := mo_ref h hR hk e1 e2 e3 (frS_rf τ1) (Nat.le_add_right G 300) gY
    refine s_read_neg e ⟨_, rfl, fun z => absurd rfl z, fun _ => ⟨_, rfl, ?_⟩⟩
    refine w_Ref_element ⟨rfl, ?_⟩
    rw [r_isMachine f3 b1, if_pos c1]
    refine ⟨_, rfl, fun z => absurd z (by decide), fun _ => ⟨rfl, ?_⟩⟩
    exact r_isWord_neg e ⟨_, rfl, fun z => absurd rfl z, fun _ => ⟨rfl, f4⟩⟩
  by_cases hw : wis 9 x = true
  case neg =>
    have hw := Bool.eq_false_iff.mpr hw
    obtain ⟨f3, f4, hM, f5⟩ := mo_ref h hR hk e1 e2 e3 (frS_rf τ1) (Nat.le_add_right G 300) gY
    refine s_read_n hx hw ⟨_, rfl, fun z => absurd rfl z, fun _ => ⟨_, rfl, ?_⟩⟩
    refine w_Ref_element ⟨rfl, ?_⟩
    rw [r_isMachine f3 b1, if_pos c1]
    refine ⟨_, rfl, fun z => absurd z (by decide), fun _ => ⟨rfl, ?_⟩⟩
    refine r_isWord_n hx hw (fun τ2 p => ⟨_, rfl, fun z => absurd rfl z, fun _ => ⟨rfl, ?_⟩⟩)
    exact (mo_ref h hR hk e1 e2 e3 (S_W p) (Nat.le_add_right G 300) (G_W p gY)).2.1
  refine s_read_y hx hw (fun τ2 q1 q2 q3 => ⟨_, rfl, fun _ => ?_, fun z => absurd z (by decide)⟩)
  have e1' : moC (nrm (Ms k)) τ2 := moC_S (fun c j q => q2 c j (by omega)) e1
  obtain ⟨f3, f4, hM, f5⟩ := mo_ref h hR hk e1 e2 e3 (S_10 q2 q3) (Nat.le_add_right G 300) (G_10 q2 gY)
  have hk9 := wk_n hw
  have hgl : ∀ l, l < 3 → gL (nrm (Ms k)) l < 256 := fun l hl => gl_256 hM hl
  have rf : mv_wp X (d + 20) 185 [.ref 61, .int (nI k), .int (nI x)] τ2 (fun r2 σ2 => r2 = some (.int (nI (bf_ix (eF (gL (nrm (Ms k)))) (ewd (gL (nrm (Ms k))) 228 (wls 9 x))))) ∧ mo_P n G σ σ2) := by
    refine w_Ref_element ⟨rfl, ?_⟩
    rw [r_isMachine f3 b1, if_pos c1]
    refine ⟨_, rfl, fun z => absurd z (by decide), fun _ => ⟨rfl, ?_⟩⟩
    refine r_isWord_y hx hw (fun τ3 p1 p2 => ⟨_, rfl, fun _ => ⟨rfl, ?_⟩, fun z => absurd z (by decide)⟩)
    obtain ⟨f6, f7, _, f8⟩ := mo_ref h hR hk e1 e2 e3 (frS_tr (S_10 q2 q3) (S_W p2)) (Nat.le_add_right G 300) (G_W p2 (G_10 q2 gY))
    refine f8 _ _ _ (fun τ4 o1 o2 o3 o4 => ⟨rfl, rfl, ⟨rfl, vp_in_nI (n := 0) (N := 256) (by decide) (by decide)⟩, ?_⟩)
    have fin := o4 τ4 G (frS_rf _) (Nat.le_add_right _ _) o3
    have w4 : rwd τ4 (wls 9 x) := rwd_fr p1 (o2.1 _ _ (by omega) (by omega) (by omega)) (fun k => o2.1 _ _ (by omega) (by omega) (by omega))
    have loop : ∀ (v u : List Nat) (c : Nat), wls 9 x = u ++ v → inm (gL (nrm (Ms k))) c → ewd (gL (nrm (Ms k))) 228 (wls 9 x) = ewd (gL (nrm (Ms k))) c v → mv_wf X (mv_wp X (d + 19)) m_Ref_element (fun r2 σ2 => r2 = some (.int (nI (bf_ix (eF (gL (nrm (Ms k)))) (ewd (gL (nrm (Ms k))) 228 (wls 9 x))))) ∧ mo_P n G σ σ2) 34 [.ref 61, .retAddr 0, .retAddr 0, .int (nI (c % 4 ^ (lF (nrm (Ms k))).1)), .int (nI u.length)] [] τ4 := by
      intro v
      induction v with
      | nil =>
        intro u c e hc hh
        rw [List.append_nil] at e
        have hl := hk9.1
        have h256 := fx_256 (fx_in hM hc)
        refine h_Ref_element_34 ⟨rfl, ?_⟩
        rw [w4.1, e]
        refine ⟨fun _ => ⟨rfl, ⟨rfl, vp_in_nI (N := 256) h256 (by omega)⟩, ?_⟩, fun z => absurd (nI_le (Nat.le_refl _) (by rw [← e]; omega)) z⟩
        rw [nI_clamp (by omega), r_num hM o1 hc]
        rw [e] at hh
        rw [hh]
        exact ⟨rfl, fin⟩
      | cons a v ih =>
        intro u c e hc hh
        have hk2 := hk9
        rw [e] at hk2
        obtain ⟨ha, hu⟩ := wk_mid hk2
        have hl : (wls 9 x).length = u.length + (v.length + 1) := by rw [e, List.length_append, List.length_cons]
        have hl9 := hk9.1
        have hg : τ4.1 64 u.length = nI a := by rw [w4.2 _ (by omega), e, gt_mid]
        refine h_Ref_element_34 ⟨rfl, ?_⟩
        rw [w4.1, nI_clamp (n := u.length) (by omega), hg, nI_clamp (n := a) (by omega), o1.2.1 a ha]
        refine ⟨fun z => absurd z (nI_ge (by omega) (by omega)), fun _ => ⟨rfl, rfl, ⟨rfl, vp_in_nI (N := 9) (by omega) (by omega)⟩, ⟨rfl, vp_in_nI (N := 3) (by omega) (by omega)⟩, rfl, ?_⟩⟩
        refine r_beh hM o1 hc (inm_l ha (hgl a ha)) ⟨_, rfl, ?_⟩
        have := ih (u ++ [a]) _ (by rw [e, ap_sh]) (inm_th hc (inm_l ha (hgl a ha))) hh
        rw [ln_s] at this
        rw [nI_1]
        exact this
    have c0 := o1.2.2.2.2.1 0 eF_pos
    rw [eF_0.1] at c0
    rw [show (0 : Int32).toNatClampNeg = 0 from rfl, c0]
    exact loop (wls 9 x) [] 228 rfl inm_1 rfl
  have loop : ∀ (v u : List Nat) (c : Nat), wls 9 x = u ++ v → inm (gL (nrm (Ms k))) c → ewd (gL (nrm (Ms k))) 228 (wls 9 x) = ewd (gL (nrm (Ms k))) c v → mv_wf X (mv_wp X (d + 19)) m_WM_element (fun r1 σ1 => ∃ v, r1 = some (.int v) ∧ mv_wp X (d + 20) 185 (.ref 61 :: [.int (nI k), .int (nI x)]) σ1 (fun r2 σ2 => r2 = some (.int v) ∧ mo_P n G σ σ2)) 29 [.ref 0, .retAddr 0, .retAddr 0, .int (nI c), .int (nI u.length)] [] τ2 := by
    intro v
    induction v with
    | nil =>
      intro u c e hc hh
      rw [List.append_nil] at e
      have hl := hk9.1
      refine h_WM_element_29 ⟨rfl, rfl, ?_⟩
      rw [q1.2, e]
      refine ⟨fun _ => ⟨rfl, rfl, ?_⟩, fun z => absurd (nI_le (Nat.le_refl _) (by rw [← e]; omega)) z⟩
      refine c_number e1' hc ⟨_, rfl, _, rfl, ?_⟩
      have hh : ewd (gL (nrm (Ms k))) 228 (wls 9 x) = c := hh
      rw [← hh]
      exact rf
    | cons a v ih =>
      intro u c e hc hh
      have hk2 := hk9
      rw [e] at hk2
      obtain ⟨ha, hu⟩ := wk_mid hk2
      have hl : (wls 9 x).length = u.length + (v.length + 1) := by rw [e, List.length_append, List.length_cons]
      have hl9 := hk9.1
      refine h_WM_element_29 ⟨rfl, rfl, ?_⟩
      rw [q1.2]
      refine ⟨fun z => absurd z (nI_ge (by omega) (by omega)), fun _ => ⟨rfl, rfl, rfl, ?_⟩⟩
      refine s_letterAt (u := u) (v := v) (a := a) (by rw [← e]; exact q1) hk2 ⟨_, rfl, rfl, ?_⟩
      refine s_behind (inm_lt hc) (hgl a ha) ha (e1'.2.1 a ha) ⟨_, rfl, ?_⟩
      have := ih (u ++ [a]) _ (by rw [e, ap_sh]) (inm_th hc (inm_l ha (hgl a ha))) hh
      rw [ln_s] at this
      rw [nI_1]
      exact this
  exact loop (wls 9 x) [] 228 rfl inm_1 rfl
def edr (g : Nat → Nat) : Nat → Int32 → Nat → Nat
  | 0, _, c => c
  | n + 1, z, c => edr g n (z * 1103515245 + 12345) (th c (g (lot (z * 1103515245 + 12345))))
theorem op_drawn {n G : Nat} {Ms : Nat → md_T} {a1 a2 a3 : Int32} (h : iv_M n Ms σ) (hC : iv_C σ) (hR : iv_R n σ) (hG : iv_G G σ) : lw_op X (d + 20) (mo_P n G σ) 123 228 [.int a1, .int a2, .int a3] σ := by
  unfold lw_op
  have h9 := h
  obtain ⟨b1, b2, b3, b4⟩ := h9
  refine w_WM_drawn ⟨rfl, ?_⟩
  rcases ix_cs a1 n (by omega) with ⟨c1, c2⟩ | ⟨k, hk, rfl, c1⟩
  · refine s_learnt_no b2 c1 ⟨_, rfl, fun _ => ⟨_, rfl, ?_⟩, fun z => absurd rfl z⟩
    refine w_Ref_drawn ⟨rfl, ?_⟩
    rw [r_isMachine b3 b1, if_neg c2]
    exact ⟨_, rfl, fun _ => ⟨rfl, mo_same hC hR hG⟩, fun z => absurd rfl z⟩
  refine s_learnt_ok h hC hk (fun τ1 e1 e2 e3 => ⟨_, rfl, fun z => absurd z (by decide), fun _ => ?_⟩)
  obtain ⟨f3, f4, hM, f5⟩ := mo_ref h hR hk e1 e2 e3 (frS_rf τ1) (Nat.le_add_right G 300) (G_Y e3 hG)
  have hgl : ∀ l, l < 3 → gL (nrm (Ms k)) l < 256 := fun l hl => gl_256 hM hl
  have bad : ¬ (0 ≤ a3.toInt ∧ a3.toInt ≤ 99) → mv_wp X (d + 20) 228 [.ref 61, .int (nI k), .int a2, .int a3] τ1 (fun r2 σ2 => r2 = some (.int (-2)) ∧ mo_P n G σ σ2) := by
    intro hb
    refine w_Ref_drawn ⟨rfl, ?_⟩
    rw [r_isMachine f3 b1, if_pos c1]
    refine ⟨_, rfl, fun z => absurd z (by decide), fun _ => ?_⟩
    rw [r_inI (A := 0) (C := 99) rfl rfl, if_neg hb]
    exact ⟨_, rfl, fun z => absurd rfl z, fun _ => ⟨rfl, f4⟩⟩
  by_cases g1 : a3.toInt < 0
  · repeat (first
        | (refine And.intro (show mv_sh _ = _ from rfl) ?_)
        | (refine And.intro (show mv_sh _ = _ by assumption) ?_)
        | (refine And.intro (show _ ≤ mv_sh _ from Nat.le_of_ble_eq_true rfl) ?_)
        | (refine And.intro (show _ ≤ mv_sh _ ∧ vp_in _ _ from ⟨Nat.le_of_ble_eq_true rfl, by (first | (simp (disch := omega) only [ln_14, ln_17, ln_18, ln_19, ln_20, ln_21, ln_22, ln_23, ln_62, ln_64, ln_70, ln_71, ln_72, ln_73, ln_76, not_true_eq_false, not_false_eq_true, Classical.not_not, ofn, b_z, b_nz, b_z', b_nz', mv_rd, mv_rn, mv_ld, mv_ln_, lit, nI_add, pk_mul, nI_clamp]; exact vp_in_nI (by omega) (by omega)) | (exact vp_in_nI (by omega) (by omega)))⟩) ?_)
        | (refine And.intro (show (_ : Int32) = 0 ∨ (_ : Int32) = 1 from by first | exact Or.inl rfl | exact Or.inr rfl | exact bI_01 _) ?_)
        | (refine And.intro (show mv_sh _ = _ ∧ vp_in _ _ from ⟨rfl, by (first | (simp (disch := omega) only [ln_14, ln_17, ln_18, ln_19, ln_20, ln_21, ln_22, ln_23, ln_62, ln_64, ln_70, ln_71, ln_72, ln_73, ln_76, not_true_eq_false, not_false_eq_true, Classical.not_not, ofn, b_z, b_nz, b_z', b_nz', mv_rd, mv_rn, mv_ld, mv_ln_, lit, nI_add, pk_mul, nI_clamp]; exact vp_in_nI (by omega) (by omega)) | (exact vp_in_nI (by omega) (by omega)))⟩) ?_)
        | (refine And.intro (show mv_sh _ = _ ∧ vp_in _ _ from ⟨by assumption, by (first | (simp (disch := omega) only [ln_14, ln_17, ln_18, ln_19, ln_20, ln_21, ln_22, ln_23, ln_62, ln_64, ln_70, ln_71, ln_72, ln_73, ln_76, not_true_eq_false, not_false_eq_true, Classical.not_not, ofn, b_z, b_nz, b_z', b_nz', mv_rd, mv_rn, mv_ld, mv_ln_, lit, nI_add, pk_mul, nI_clamp]; exact vp_in_nI (by omega) (by omega)) | (exact vp_in_nI (by omega) (by omega)))⟩) ?_)
        | (refine And.intro (show ¬ (_ : Int32) = 0 by decide) ?_)
        | (refine ⟨_, rfl, ?_⟩)
        | (refine And.intro (show (none : Option Value) = none from rfl) ?_)
        | (refine Or.inl ⟨rfl, ?_⟩)
        | (refine Or.inr ⟨_, rfl, ?_⟩)
        | (refine dt (by (first | assumption | omega | ((try simp (disch := omega) only [not_true_eq_false, not_false_eq_true, Classical.not_not, ofn, b_z, b_nz, b_z', b_nz', mv_rd, mv_rn, mv_ld, mv_ln_, lit, nI_add, pk_mul, nI_clamp]); (try simp (disch := omega) only [fa_lt, fa_le, fa_eq, nI_toInt, pk_sub_toInt, nI_m1, nI_m1', not_false_eq_true, true_and, and_true]); first | done | omega))) ?_)
        | (refine df (by (first | assumption | omega | ((try simp (disch := omega) only [not_true_eq_false, not_false_eq_true, Classical.not_not, ofn, b_z, b_nz, b_z', b_nz', mv_rd, mv_rn, mv_ld, mv_ln_, lit, nI_add, pk_mul, nI_clamp]); (try simp (disch := omega) only [fa_lt, fa_le, fa_eq, nI_toInt, pk_sub_toInt, nI_m1, nI_m1', not_false_eq_true, true_and, and_true]); first | done | omega))) ?_)
        | (refine dt' (by (first | assumption | omega | ((try simp (disch := omega) only [not_true_eq_false, not_false_eq_true, Classical.not_not, ofn, b_z, b_nz, b_z', b_nz', mv_rd, mv_rn, mv_ld, mv_ln_, lit, nI_add, pk_mul, nI_clamp]); (try simp (disch := omega) only [fa_lt, fa_le, fa_eq, nI_toInt, pk_sub_toInt, nI_m1, nI_m1', not_false_eq_true, true_and, and_true]); first | done | omega))) ?_)
        | (refine df' (by (first | assumption | omega | ((try simp (disch := omega) only [not_true_eq_false, not_false_eq_true, Classical.not_not, ofn, b_z, b_nz, b_z', b_nz', mv_rd, mv_rn, mv_ld, mv_ln_, lit, nI_add, pk_mul, nI_clamp]); (try simp (disch := omega) only [fa_lt, fa_le, fa_eq, nI_toInt, pk_sub_toInt, nI_m1, nI_m1', not_false_eq_true, true_and, and_true]); first | done | omega))) ?_)
        )
    exact bad (by omega)
  by_cases g2 : 99 < a3.toInt
  · repeat (first
        | (refine And.intro (show mv_sh _ = _ from rfl) ?_)
        | (refine And.intro (show mv_sh _ = _ by assumption) ?_)
        | (refine And.intro (show _ ≤ mv_sh _ from Nat.le_of_ble_eq_true rfl) ?_)
        | (refine And.intro (show _ ≤ mv_sh _ ∧ vp_in _ _ from ⟨Nat.le_of_ble_eq_true rfl, by (first | (simp (disch := omega) only [ln_14, ln_17, ln_18, ln_19, ln_20, ln_21, ln_22, ln_23, ln_62, ln_64, ln_70, ln_71, ln_72, ln_73, ln_76, not_true_eq_false, not_false_eq_true, Classical.not_not, ofn, b_z, b_nz, b_z', b_nz', mv_rd, mv_rn, mv_ld, mv_ln_, lit, nI_add, pk_mul, nI_clamp]; exact vp_in_nI (by omega) (by omega)) | (exact vp_in_nI (by omega) (by omega)))⟩) ?_)
        | (refine And.intro (show (_ : Int32) = 0 ∨ (_ : Int32) = 1 from by first | exact Or.inl rfl | exact Or.inr rfl | exact bI_01 _) ?_)
        | (refine And.intro (show mv_sh _ = _ ∧ vp_in _ _ from ⟨rfl, by (first | (simp (disch := omega) only [ln_14, ln_17, ln_18, ln_19, ln_20, ln_21, ln_22, ln_23, ln_62, ln_64, ln_70, ln_71, ln_72, ln_73, ln_76, not_true_eq_false, not_false_eq_true, Classical.not_not, ofn, b_z, b_nz, b_z', b_nz', mv_rd, mv_rn, mv_ld, mv_ln_, lit, nI_add, pk_mul, nI_clamp]; exact vp_in_nI (by omega) (by omega)) | (exact vp_in_nI (by omega) (by omega)))⟩) ?_)
        | (refine And.intro (show mv_sh _ = _ ∧ vp_in _ _ from ⟨by assumption, by (first | (simp (disch := omega) only [ln_14, ln_17, ln_18, ln_19, ln_20, ln_21, ln_22, ln_23, ln_62, ln_64, ln_70, ln_71, ln_72, ln_73, ln_76, not_true_eq_false, not_false_eq_true, Classical.not_not, ofn, b_z, b_nz, b_z', b_nz', mv_rd, mv_rn, mv_ld, mv_ln_, lit, nI_add, pk_mul, nI_clamp]; exact vp_in_nI (by omega) (by omega)) | (exact vp_in_nI (by omega) (by omega)))⟩) ?_)
        | (refine And.intro (show ¬ (_ : Int32) = 0 by decide) ?_)
        | (refine ⟨_, rfl, ?_⟩)
        | (refine And.intro (show (none : Option Value) = none from rfl) ?_)
        | (refine Or.inl ⟨rfl, ?_⟩)
        | (refine Or.inr ⟨_, rfl, ?_⟩)
        | (refine dt (by (first | assumption | omega | ((try simp (disch := omega) only [not_true_eq_false, not_false_eq_true, Classical.not_not, ofn, b_z, b_nz, b_z', b_nz', mv_rd, mv_rn, mv_ld, mv_ln_, lit, nI_add, pk_mul, nI_clamp]); (try simp (disch := omega) only [fa_lt, fa_le, fa_eq, nI_toInt, pk_sub_toInt, nI_m1, nI_m1', not_false_eq_true, true_and, and_true]); first | done | omega))) ?_)
        | (refine df (by (first | assumption | omega | ((try simp (disch := omega) only [not_true_eq_false, not_false_eq_true, Classical.not_not, ofn, b_z, b_nz, b_z', b_nz', mv_rd, mv_rn, mv_ld, mv_ln_, lit, nI_add, pk_mul, nI_clamp]); (try simp (disch := omega) only [fa_lt, fa_le, fa_eq, nI_toInt, pk_sub_toInt, nI_m1, nI_m1', not_false_eq_true, true_and, and_true]); first | done | omega))) ?_)
        | (refine dt' (by (first | assumption | omega | ((try simp (disch := omega) only [not_true_eq_false, not_false_eq_true, Classical.not_not, ofn, b_z, b_nz, b_z', b_nz', mv_rd, mv_rn, mv_ld, mv_ln_, lit, nI_add, pk_mul, nI_clamp]); (try simp (disch := omega) only [fa_lt, fa_le, fa_eq, nI_toInt, pk_sub_toInt, nI_m1, nI_m1', not_false_eq_true, true_and, and_true]); first | done | omega))) ?_)
        | (refine df' (by (first | assumption | omega | ((try simp (disch := omega) only [not_true_eq_false, not_false_eq_true, Classical.not_not, ofn, b_z, b_nz, b_z', b_nz', mv_rd, mv_rn, mv_ld, mv_ln_, lit, nI_add, pk_mul, nI_clamp]); (try simp (disch := omega) only [fa_lt, fa_le, fa_eq, nI_toInt, pk_sub_toInt, nI_m1, nI_m1', not_false_eq_true, true_and, and_true]); first | done | omega))) ?_)
        )
    exact bad (by omega)
  clear bad
  obtain ⟨N, hN, rfl⟩ := (ix_cs2 a3).resolve_left (by omega)
  rw [nI_toInt hN] at g1 g2
  refine ⟨fun z => absurd z (nI_pos hN), fun _ => ⟨fun _ => ?_, fun z => absurd (nI_le (b := 99) (by omega) (by omega)) z⟩⟩
  have rf : mv_wp X (d + 20) 228 [.ref 61, .int (nI k), .int a2, .int (nI N)] τ1 (fun r2 σ2 => r2 = some (.int (nI (bf_ix (eF (gL (nrm (Ms k)))) (edr (gL (nrm (Ms k))) N a2 228)))) ∧ mo_P n G σ σ2) := by
    refine w_Ref_drawn ⟨rfl, ?_⟩
    rw [r_isMachine f3 b1, if_pos c1]
    refine ⟨_, rfl, fun z => absurd z (by decide), fun _ => ?_⟩
    rw [r_inI (A := 0) (C := 99) rfl rfl, if_pos (by rw [nI_toInt hN]; omega)]
    refine ⟨_, rfl, fun _ => ⟨rfl, ?_⟩, fun z => absurd z (by decide)⟩
    refine f5 _ _ _ (fun τ4 o1 o2 o3 o4 => ⟨rfl, rfl, ⟨rfl, vp_in_nI (n := 0) (N := 256) (by decide) (by decide)⟩, ?_⟩)
    have fin := o4 τ4 G (frS_rf _) (Nat.le_add_right _ _) o3
    have loop : ∀ r i (z : Int32) c, i + r = N → inm (gL (nrm (Ms k))) c → edr (gL (nrm (Ms k))) N a2 228 = edr (gL (nrm (Ms k))) r z c → mv_wf X (mv_wp X (d + 19)) m_Ref_drawn (fun r2 σ2 => r2 = some (.int (nI (bf_ix (eF (gL (nrm (Ms k)))) (edr (gL (nrm (Ms k))) N a2 228)))) ∧ mo_P n G σ σ2) 42 [.ref 61, .retAddr 0, .retAddr 0, .int (nI N), .int z, .int (nI (c % 4 ^ (lF (nrm (Ms k))).1)), .int (nI i)] [] τ4 := by
      intro r
      induction r with
      | zero =>
        intro i z c hi hc hh
        have h256 := fx_256 (fx_in hM hc)
        refine h_Ref_drawn_42 ⟨fun _ => ⟨rfl, ⟨rfl, vp_in_nI (N := 256) h256 (by omega)⟩, ?_⟩, fun z => absurd (nI_le (by omega) (by omega)) z⟩
        rw [nI_clamp (by omega), r_num hM o1 hc, hh]
        exact ⟨rfl, fin⟩
      | succ r ih =>
        intro i z c hi hc hh
        have hl := lot_lt (z * 1103515245 + 12345)
        have e := lot_eq (z * 1103515245 + 12345)
        unfold lotE at e
        refine h_Ref_drawn_42 ⟨fun z => absurd z (nI_ge (by omega) (by omega)), fun _ => ?_⟩
        rw [e, nI_clamp (by omega), o1.2.1 _ hl, nI_1]
        refine ⟨rfl, by decide, ⟨rfl, vp_in_nI (N := 3) hl (by omega)⟩, rfl, ?_⟩
        refine r_beh hM o1 hc (inm_l hl (hgl _ hl)) ⟨_, rfl, ?_⟩
        exact ih (i + 1) _ _ (by omega) (inm_th hc (inm_l hl (hgl _ hl))) hh
    have c0 := o1.2.2.2.2.1 0 eF_pos
    rw [eF_0.1] at c0
    rw [show (0 : Int32).toNatClampNeg = 0 from rfl, c0]
    exact loop N 0 a2 228 (by omega) inm_1 rfl
  have loop : ∀ r i (z : Int32) c, i + r = N → inm (gL (nrm (Ms k))) c → edr (gL (nrm (Ms k))) N a2 228 = edr (gL (nrm (Ms k))) r z c → mv_wf X (mv_wp X (d + 19)) m_WM_drawn (fun r1 σ1 => ∃ v, r1 = some (.int v) ∧ mv_wp X (d + 20) 228 (.ref 61 :: [.int (nI k), .int a2, .int (nI N)]) σ1 (fun r2 σ2 => r2 = some (.int v) ∧ mo_P n G σ σ2)) 32 [.ref 0, .retAddr 0, .retAddr 0, .int (nI N), .int z, .int (nI c), .int (nI i)] [] τ1 := by
    intro r
    induction r with
    | zero =>
      intro i z c hi hc hh
      refine h_WM_drawn_32 ⟨fun _ => ⟨rfl, rfl, ?_⟩, fun z => absurd (nI_le (by omega) (by omega)) z⟩
      refine c_number e1 hc ⟨_, rfl, _, rfl, ?_⟩
      have hh : edr (gL (nrm (Ms k))) N a2 228 = c := hh
      rw [← hh]
      exact rf
    | succ r ih =>
      intro i z c hi hc hh
      have hl := lot_lt (z * 1103515245 + 12345)
      refine h_WM_drawn_32 ⟨fun z => absurd z (nI_ge (by omega) (by omega)), fun _ => ?_⟩
      refine (w_WM_nextLot _ _ _ _ _).mpr ⟨_, rfl, rfl, ?_⟩
      refine s_lot ⟨_, rfl, rfl, ?_⟩
      refine s_behind (inm_lt hc) (hgl _ hl) hl (e1.2.1 _ hl) ⟨_, rfl, ?_⟩
      rw [nI_1]
      exact ih (i + 1) _ _ (by omega) (inm_th hc (inm_l hl (hgl _ hl))) hh
  exact loop N 0 a2 228 (by omega) inm_1 rfl
end MOPS2
