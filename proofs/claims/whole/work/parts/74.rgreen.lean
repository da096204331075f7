/-! ===== green, the reference ===== -/
section RGREEN
variable {X : mv_X} {d : Nat} {σ : mv_S} {Q : mv_Q} {M : md_T}
theorem r_isTaken {i : Nat} (hM : md_ok M) (m : moR M σ) (hi : i < (eF (gL M)).1) (hQ : Q (some (.int (if tkn M i = true then 1 else 0))) σ) : mv_wp X (d + 2) 194 [.ref 61, .int (nI i)] σ Q := by
  have hle := eF_le (g := gL M)
  have h16 := lE_16 hM
  have hp : 1 ≤ (lF M).1 := by rw [lF_eq]; exact bf_pos _
  refine (w_Ref_isTaken _ _ _ _ _).mpr ⟨rfl, rfl, ⟨rfl, vp_in_nI (N := 256) (by omega) (by omega)⟩, ?_⟩
  rw [nI_clamp (by omega), m.2.2.2.2.1 i hi]
  refine (r_ledBy (p := 0) (fx_256 (fx_in hM ⟨i, hi, rfl⟩)) (by decide)).mpr ⟨_, rfl, ?_⟩
  rw [m.1.2.1, at_mod (lF_4 hM) hp]
  have hl := at4_lt ((eF (gL M)).2.1 i) 0
  have e := tb_1 (a := lE M) (k := at4 ((eF (gL M)).2.1 i) 0) (by omega) (by omega)
  by_cases h : tkn M i = true
  · rw [if_pos h] at hQ
    exact ⟨fun z => absurd (e.mpr h) z, fun _ => ⟨Or.inr rfl, hQ⟩⟩
  · rw [if_neg h] at hQ
    exact ⟨fun _ => ⟨Or.inl rfl, hQ⟩, fun z => absurd (e.mp z) h⟩
def zG (g : Nat → Nat) (c : Nat) : Nat → Nat → Bool → Bool
  | 0, _, b => b
  | r + 1, l, b => zG g c r (l + 1) (b && (decide (th c (g l) = c) && decide (th (g l) c = c)))
theorem zG_eq (g : Nat → Nat) (c : Nat) : zG g c 3 0 true = zb g c := by
  show (((true && _) && _) && _) = _
  rw [Bool.true_and, Bool.and_assoc]
  rfl
theorem r_isZero {i : Nat} (hM : md_ok M) (m : moR M σ) (hi : i < (eF (gL M)).1) (hQ : Q (some (.int (if zb (gL M) ((eF (gL M)).2.1 i) = true then 1 else 0))) σ) : mv_wp X (d + 4) 193 [.ref 61, .int (nI i)] σ Q := by
  have hle := eF_le (g := gL M)
  have hin : inm (gL M) ((eF (gL M)).2.1 i) := ⟨i, hi, rfl⟩
  have ii : bf_ix (eF (gL M)) ((eF (gL M)).2.1 i) = i := ix_cd hi
  have ne : ∀ x, inm (gL M) x → (nI (bf_ix (eF (gL M)) x) = nI i ↔ x = (eF (gL M)).2.1 i) := by
    intro x hx
    have h1 := inm_ix hx
    constructor
    · intro z
      have z := nI_28 (by omega) (by omega) z
      rw [← h1.2, z]
    · intro z
      rw [z, ii]
  have tl : ∀ l, l < 3 → ∀ (Q : mv_Q), Q (some (.int (nI (bf_ix (eF (gL M)) (th ((eF (gL M)).2.1 i) (gL M l)))))) σ → mv_wp X (d + 3) 177 [.ref 61, .int (nI i), .int (nI (bf_ix (eF (gL M)) (gL M l)))] σ Q := by
    intro l hl Q hq
    have := r_tm (X := X) (d := d) (Q := Q) hM m hin (inm_l hl (gl_256 hM hl)) hq
    rw [ii] at this
    exact this
  have tr : ∀ l, l < 3 → ∀ (Q : mv_Q), Q (some (.int (nI (bf_ix (eF (gL M)) (th (gL M l) ((eF (gL M)).2.1 i)))))) σ → mv_wp X (d + 3) 177 [.ref 61, .int (nI (bf_ix (eF (gL M)) (gL M l))), .int (nI i)] σ Q := by
    intro l hl Q hq
    have := r_tm (X := X) (d := d) (Q := Q) hM m (inm_l hl (gl_256 hM hl)) hin hq
    rw [ii] at this
    exact this
  have n71 : ∀ l, l < 3 → σ.1 71 (gL M l % 4 ^ (lF M).1) = nI (bf_ix (eF (gL M)) (gL M l)) ∧ gL M l % 4 ^ (lF M).1 < 256 := fun l hl => ⟨r_num hM m (inm_l hl (gl_256 hM hl)), fx_256 (gL_fx hM hl)⟩
  have hgl : ∀ l, l < 3 → inm (gL M) (gL M l) := fun l hl => inm_l hl (gl_256 hM hl)
  have loop : ∀ r l b, l + r = 3 → zb (gL M) ((eF (gL M)).2.1 i) = zG (gL M) ((eF (gL M)).2.1 i) r l b → mv_wf X (mv_wp X (d + 3)) m_Ref_isZero Q 4 [.ref 61, .int (nI i), .int (if b = true then 1 else 0), .int (nI l), .retAddr 0] [] σ := by
    intro r
    induction r with
    | zero =>
      intro l b hl he
      obtain rfl : l = 3 := by omega
      have he : zb (gL M) ((eF (gL M)).2.1 i) = b := he
      rw [he] at hQ
      exact h_Ref_isZero_4 ⟨fun _ => ⟨bI_01 _, hQ⟩, fun z => absurd (show (3 : Int32) ≤ nI 3 by decide) z⟩
    | succ r ih =>
      intro l b hl he
      have hl3 : l < 3 := by omega
      obtain ⟨k71, k256⟩ := n71 l hl3
      have he : zb (gL M) ((eF (gL M)).2.1 i) = zG (gL M) ((eF (gL M)).2.1 i) r (l + 1) (b && (decide (th ((eF (gL M)).2.1 i) (gL M l) = (eF (gL M)).2.1 i) && decide (th (gL M l) ((eF (gL M)).2.1 i) = (eF (gL M)).2.1 i))) := he
      refine h_Ref_isZero_4 ⟨fun z => absurd z (nI_ge (b := 3) (by omega) (by omega)), fun _ => ?_⟩
      rw [nI_clamp (n := l) (by omega), m.2.1 l hl3, nI_clamp (n := gL M l % 4 ^ (lF M).1) (by omega), k71, nI_1]
      refine ⟨rfl, rfl, ⟨rfl, vp_in_nI (N := 3) hl3 (by omega)⟩, ⟨rfl, vp_in_nI (N := 256) k256 (by omega)⟩, ?_⟩
      cases b with
      | false =>
        rw [Bool.false_and] at he
        exact ⟨fun _ => ih (l + 1) false (by omega) he, fun z => absurd rfl z⟩
      | true =>
        rw [Bool.true_and] at he
        refine ⟨fun z => absurd z (by decide), fun _ => ⟨rfl, tl l hl3 _ ⟨_, rfl, ?_⟩⟩⟩
        have n1 := ne _ (inm_th hin (hgl l hl3))
        have n2 := ne _ (inm_th (hgl l hl3) hin)
        by_cases e1 : th ((eF (gL M)).2.1 i) (gL M l) = (eF (gL M)).2.1 i
        · refine ⟨fun z => absurd (n1.mpr e1) z, fun _ => ⟨rfl, tr l hl3 _ ⟨_, rfl, ?_⟩⟩⟩
          rw [decide_eq_true e1, Bool.true_and] at he
          by_cases e2 : th (gL M l) ((eF (gL M)).2.1 i) = (eF (gL M)).2.1 i
          · rw [decide_eq_true e2] at he
            exact ⟨fun z => absurd (n2.mpr e2) z, fun _ => ih (l + 1) true (by omega) he⟩
          · rw [decide_eq_false e2] at he
            exact ⟨fun _ => ih (l + 1) false (by omega) he, fun z => absurd (n2.mp z) e2⟩
        · rw [decide_eq_false e1, Bool.false_and] at he
          exact ⟨fun _ => ih (l + 1) false (by omega) he, fun z => absurd (n1.mp z) e1⟩
  exact w_Ref_isZero (loop 3 0 true rfl (zG_eq _ _).symm)
theorem r_gr0 (hM : md_ok M) (m : moR M σ) (hQ : Q (some (.int (nI (fa_cnt (fun i => decide (th ((eF (gL M)).2.1 i) ((eF (gL M)).2.1 i) = (eF (gL M)).2.1 i)) (eF (gL M)).1)))) σ) : ∀ r i, i + r = (eF (gL M)).1 → mv_wf X (mv_wp X (d + 4)) m_Ref_green Q 56 [.ref 61, .retAddr 0, .int (nI 0), .int (nI (fa_cnt (fun i => decide (th ((eF (gL M)).2.1 i) ((eF (gL M)).2.1 i) = (eF (gL M)).2.1 i)) i)), .int (-1), .int (nI i)] [] σ := by
  intro r
  have hle := eF_le (g := gL M)
  induction r with
  | zero =>
    intro i hi
    refine h_Ref_green_56 ⟨rfl, ?_⟩
    rw [m.2.2.1]
    refine ⟨fun _ => ⟨fun _ => ?_, fun z => absurd z (by decide)⟩, fun z => absurd (nI_le (by omega) (by omega)) z⟩
    rw [show i = (eF (gL M)).1 by omega]
    exact hQ
  | succ r ih =>
    intro i hi
    have hil : i < (eF (gL M)).1 := by omega
    have hp := pd_lt (g := gL M) hil hil
    refine h_Ref_green_56 ⟨rfl, ?_⟩
    rw [m.2.2.1]
    refine ⟨fun z => absurd z (nI_ge (by omega) (by omega)), fun _ => ⟨fun z => absurd rfl z, fun _ => ⟨rfl, ?_⟩⟩⟩
    refine r_timesOf hM m hil hil ⟨_, rfl, ?_⟩
    have nx := ih (i + 1) (by omega)
    rw [nI_1]
    by_cases e : th ((eF (gL M)).2.1 i) ((eF (gL M)).2.1 i) = (eF (gL M)).2.1 i
    · have ep : pd (gL M) i i = i := by unfold pd; rw [e]; exact ix_cd hil
      rw [ep]
      refine ⟨fun z => absurd rfl z, fun _ => ?_⟩
      have := r_bit (X := X) (d := d + 3) (b := True) (σ := σ) (Q := fun r7 σ7 => ∃ v7, r7 = some (.int v7) ∧ (mv_wf X (mv_wp X (d + 4)) m_Ref_green Q 56 [.ref 61, .retAddr 0, .int (nI 0), .int (nI (fa_cnt (fun i => decide (th ((eF (gL M)).2.1 i) ((eF (gL M)).2.1 i) = (eF (gL M)).2.1 i)) i) + v7), .int (-1), .int (nI (i + 1))] [] σ7))
      rw [if_pos trivial] at this
      refine this.mpr ⟨_, rfl, ?_⟩
      rw [fa_cnt_yes (decide_eq_true e)] at nx
      rw [nI_1]
      exact nx
    · have ep : ¬ nI (pd (gL M) i i) = nI i := fun z => by
        have z := nI_28 (by omega) (by omega) z
        have := pd_cd (g := gL M) hil hil
        rw [z] at this
        exact e this.symm
      refine ⟨fun _ => ?_, fun z => absurd z ep⟩
      have := r_bit (X := X) (d := d + 3) (b := False) (σ := σ) (Q := fun r7 σ7 => ∃ v7, r7 = some (.int v7) ∧ (mv_wf X (mv_wp X (d + 4)) m_Ref_green Q 56 [.ref 61, .retAddr 0, .int (nI 0), .int (nI (fa_cnt (fun i => decide (th ((eF (gL M)).2.1 i) ((eF (gL M)).2.1 i) = (eF (gL M)).2.1 i)) i) + v7), .int (-1), .int (nI (i + 1))] [] σ7))
      rw [if_neg (fun z => z)] at this
      refine this.mpr ⟨_, rfl, ?_⟩
      rw [fa_cnt_no (decide_eq_false e)] at nx
      rw [show (0 : Int32) = nI 0 from rfl, nI_add]
      exact nx
theorem r_gr4 (hM : md_ok M) (m : moR M σ) (hQ : ∀ τ, frX σ τ → Q (some (.int (nI (mxp (prd (gL M)) (eF (gL M)).1)))) τ) : ∀ r i (τ : mv_S), i + r = (eF (gL M)).1 → frX σ τ → mv_wf X (mv_wp X (d + 4)) m_Ref_green Q 56 [.ref 61, .retAddr 0, .int (nI 4), .int (nI (mxp (prd (gL M)) i)), .int (-1), .int (nI i)] [] τ := by
  intro r
  have hle := eF_le (g := gL M)
  have hlt : ∀ i, prd (gL M) i < 6 := fun i => by unfold prd; have := pr0_le ((eF (gL M)).2.1 i); omega
  have hml := mxp_lt hlt (by decide)
  have mS : ∀ τ, frX σ τ → moR M τ := fun τ h => moR_S (fun c j q => h.1 c j (by omega) (by omega)) m
  induction r with
  | zero =>
    intro i τ hi hf
    refine h_Ref_green_56 ⟨rfl, ?_⟩
    rw [(mS τ hf).2.2.1]
    refine ⟨fun _ => ⟨fun _ => ?_, fun z => absurd z (by decide)⟩, fun z => absurd (nI_le (by omega) (by omega)) z⟩
    rw [show i = (eF (gL M)).1 by omega]
    exact hQ τ hf
  | succ r ih =>
    intro i τ hi hf
    have h1 := hlt i
    have h2 := hml i
    refine h_Ref_green_56 ⟨rfl, ?_⟩
    rw [(mS τ hf).2.2.1]
    refine ⟨fun z => absurd z (nI_ge (by omega) (by omega)), fun _ => ⟨fun _ => ⟨fun z => absurd rfl z, fun _ => ⟨rfl, ?_⟩⟩, fun z => absurd z (by decide)⟩⟩
    refine r_findsPowers hM (mS τ hf) (by omega) (fun τ2 s1 s2 s3 => ⟨rfl, rfl, ?_⟩)
    have f2 : frX σ τ2 := ⟨fun c j q1 q2 => (s3.1 c j q1 q2).trans (hf.1 c j q1 q2), s3.2.trans hf.2⟩
    have s2 : τ2.1 61 26 = nI (prd (gL M) i) := s2
    rw [s2, nI_1]
    have hs : mxp (prd (gL M)) (i + 1) = if mxp (prd (gL M)) i < prd (gL M) i then prd (gL M) i else mxp (prd (gL M)) i := rfl
    have nx := ih (i + 1) τ2 (by omega) f2
    rw [hs] at nx
    by_cases e : mxp (prd (gL M)) i < prd (gL M) i
    · rw [if_pos e] at nx
      exact ⟨fun z => absurd z (nI_ge e (by omega)), fun _ => ⟨rfl, nx⟩⟩
    · rw [if_neg e] at nx
      exact ⟨fun _ => nx, fun z => absurd (nI_le (by omega) (by omega)) z⟩
theorem r_gr5 (hM : md_ok M) (m : moR M σ) (hQ : Q (some (.int (nI (fa_cnt (tkn M) (eF (gL M)).1)))) σ) : ∀ r i, i + r = (eF (gL M)).1 → mv_wf X (mv_wp X (d + 4)) m_Ref_green Q 56 [.ref 61, .retAddr 0, .int (nI 5), .int (nI (fa_cnt (tkn M) i)), .int (-1), .int (nI i)] [] σ := by
  intro r
  have hle := eF_le (g := gL M)
  induction r with
  | zero =>
    intro i hi
    refine h_Ref_green_56 ⟨rfl, ?_⟩
    rw [m.2.2.1]
    refine ⟨fun _ => ⟨fun _ => ?_, fun z => absurd z (by decide)⟩, fun z => absurd (nI_le (by omega) (by omega)) z⟩
    rw [show i = (eF (gL M)).1 by omega]
    exact hQ
  | succ r ih =>
    intro i hi
    refine h_Ref_green_56 ⟨rfl, ?_⟩
    rw [m.2.2.1]
    refine ⟨fun z => absurd z (nI_ge (by omega) (by omega)), fun _ => ⟨fun _ => ⟨fun _ => ⟨fun z => absurd rfl z, fun _ => ⟨rfl, ?_⟩⟩, fun z => absurd z (by decide)⟩, fun z => absurd z (by decide)⟩⟩
    refine r_isTaken hM m (by omega) ⟨_, rfl, ?_⟩
    refine r_bit.mpr ⟨_, rfl, ?_⟩
    have nx := ih (i + 1) (by omega)
    rw [nI_1]
    by_cases e : tkn M i = true
    · rw [if_pos e]
      rw [fa_cnt_yes e] at nx
      rw [nI_1]
      exact nx
    · rw [if_neg e]
      rw [fa_cnt_no (Bool.eq_false_iff.mpr e)] at nx
      rw [show (0 : Int32) = nI 0 from rfl, nI_add]
      exact nx
theorem r_gr6 (hM : md_ok M) (m : moR M σ) (hQ : Q (some (.int (lz (fun i => zb (gL M) ((eF (gL M)).2.1 i)) (eF (gL M)).1))) σ) : ∀ r i, i + r = (eF (gL M)).1 → mv_wf X (mv_wp X (d + 4)) m_Ref_green Q 56 [.ref 61, .retAddr 0, .int (nI 6), .int (nI 0), .int (lz (fun i => zb (gL M) ((eF (gL M)).2.1 i)) i), .int (nI i)] [] σ := by
  intro r
  have hle := eF_le (g := gL M)
  induction r with
  | zero =>
    intro i hi
    refine h_Ref_green_56 ⟨rfl, ?_⟩
    rw [m.2.2.1]
    refine ⟨fun _ => ⟨fun z => absurd rfl z, fun _ => ?_⟩, fun z => absurd (nI_le (by omega) (by omega)) z⟩
    rw [show i = (eF (gL M)).1 by omega]
    exact hQ
  | succ r ih =>
    intro i hi
    refine h_Ref_green_56 ⟨rfl, ?_⟩
    rw [m.2.2.1]
    refine ⟨fun z => absurd z (nI_ge (by omega) (by omega)), fun _ => ⟨fun _ => ⟨fun _ => ⟨fun _ => ⟨rfl, ?_⟩, fun z => absurd z (by decide)⟩, fun z => absurd z (by decide)⟩, fun z => absurd z (by decide)⟩⟩
    refine r_isZero hM m (by omega) ⟨_, rfl, ?_⟩
    have nx := ih (i + 1) (by omega)
    have hs : lz (fun i => zb (gL M) ((eF (gL M)).2.1 i)) (i + 1) = if zb (gL M) ((eF (gL M)).2.1 i) = true then nI i else lz (fun i => zb (gL M) ((eF (gL M)).2.1 i)) i := rfl
    rw [hs] at nx
    rw [nI_1]
    by_cases e : zb (gL M) ((eF (gL M)).2.1 i) = true
    · rw [if_pos e] at nx ⊢
      exact ⟨fun z => absurd z (by decide), fun _ => nx⟩
    · rw [if_neg e] at nx ⊢
      exact ⟨fun _ => nx, fun z => absurd rfl z⟩
def frk (σ τ : mv_S) : Prop := (∀ c j, ¬ (78 ≤ c ∧ c ≤ 80) → ¬ (c = 61 ∧ j = 29) → τ.1 c j = σ.1 c j) ∧ τ.2 = σ.2
theorem S_k {τ : mv_S} (h : frk σ τ) : frS σ τ := ⟨fun c j q => h.1 c j (fun z => q (by unfold sc2; omega)) (fun z => q (by unfold sc2; omega)), h.2⟩
theorem G_k {G : Nat} {τ : mv_S} (h : frk σ τ) (m : iv_G G σ) : iv_G G τ := iv_G_S (h.1 _ _ (by omega) (by omega)) (fun c => h.1 _ _ (by omega) (by omega)) m
theorem nar_b (b : Prop) [Decidable b] : vp_nar (mv_ty 22) (if b then 1 else 0) = if b then 1 else 0 := by
  by_cases h : b
  · rw [if_pos h]; exact nar1
  · rw [if_neg h]; exact nar0
theorem r_classes {sd : Nat} (hM : md_ok M) (m : moR M σ) (hsd : sd < 3) (hQ : ∀ τ, frk σ τ → Q (some (.int (nI (fa_cnt (clc (gL M) sd) (eF (gL M)).1)))) τ) : mv_wp X (d + 5) 192 [.ref 61, .int (nI sd)] σ Q := by
  have hle := eF_le (g := gL M)
  have mS : ∀ τ, frk σ τ → moR M τ := fun τ h => moR_S (fun c j q => h.1 c j (by omega) (by omega)) m
  have cnt : ∀ (τ : mv_S), frk σ τ → (∀ a b, a < (eF (gL M)).1 → b < (eF (gL M)).1 → τ.1 80 (256 * a + b) = if mem (gL M) sd b a = true then 1 else 0) → ∀ r i, i + r = (eF (gL M)).1 → mv_wf X (mv_wp X (d + 4)) m_Ref_classes Q 60 [.ref 61, .retAddr 0, .int (nI (fa_cnt (clc (gL M) sd) i)), .int (nI i), .retAddr 0, .retAddr 0] [] τ := by
    intro τ hf h80 r
    induction r with
    | zero =>
      intro i hi
      refine h_Ref_classes_60 ⟨rfl, ?_⟩
      rw [(mS τ hf).2.2.1]
      refine ⟨fun _ => ?_, fun z => absurd (nI_le (by omega) (by omega)) z⟩
      rw [show i = (eF (gL M)).1 by omega]
      exact hQ τ hf
    | succ r ih =>
      intro i hi
      refine h_Ref_classes_60 ⟨rfl, ?_⟩
      rw [(mS τ hf).2.2.1]
      refine ⟨fun z => absurd z (nI_ge (by omega) (by omega)), fun _ => ?_⟩
      have inner : ∀ s j b, j + s = i → b = alb (fun j => mem (gL M) sd i j && mem (gL M) sd j i) j → mv_wf X (mv_wp X (d + 4)) m_Ref_classes Q 74 [.ref 61, .retAddr 0, .int (nI (fa_cnt (clc (gL M) sd) i)), .int (nI i), .int (if b = true then 1 else 0), .int (nI j)] [] τ := by
        intro s
        induction s with
        | zero =>
          intro j b hj hb
          obtain rfl : j = i := by omega
          refine h_Ref_classes_74 ⟨fun _ => ?_, fun z => absurd (nI_le (Nat.le_refl _) (by omega)) z⟩
          refine r_bit.mpr ⟨_, rfl, ?_⟩
          have cn : fa_cnt (clc (gL M) sd) (j + 1) = fa_cnt (clc (gL M) sd) j + if clc (gL M) sd j = true then 1 else 0 := rfl
          have nx := ih (j + 1) (by omega)
          have hb : b = clc (gL M) sd j := hb
          rw [cn, ← hb] at nx
          rw [nI_1]
          cases b with
          | false =>
            rw [if_neg (by decide)] at nx
            rw [show (if false = true then (1 : Int32) else 0) = nI 0 from rfl, nI_add]
            exact nx
          | true =>
            rw [if_pos rfl] at nx
            rw [show (if true = true then (1 : Int32) else 0) = nI 1 from rfl, nI_add]
            exact nx
        | succ s ih2 =>
          intro j b hj hb
          have st : alb (fun j => mem (gL M) sd i j && mem (gL M) sd j i) (j + 1) = (b && !(mem (gL M) sd i j && mem (gL M) sd j i)) := by
            show (alb (fun j => mem (gL M) sd i j && mem (gL M) sd j i) j && !(mem (gL M) sd i j && mem (gL M) sd j i)) = _
            rw [← hb]
          refine h_Ref_classes_74 ⟨fun z => absurd z (nI_ge (by omega) (by omega)), fun _ => ?_⟩
          rw [show (256 : Int32) = nI 256 from rfl, pk_mul, pk_mul, nI_add, nI_add, nI_clamp (by omega), nI_clamp (by omega), h80 j i (by omega) (by omega), h80 i j (by omega) (by omega), nI_1]
          cases b with
          | false =>
            rw [Bool.false_and] at st
            exact ⟨fun _ => ih2 (j + 1) false (by omega) st.symm, fun z => absurd rfl z⟩
          | true =>
            rw [Bool.true_and] at st
            refine ⟨fun z => absurd z (by decide), fun _ => ⟨rfl, ⟨rfl, Or.inr rfl, vp_in_nI (N := 65536) (by omega) (by omega)⟩, ?_⟩⟩
            by_cases e1 : mem (gL M) sd i j = true
            · rw [if_pos e1]
              rw [e1, Bool.true_and] at st
              refine ⟨fun z => absurd z (by decide), fun _ => ⟨rfl, ⟨rfl, Or.inr rfl, vp_in_nI (N := 65536) (by omega) (by omega)⟩, ?_⟩⟩
              by_cases e2 : mem (gL M) sd j i = true
              · rw [if_pos e2]
                rw [e2] at st
                exact ⟨fun _ => ih2 (j + 1) false (by omega) st.symm, fun z => absurd z (by decide)⟩
              · rw [if_neg e2]
                rw [Bool.eq_false_iff.mpr e2] at st
                exact ⟨fun z => absurd rfl z, fun _ => ih2 (j + 1) true (by omega) st.symm⟩
            · rw [if_neg e1]
              rw [Bool.eq_false_iff.mpr e1, Bool.false_and] at st
              exact ⟨fun _ => ih2 (j + 1) true (by omega) st.symm, fun z => absurd rfl z⟩
      exact inner i 0 true (by omega) rfl
  have fill : ∀ r a (τ : mv_S), a + r = (eF (gL M)).1 → frk σ τ → (∀ x b, x < a → b < (eF (gL M)).1 → τ.1 80 (256 * x + b) = if mem (gL M) sd b x = true then 1 else 0) → mv_wf X (mv_wp X (d + 4)) m_Ref_classes Q 2 [.ref 61, .int (nI sd), .int (nI a), .retAddr 0, .retAddr 0, .retAddr 0] [] τ := by
    intro r
    induction r with
    | zero =>
      intro a τ ha hf h80
      refine h_Ref_classes_2 ⟨rfl, ?_⟩
      rw [(mS τ hf).2.2.1]
      refine ⟨fun _ => ?_, fun z => absurd (nI_le (by omega) (by omega)) z⟩
      exact cnt τ hf (fun x b hx hb => h80 x b (by omega) hb) (eF (gL M)).1 0 (by omega)
    | succ r ih =>
      intro a τ ha hf h80
      refine h_Ref_classes_2 ⟨rfl, ?_⟩
      rw [(mS τ hf).2.2.1]
      refine ⟨fun z => absurd z (nI_ge (by omega) (by omega)), fun _ => ⟨rfl, ?_⟩⟩
      refine r_findsFrom hM (mS τ hf) hsd (show a < (eF (gL M)).1 by omega) (fun τ2 p1 p2 => ⟨rfl, ?_⟩)
      have copy : ∀ s b (υ : mv_S), b + s = (eF (gL M)).1 → (∀ c j, ¬ c = 80 → υ.1 c j = τ2.1 c j) → υ.2 = τ2.2 → (∀ x y, x < a → y < (eF (gL M)).1 → υ.1 80 (256 * x + y) = if mem (gL M) sd y x = true then 1 else 0) → (∀ y, y < b → υ.1 80 (256 * a + y) = if mem (gL M) sd y a = true then 1 else 0) → mv_wf X (mv_wp X (d + 4)) m_Ref_classes Q 18 [.ref 61, .int (nI sd), .int (nI a), .int (nI b), .retAddr 0, .retAddr 0] [] υ := by
        intro s
        induction s with
        | zero =>
          intro b υ hb u1 u2 u3 u4
          have fυ : frk σ υ := ⟨fun c j q1 q2 => by rw [u1 c j (by omega), p2.1 c j (by omega) (by omega) q2]; exact hf.1 c j q1 q2, u2.trans (p2.2.trans hf.2)⟩
          refine h_Ref_classes_18 ⟨rfl, ?_⟩
          rw [(mS υ fυ).2.2.1]
          refine ⟨fun _ => ?_, fun z => absurd (nI_le (by omega) (by omega)) z⟩
          rw [nI_1]
          refine ih (a + 1) υ (by omega) fυ (fun x y hx hy => ?_)
          by_cases ex : x = a
          · rw [ex]; exact u4 y (by omega)
          · exact u3 x y (by omega) hy
        | succ s ih2 =>
          intro b υ hb u1 u2 u3 u4
          have fυ : frk σ υ := ⟨fun c j q1 q2 => by rw [u1 c j (by omega), p2.1 c j (by omega) (by omega) q2]; exact hf.1 c j q1 q2, u2.trans (p2.2.trans hf.2)⟩
          have hbl : b < (eF (gL M)).1 := by omega
          have me : mem (gL M) sd b a = decide (bf_ix (gF (gL M) sd ((eF (gL M)).2.1 a)) ((eF (gL M)).2.1 b) < (gF (gL M) sd ((eF (gL M)).2.1 a)).1) := rfl
          refine h_Ref_classes_18 ⟨rfl, ?_⟩
          rw [(mS υ fυ).2.2.1]
          refine ⟨fun z => absurd z (nI_ge (by omega) (by omega)), fun _ => ⟨rfl, rfl, ⟨rfl, Or.inr rfl, vp_in_nI (N := 256) (by omega) (by omega)⟩, ?_⟩⟩
          rw [show (256 : Int32) = nI 256 from rfl, pk_mul, nI_add, nI_clamp (n := b) (by omega), nI_clamp (n := 256 * a + b) (by omega), u1 78 b (by omega), p1.2.2 b hbl, nar_b, nI_1]
          refine ⟨⟨rfl, Or.inr rfl, vp_in_nI (N := 65536) (by omega) (by omega)⟩, ?_⟩
          refine ih2 (b + 1) _ (by omega) (fun c j q => ?_) u2 (fun x y hx hy => ?_) (fun y hy => ?_)
          · rw [mv_rn (by omega)]; exact u1 c j q
          · rw [mv_rn (by omega)]; exact u3 x y hx hy
          · by_cases ey : y = b
            · subst ey
              rw [mv_rd, me]
              by_cases ee : bf_ix (gF (gL M) sd ((eF (gL M)).2.1 a)) ((eF (gL M)).2.1 y) < (gF (gL M) sd ((eF (gL M)).2.1 a)).1
              · rw [if_pos ee, if_pos (decide_eq_true ee)]
              · rw [if_neg ee, if_neg (fun z => ee (of_decide_eq_true z))]
            · rw [mv_rn (by omega)]; exact u4 y (by omega)
      refine copy (eF (gL M)).1 0 τ2 (by omega) (fun _ _ _ => rfl) rfl (fun x y hx hy => ?_) (fun y hy => absurd hy (Nat.not_lt_zero _))
      rw [p2.1 80 _ (by omega) (by omega) (by omega)]
      exact h80 x y hx hy
  exact w_Ref_classes (fill (eF (gL M)).1 0 σ (by omega) ⟨fun _ _ _ _ => rfl, rfl⟩ (fun x b hx => absurd hx (Nat.not_lt_zero _)))
theorem op_green {n G : Nat} {Ms : Nat → md_T} {a1 a2 : Int32} (hG30 : G < 2 ^ 29) (h : iv_M n Ms σ) (hC : iv_C σ) (hR : iv_R n σ) (hG : iv_G G σ) : lw_op X (d + 20) (mo_P n G σ) 112 195 [.int a1, .int a2] σ := by
  unfold lw_op
  have h9 := h
  obtain ⟨b1, b2, b3, b4⟩ := h9
  refine (w_WM_green _ _ _ _ _ _).mpr ⟨rfl, ?_⟩
  rcases ix_cs a1 n (by omega) with ⟨c1, c2⟩ | ⟨k, hk, rfl, c1⟩
  · refine s_learnt_no b2 c1 ⟨_, rfl, fun z => absurd rfl z, fun _ => ⟨_, rfl, ?_⟩⟩
    refine w_Ref_green ⟨rfl, ?_⟩
    rw [r_isMachine b3 b1, if_neg c2]
    exact ⟨_, rfl, fun _ => ⟨rfl, mo_same hC hR hG⟩, fun z => absurd rfl z⟩
  have hle := eF_le (g := gL (nrm (Ms k)))
  refine s_learnt_ok h hC hk (fun τ1 e1 e2 e3 => ⟨_, rfl, fun _ => ?_, fun z => absurd z (by decide)⟩)
  have gY := G_Y e3 hG
  have hM : md_ok (nrm (Ms k)) := nrm_ok (b4 k hk).1
  obtain ⟨f3, f4, _, f5⟩ := mo_ref h hR hk e1 e2 e3 (frS_rf τ1) (Nat.le_add_right G 300) gY
  by_cases hb : 0 ≤ a2.toInt ∧ a2.toInt ≤ 6
  case neg =>
    have ne : ∀ v : Int32, 0 ≤ v.toInt → v.toInt ≤ 6 → ¬ a2 = v := fun v h0 h6 e => hb (by rw [e]; exact ⟨h0, h6⟩)
    refine ⟨fun z => absurd z (ne _ (by decide) (by decide)), fun _ => ⟨fun z => absurd z (ne _ (by decide) (by decide)), fun _ => ⟨fun z => absurd z (ne _ (by decide) (by decide)), fun _ => ⟨fun z => absurd z (ne _ (by decide) (by decide)), fun _ => ⟨fun z => absurd z (ne _ (by decide) (by decide)), fun _ => ⟨fun z => absurd z (ne _ (by decide) (by decide)), fun _ => ⟨fun z => absurd z (ne _ (by decide) (by decide)), fun _ => ⟨_, rfl, ?_⟩⟩⟩⟩⟩⟩⟩⟩
    refine w_Ref_green ⟨rfl, ?_⟩
    rw [r_isMachine f3 b1, if_pos c1]
    refine ⟨_, rfl, fun z => absurd z (by decide), fun _ => ?_⟩
    rw [r_inI (A := 0) (C := 6) rfl rfl, if_neg hb]
    exact ⟨_, rfl, fun z => absurd rfl z, fun _ => ⟨rfl, f4⟩⟩
  obtain ⟨w, hw, rfl⟩ := (ix_cs2 a2).resolve_left (by omega)
  rw [nI_toInt hw] at hb
  have go : ∀ (Q : mv_Q) (τ : mv_S) G', frS τ1 τ → G' ≤ G + 300 → iv_G G' τ → (∀ τ3, moR (nrm (Ms k)) τ3 → iv_G G' τ3 → (∀ τ4 G4, frS τ3 τ4 → G4 ≤ G + 300 → iv_G G4 τ4 → mo_P n G σ τ4) → (¬ (1 ≤ w ∧ w ≤ 3) → mv_wf X (mv_wp X (d + 19)) m_Ref_green Q 56 [.ref 61, .retAddr 0, .int (nI w), .int 0, .int (-1), .int 0] [] τ3) ∧ ((1 ≤ w ∧ w ≤ 3) → mv_wp X (d + 19) 192 [.ref 61, .int (nI w - 1)] τ3 (fun r5 σ5 => ∃ v5, r5 = some (.int v5) ∧ (Q (some (.int v5)) σ5)))) → mv_wp X (d + 20) 195 [.ref 61, .int (nI k), .int (nI w)] τ Q := by
    intro Q τ G' s2 hG' g2 hh
    obtain ⟨f3, f4, _, f5⟩ := mo_ref h hR hk e1 e2 e3 s2 hG' g2
    refine w_Ref_green ⟨rfl, ?_⟩
    rw [r_isMachine f3 b1, if_pos c1]
    refine ⟨_, rfl, fun z => absurd z (by decide), fun _ => ?_⟩
    rw [r_inI (A := 0) (C := 6) rfl rfl, if_pos (by rw [nI_toInt hw]; omega)]
    refine ⟨_, rfl, fun _ => ⟨rfl, ?_⟩, fun z => absurd z (by decide)⟩
    refine f5 _ _ _ (fun τ3 q1 q2 q3 q4 => ⟨rfl, ?_⟩)
    have hh := hh τ3 q1 q3 q4
    rw [r_inI (A := 1) (C := 3) rfl rfl, nI_toInt hw]
    by_cases e : 1 ≤ w ∧ w ≤ 3
    · rw [if_pos (by omega)]
      exact ⟨_, rfl, fun z => absurd z (by decide), fun _ => ⟨rfl, hh.2 e⟩⟩
    · rw [if_neg (by omega)]
      exact ⟨_, rfl, fun _ => hh.1 e, fun z => absurd rfl z⟩
  have cls : ∀ sd, sd < 3 → w = sd + 1 → mv_wp X (d + 19) 77 [.ref 12, .int (nI w - 1)] τ1 (fun r3 σ3 => ∃ v3, r3 = some (.int v3) ∧ ∃ v, (some (.int v3) : Option Value) = some (.int v) ∧ mv_wp X (d + 20) 195 [.ref 61, .int (nI k), .int (nI w)] σ3 (fun r2 σ2 => r2 = some (.int v) ∧ mo_P n G σ σ2)) := by
    intro sd hsd ew
    have e1' : nI w - 1 = nI sd := by rw [ew]; exact pk_sub (b := 1) (by omega)
    rw [e1']
    refine c_classes (by omega) hM e1 gY hsd (fun τ2 p1 p2 => ⟨_, rfl, _, rfl, ?_⟩)
    refine go _ τ2 _ (S_c p2) (by omega) p1 (fun τ3 g1 g2 g3 => ⟨fun z => absurd (by omega) z, fun _ => ?_⟩)
    rw [e1']
    exact r_classes hM g1 hsd (fun τ4 o => ⟨_, rfl, rfl, g3 τ4 _ (S_k o) (by omega) (G_k o g2)⟩)
  have hw7 : w = 0 ∨ w = 1 ∨ w = 2 ∨ w = 3 ∨ w = 4 ∨ w = 5 ∨ w = 6 := by omega
  rcases hw7 with rfl | rfl | rfl | rfl | rfl | rfl | rfl
  · refine ⟨fun _ => ⟨rfl, rfl, ?_⟩, fun z => absurd rfl z⟩
    refine c_idems e1 ⟨_, rfl, _, rfl, ?_⟩
    refine go _ τ1 G (frS_rf _) (Nat.le_add_right _ _) gY (fun τ3 g1 g2 g3 => ⟨fun _ => ?_, fun z => absurd z (by omega)⟩)
    exact r_gr0 hM g1 ⟨rfl, g3 τ3 G (frS_rf _) (Nat.le_add_right _ _) g2⟩ (eF (gL (nrm (Ms k)))).1 0 (by omega)
  · exact ⟨fun z => absurd z (by decide), fun _ => ⟨fun _ => ⟨rfl, rfl, cls 0 (by decide) rfl⟩, fun z => absurd (by decide) z⟩⟩
  · exact ⟨fun z => absurd z (by decide), fun _ => ⟨fun z => absurd z (by decide), fun _ => ⟨fun _ => ⟨rfl, rfl, cls 1 (by decide) rfl⟩, fun z => absurd (by decide) z⟩⟩⟩
  · exact ⟨fun z => absurd z (by decide), fun _ => ⟨fun z => absurd z (by decide), fun _ => ⟨fun z => absurd z (by decide), fun _ => ⟨fun _ => ⟨rfl, rfl, cls 2 (by decide) rfl⟩, fun z => absurd (by decide) z⟩⟩⟩⟩
  · refine ⟨fun z => absurd z (by decide), fun _ => ⟨fun z => absurd z (by decide), fun _ => ⟨fun z => absurd z (by decide), fun _ => ⟨fun z => absurd z (by decide), fun _ => ⟨fun _ => ⟨rfl, rfl, ?_⟩, fun z => absurd (by decide) z⟩⟩⟩⟩⟩
    refine c_great e1 ⟨_, rfl, _, rfl, ?_⟩
    refine go _ τ1 G (frS_rf _) (Nat.le_add_right _ _) gY (fun τ3 g1 g2 g3 => ⟨fun _ => ?_, fun z => absurd z (by omega)⟩)
    exact r_gr4 hM g1 (fun τ4 o => ⟨rfl, g3 τ4 G (S_X o) (Nat.le_add_right _ _) (G_X o g2)⟩) (eF (gL (nrm (Ms k)))).1 0 τ3 (by omega) ⟨fun _ _ _ _ => rfl, rfl⟩
  · refine ⟨fun z => absurd z (by decide), fun _ => ⟨fun z => absurd z (by decide), fun _ => ⟨fun z => absurd z (by decide), fun _ => ⟨fun z => absurd z (by decide), fun _ => ⟨fun z => absurd z (by decide), fun _ => ⟨fun _ => ⟨rfl, rfl, ?_⟩, fun z => absurd (by decide) z⟩⟩⟩⟩⟩⟩
    refine c_taken hM e1 ⟨_, rfl, _, rfl, ?_⟩
    refine go _ τ1 G (frS_rf _) (Nat.le_add_right _ _) gY (fun τ3 g1 g2 g3 => ⟨fun _ => ?_, fun z => absurd z (by omega)⟩)
    exact r_gr5 hM g1 ⟨rfl, g3 τ3 G (frS_rf _) (Nat.le_add_right _ _) g2⟩ (eF (gL (nrm (Ms k)))).1 0 (by omega)
  · refine ⟨fun z => absurd z (by decide), fun _ => ⟨fun z => absurd z (by decide), fun _ => ⟨fun z => absurd z (by decide), fun _ => ⟨fun z => absurd z (by decide), fun _ => ⟨fun z => absurd z (by decide), fun _ => ⟨fun z => absurd z (by decide), fun _ => ⟨fun _ => ⟨rfl, rfl, ?_⟩, fun z => absurd (by decide) z⟩⟩⟩⟩⟩⟩⟩
    refine c_zero hM e1 ⟨_, rfl, _, rfl, ?_⟩
    refine go _ τ1 G (frS_rf _) (Nat.le_add_right _ _) gY (fun τ3 g1 g2 g3 => ⟨fun _ => ?_, fun z => absurd z (by omega)⟩)
    refine r_gr6 hM g1 ⟨?_, g3 τ3 G (frS_rf _) (Nat.le_add_right _ _) g2⟩ (eF (gL (nrm (Ms k)))).1 0 (by omega)
    rw [lz_fz _ (fun i j hi hj zi zj => ?_)]
    exact (cd_ne hi hj).mp (zb_un ⟨i, hi, rfl⟩ ⟨j, hj, rfl⟩ zi zj)
end RGREEN
