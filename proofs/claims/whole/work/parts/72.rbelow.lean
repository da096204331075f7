/-! ===== what comes from what, the reference; below ===== -/
def gaR (M : md_T) (S : bf_T) (σ : mv_S) : Prop := σ.1 61 29 = nI S.1 ∧ (∀ i, i < S.1 → σ.1 79 i = nI (bf_ix (eF (gL M)) (S.2.1 i))) ∧ ∀ e, e < (eF (gL M)).1 → σ.1 78 e = if bf_ix S ((eF (gL M)).2.1 e) < S.1 then 1 else 0
def frh (σ τ : mv_S) : Prop := (∀ c j, ¬ c = 78 → ¬ c = 79 → ¬ (c = 61 ∧ j = 29) → τ.1 c j = σ.1 c j) ∧ τ.2 = σ.2
theorem frh_tr {a b c : mv_S} (h : frh a b) (g : frh b c) : frh a c := ⟨fun x j q1 q2 q3 => (g.1 x j q1 q2 q3).trans (h.1 x j q1 q2 q3), g.2.trans h.2⟩
theorem frh_R {M : md_T} {σ τ : mv_S} (h : frh σ τ) (m : moR M σ) : moR M τ := moR_S (fun c j q => h.1 c j (by omega) (by omega) (by omega)) m
theorem S_h {σ τ : mv_S} (h : frh σ τ) : frS σ τ := ⟨fun c j q => h.1 c j (fun z => q (by unfold sc2; omega)) (fun z => q (by unfold sc2; omega)) (fun z => q (by unfold sc2; omega)), h.2⟩
theorem G_h {G : Nat} {σ τ : mv_S} (h : frh σ τ) (m : iv_G G σ) : iv_G G τ := iv_G_S (h.1 _ _ (by omega) (by omega) (by omega)) (fun c => h.1 _ _ (by omega) (by omega) (by omega)) m
section RGATH
variable {X : mv_X} {d : Nat} {σ : mv_S} {Q : mv_Q} {M : md_T}
theorem r_heaps {x s : Nat} {S : bf_T} (h : gaR M S σ) (hx : inm (gL M) x) (hr : ¬ bf_ix S x < S.1 → S.1 < 256) (hQ : ∀ τ, gaR M (bf_up S x s) τ → frh σ τ → Q none τ) : mv_wp X (d + 1) 189 [.ref 61, .int (nI (bf_ix (eF (gL M)) x))] σ Q := by
  have hle := eF_le (g := gL M)
  obtain ⟨hi, hcd⟩ := inm_ix hx
  have v := h.2.2 _ hi
  rw [hcd] at v
  refine (w_Ref_heaps _ _ _ _ _).mpr ?_
  rw [nar1, nI_clamp (n := bf_ix (eF (gL M)) x) (by omega), v]
  refine ⟨rfl, ⟨rfl, Or.inr rfl, vp_in_nI (N := 256) (by omega) (by omega)⟩, ?_⟩
  by_cases e : bf_ix S x < S.1
  · have eu : bf_up S x s = S := if_pos e
    rw [eu] at hQ
    rw [if_pos e]
    exact ⟨fun _ => hQ σ h ⟨fun _ _ _ _ _ => rfl, rfl⟩, fun z => absurd z (by decide)⟩
  · have eu : bf_up S x s = bf_add S x s := if_neg e
    rw [eu] at hQ
    have hr := hr e
    rw [if_neg e]
    refine ⟨fun z => absurd rfl z, fun _ => ⟨rfl, ⟨rfl, Or.inr rfl, vp_in_nI (N := 256) (by omega) (by omega)⟩, rfl, rfl, ?_⟩⟩
    rw [show (mv_pi σ 78 (bf_ix (eF (gL M)) x) 1).1 61 29 = nI S.1 from (mv_rn (by omega)).trans h.1, nI_clamp (n := S.1) (by omega)]
    rw [show (mv_pi (mv_pi σ 78 (bf_ix (eF (gL M)) x) 1) 79 S.1 (nI (bf_ix (eF (gL M)) x))).1 61 29 = nI S.1 from (mv_rn (by omega)).trans ((mv_rn (by omega)).trans h.1), nI_1]
    refine ⟨⟨rfl, vp_in_nI (N := 256) hr (by omega)⟩, rfl, rfl, ?_⟩
    refine hQ _ ⟨?_, fun i hi' => ?_, fun e' he => ?_⟩ ⟨fun c j q1 q2 q3 => ?_, rfl⟩
    · rw [mv_rd, add_1]
    · rw [add_1] at hi'
      rw [mv_rn (by omega)]
      by_cases ei : i = S.1
      · subst ei; rw [mv_rd, (add_n _ _ _).1]
      · rw [mv_rn (by omega), mv_rn (by omega), (add_o _ _ _ ei).1]; exact h.2.1 i (by omega)
    · rw [mv_rn (by omega), mv_rn (by omega), ix_add e, add_1]
      by_cases ec : e' = bf_ix (eF (gL M)) x
      · rw [ec, mv_rd, hcd, if_neg e, if_pos rfl, if_pos (by omega)]
      · have ec2 : ¬ (eF (gL M)).2.1 e' = x := fun z => ec (by rw [← z]; exact (ix_cd he).symm)
        rw [mv_rn (by omega), h.2.2 e' he]
        by_cases e2 : bf_ix S ((eF (gL M)).2.1 e') < S.1
        · rw [if_pos e2, if_pos e2, if_pos (by omega)]
        · rw [if_neg e2, if_neg e2, if_neg ec2, if_neg (by omega)]
    · rw [mv_rn (by omega), mv_rn (by omega), mv_rn (by omega)]
theorem r_tm {a b : Nat} (hM : md_ok M) (m : moR M σ) (ha : inm (gL M) a) (hb : inm (gL M) b) (hQ : Q (some (.int (nI (bf_ix (eF (gL M)) (th a b))))) σ) : mv_wp X (d + 3) 177 [.ref 61, .int (nI (bf_ix (eF (gL M)) a)), .int (nI (bf_ix (eF (gL M)) b))] σ Q := by
  obtain ⟨h1, h2⟩ := inm_ix ha
  obtain ⟨h3, h4⟩ := inm_ix hb
  refine r_timesOf hM m h1 h3 ?_
  unfold pd
  rw [h2, h4]
  exact hQ
theorem r_ffL {sd c0 h : Nat} (hM : md_ok M) (hc : inm (gL M) c0) (m : moR M σ) (hsd : sd < 3) (hh : h < 256)
    (hK : ∀ τ, gaR M (gS (gL M) sd c0 (6 * h + 6)) τ → frh σ τ → mv_wf X (mv_wp X (d + 3)) m_Ref_findsFrom Q 35 [.ref 61, .retAddr 0, .int (nI sd), .int (nI (h + 1)), .retAddr 0, .retAddr 0] [] τ) :
    ∀ r l (τ : mv_S), l + r = 3 → h < (gS (gL M) sd c0 (6 * h + 2 * l)).1 → gaR M (gS (gL M) sd c0 (6 * h + 2 * l)) τ → frh σ τ → mv_wf X (mv_wp X (d + 3)) m_Ref_findsFrom Q 46 [.ref 61, .retAddr 0, .int (nI sd), .int (nI h), .int (nI l), .retAddr 0] [] τ := by
  intro r
  have hc256 := inm_lt hc
  have hgm : ∀ l, l < 3 → inm (gL M) (gL M l) := fun l hl => inm_l hl (gl_256 hM hl)
  induction r with
  | zero =>
    intro l τ hl hlt ga hf
    obtain rfl : l = 3 := by omega
    refine h_Ref_findsFrom_46 ⟨fun _ => ?_, fun z => absurd (show (3 : Int32) ≤ nI 3 by decide) z⟩
    rw [nI_1]
    exact hK τ ga hf
  | succ r ih =>
    intro l τ hl hlt ga hf
    have a1 : (6 * h + 2 * l) / 6 = h := by omega
    have a2 : (6 * h + 2 * l) % 6 = 2 * l := by omega
    have a3 : (6 * h + 2 * l + 1) / 6 = h := by omega
    have a4 : (6 * h + 2 * l + 1) % 6 = 2 * l + 1 := by omega
    have mo := gS_mo (g := gL M) (sd := sd) (c0 := c0) (6 * h + 2 * l) 1
    have hlt1 : h < (gS (gL M) sd c0 (6 * h + 2 * l + 1)).1 := Nat.lt_of_lt_of_le hlt mo.1
    have up := gS_up (g := gL M) (sd := sd) (c0 := c0) (s := 6 * h + 2 * l) (by rw [a1]; exact hlt)
    have up1 := gS_up (g := gL M) (sd := sd) (c0 := c0) (s := 6 * h + 2 * l + 1) (by rw [a3]; exact hlt1)
    have rm := gS_room (g := gL M) (sd := sd) hc256 (s := 6 * h + 2 * l) (by rw [a1]; exact hlt)
    have rm1 := gS_room (g := gL M) (sd := sd) hc256 (s := 6 * h + 2 * l + 1) (by rw [a3]; exact hlt1)
    rw [a1, a2] at up rm
    rw [a3, a4, mo.2 h hlt] at up1 rm1
    have mo2 := gS_mo (g := gL M) (sd := sd) (c0 := c0) (6 * h + 2 * l + 1) 1
    have hl3 : l < 3 := by omega
    have qin : inm (gL M) ((gS (gL M) sd c0 (6 * h + 2 * l)).2.1 h) := gS_in hgm hc hlt
    have gin := hgm l hl3
    have g256 := fx_256 (fx_in hM gin)
    have ih' := ih (l + 1)
    rw [show 6 * h + 2 * (l + 1) = 6 * h + 2 * l + 1 + 1 by omega] at ih'
    have l71 : ∀ υ, frh σ υ → υ.1 76 l = nI (gL M l % 4 ^ (lF M).1) ∧ υ.1 71 (gL M l % 4 ^ (lF M).1) = nI (bf_ix (eF (gL M)) (gL M l)) := fun υ hυ => by
      have mυ := frh_R hυ m
      exact ⟨mυ.2.1 l hl3, r_num hM mυ gin⟩
    have j0 : gnx (gL M) sd ((gS (gL M) sd c0 (6 * h + 2 * l)).2.1 h) (2 * l) = if sd = 1 then (gS (gL M) sd c0 (6 * h + 2 * l)).2.1 h else th ((gS (gL M) sd c0 (6 * h + 2 * l)).2.1 h) (gL M l) := by
      unfold gnx
      rw [if_pos (by omega), show 2 * l / 2 = l by omega]
    have j1 : gnx (gL M) sd ((gS (gL M) sd c0 (6 * h + 2 * l)).2.1 h) (2 * l + 1) = if sd = 0 then (gS (gL M) sd c0 (6 * h + 2 * l)).2.1 h else th (gL M l) ((gS (gL M) sd c0 (6 * h + 2 * l)).2.1 h) := by
      unfold gnx
      rw [if_neg (by omega), show (2 * l + 1) / 2 = l by omega]
    rw [j0] at up rm
    rw [j1] at up1 rm1
    have q79 : ∀ υ, gaR M (gS (gL M) sd c0 (6 * h + 2 * l + 1)) υ → υ.1 79 h = nI (bf_ix (eF (gL M)) ((gS (gL M) sd c0 (6 * h + 2 * l)).2.1 h)) := fun υ hυ => by rw [hυ.2.1 h hlt1, mo.2 h hlt]
    have ahead : ¬ sd = 0 → ∀ υ, gaR M (gS (gL M) sd c0 (6 * h + 2 * l + 1)) υ → frh σ υ → mv_wp X (d + 3) 177 [.ref 61, .int (nI (bf_ix (eF (gL M)) (gL M l))), .int (υ.1 79 h)] υ (fun r1 σ1 => ∃ v1, r1 = some (.int v1) ∧ (mv_sh 61 = 12 ∧ mv_wp X (d + 3) 189 [.ref 61, .int v1] σ1 (fun r2 σ2 => r2 = none ∧ (mv_wf X (mv_wp X (d + 3)) m_Ref_findsFrom Q 46 [.ref 61, .retAddr 0, .int (nI sd), .int (nI h), .int (nI l + 1), .retAddr 0] [] σ2)))) := by
      intro e0 υ gυ fυ
      rw [if_neg e0] at up1 rm1
      rw [q79 υ gυ]
      refine r_tm hM (frh_R fυ m) gin qin ⟨_, rfl, rfl, ?_⟩
      refine r_heaps (s := 6 * h + 2 * l + 1) gυ (inm_th gin qin) rm1 (fun τ2 p1 p2 => ⟨rfl, ?_⟩)
      rw [← up1] at p1
      rw [nI_1]
      exact ih' τ2 (by omega) (Nat.lt_of_lt_of_le hlt1 mo2.1) p1 (frh_tr fυ p2)
    obtain ⟨k76, k71⟩ := l71 τ hf
    refine h_Ref_findsFrom_46 ⟨fun z => absurd z (nI_ge (b := 3) (by omega) (by omega)), fun _ => ?_⟩
    rw [nI_clamp (n := l) (by omega), nI_clamp (n := h) (by omega), k76, nI_clamp (n := gL M l % 4 ^ (lF M).1) (by omega), k71]
    refine ⟨rfl, rfl, ⟨rfl, vp_in_nI (N := 3) hl3 (by omega)⟩, ⟨rfl, vp_in_nI (N := 256) g256 (by omega)⟩, ?_⟩
    by_cases e1 : sd = 1
    · subst e1
      rw [if_pos rfl] at up
      have eu := up.trans (up_self hlt)
      have ga1 : gaR M (gS (gL M) 1 c0 (6 * h + 2 * l + 1)) τ := by rw [eu]; exact ga
      exact ⟨fun _ => ⟨fun z => absurd z (by decide), fun _ => ⟨rfl, ⟨rfl, vp_in_nI (N := 256) hh (by omega)⟩, rfl, ahead (by decide) τ ga1 hf⟩⟩, fun z => absurd rfl z⟩
    · have n1 : ¬ nI sd = (1 : Int32) := fun z => e1 (nI_28 (b := 1) (by omega) (by omega) z)
      rw [if_neg e1] at up rm
      refine ⟨fun z => absurd z n1, fun _ => ⟨rfl, ⟨rfl, vp_in_nI (N := 256) hh (by omega)⟩, rfl, ?_⟩⟩
      rw [ga.2.1 h hlt]
      refine r_tm hM (frh_R hf m) qin gin ⟨_, rfl, rfl, ?_⟩
      refine r_heaps (s := 6 * h + 2 * l) ga (inm_th qin gin) rm (fun τ2 p1 p2 => ⟨rfl, ?_⟩)
      rw [← up] at p1
      have f2 := frh_tr hf p2
      by_cases e0 : sd = 0
      · subst e0
        rw [if_pos rfl] at up1
        have eu : gS (gL M) 0 c0 (6 * h + 2 * l + 1 + 1) = gS (gL M) 0 c0 (6 * h + 2 * l + 1) := by
          rw [up1]
          have := up_self (s := 6 * h + 2 * l + 1) hlt1
          rw [mo.2 h hlt] at this
          exact this
        refine ⟨fun _ => ?_, fun z => absurd rfl z⟩
        rw [nI_1]
        rw [eu] at ih'
        exact ih' τ2 (by omega) hlt1 p1 f2
      · have n0 : ¬ nI sd = (0 : Int32) := fun z => e0 (nI_28 (b := 0) (by omega) (by omega) z)
        exact ⟨fun z => absurd z n0, fun _ => ⟨rfl, ⟨rfl, vp_in_nI (N := 256) hh (by omega)⟩, rfl, ahead e0 τ2 p1 f2⟩⟩
theorem r_findsFrom {j sd : Nat} (hM : md_ok M) (m : moR M σ) (hsd : sd < 3) (hj : j < (eF (gL M)).1) (hQ : ∀ τ, gaR M (gF (gL M) sd ((eF (gL M)).2.1 j)) τ → frh σ τ → Q none τ) : mv_wp X (d + 4) 190 [.ref 61, .int (nI j), .int (nI sd)] σ Q := by
  have hle := eF_le (g := gL M)
  have hc : inm (gL M) ((eF (gL M)).2.1 j) := ⟨j, hj, rfl⟩
  have hc256 := inm_lt hc
  have ij : bf_ix (eF (gL M)) ((eF (gL M)).2.1 j) = j := ix_cd hj
  generalize (eF (gL M)).2.1 j = c0 at *
  have e0 : bf_up (0, fun _ => c0, fun _ => 0) c0 0 = gS (gL M) sd c0 (6 * 0) := by
    have : ¬ bf_ix ((0, fun _ => c0, fun _ => 0) : bf_T) c0 < 0 := Nat.not_lt_zero _
    unfold bf_up
    rw [if_neg this, Nat.mul_zero, gS_eq]
    unfold bf_add bf
    refine Prod.ext rfl (Prod.ext ?_ ?_)
    · funext k; show (if k = 0 then c0 else c0) = c0; split <;> rfl
    · funext k; show (if k = 0 then 0 else 0) = 0; split <;> rfl
  have outer : ∀ r h (τ : mv_S), h + r = 256 → h ≤ (gS (gL M) sd c0 (6 * h)).1 → gaR M (gS (gL M) sd c0 (6 * h)) τ → frh σ τ → mv_wf X (mv_wp X (d + 3)) m_Ref_findsFrom Q 35 [.ref 61, .retAddr 0, .int (nI sd), .int (nI h), .retAddr 0, .retAddr 0] [] τ := by
    intro r
    have fin : ∀ h (τ : mv_S), (gS (gL M) sd c0 (6 * h)).1 = h → gaR M (gS (gL M) sd c0 (6 * h)) τ → frh σ τ → Q none τ := by
      intro h τ e ga hf
      rw [gS_end hc256 e] at ga
      exact hQ τ ga hf
    induction r with
    | zero =>
      intro h τ hh hle ga hf
      have h5 := gS_le (g := gL M) (sd := sd) hc256 (6 * h)
      refine h_Ref_findsFrom_35 ⟨rfl, ?_⟩
      rw [ga.1]
      exact ⟨fun _ => fin h τ (by omega) ga hf, fun z => absurd (nI_le (by omega) (by omega)) z⟩
    | succ r ih =>
      intro h τ hh hle ga hf
      have h5 := gS_le (g := gL M) (sd := sd) hc256 (6 * h)
      refine h_Ref_findsFrom_35 ⟨rfl, ?_⟩
      rw [ga.1]
      by_cases e : (gS (gL M) sd c0 (6 * h)).1 = h
      · exact ⟨fun _ => fin h τ e ga hf, fun z => absurd (nI_le (by omega) (by omega)) z⟩
      · have hlt : h < (gS (gL M) sd c0 (6 * h)).1 := by omega
        have m6 := gS_mo (g := gL M) (sd := sd) (c0 := c0) (6 * h) 6
        refine ⟨fun z => absurd z (nI_ge hlt (by omega)), fun _ => ?_⟩
        exact r_ffL (σ := σ) hM hc m hsd (by omega) (fun τ2 q1 q2 => ih (h + 1) τ2 (by omega) (Nat.le_trans hlt m6.1) q1 q2) 3 0 τ rfl hlt ga hf
  have fill : ∀ r x (τ : mv_S), x + r = (eF (gL M)).1 → (∀ y, y < x → τ.1 78 y = 0) → frh σ τ → mv_wf X (mv_wp X (d + 3)) m_Ref_findsFrom Q 2 [.ref 61, .int (nI j), .int (nI sd), .int (nI x), .retAddr 0, .retAddr 0] [] τ := by
    intro r
    induction r with
    | zero =>
      intro x τ hx h1 hf
      refine h_Ref_findsFrom_2 ⟨rfl, ?_⟩
      rw [(frh_R hf m).2.2.1]
      refine ⟨fun _ => ⟨rfl, rfl, ?_⟩, fun z => absurd (nI_le (by omega) (by omega)) z⟩
      have f2 : frh σ (mv_pi τ 61 29 0) := ⟨fun c j q1 q2 q3 => (mv_rn q3).trans (hf.1 c j q1 q2 q3), hf.2⟩
      have ga0 : gaR M (0, fun _ => c0, fun _ => 0) (mv_pi τ 61 29 0) := ⟨mv_rd, fun i hi => absurd hi (Nat.not_lt_zero _), fun e he => by rw [mv_rn (by omega), if_neg (Nat.not_lt_zero _)]; exact h1 e (by omega)⟩
      have := r_heaps (X := X) (d := d + 2) (Q := fun r1 σ1 => r1 = none ∧ (mv_wf X (mv_wp X (d + 3)) m_Ref_findsFrom Q 35 [.ref 61, .retAddr 0, .int (nI sd), .int 0, .retAddr 0, .retAddr 0] [] σ1)) (s := 0) (S := (0, fun _ => c0, fun _ => 0)) ga0 hc (fun _ => (by decide : 0 < 256)) (fun τ2 p1 p2 => ⟨rfl, by
        rw [e0] at p1
        exact outer 256 0 τ2 rfl (Nat.zero_le _) p1 (frh_tr f2 p2)⟩)
      rw [ij] at this
      exact this
    | succ r ih =>
      intro x τ hx h1 hf
      refine h_Ref_findsFrom_2 ⟨rfl, ?_⟩
      rw [(frh_R hf m).2.2.1]
      refine ⟨fun z => absurd z (nI_ge (by omega) (by omega)), fun _ => ⟨rfl, ⟨rfl, Or.inr rfl, vp_in_nI (N := 256) (by omega) (by omega)⟩, ?_⟩⟩
      rw [nar0, nI_clamp (by omega), nI_1]
      refine ih (x + 1) _ (by omega) (fun y hy => ?_) ⟨fun c j q1 q2 q3 => by rw [mv_rn (by omega)]; exact hf.1 c j q1 q2 q3, hf.2⟩
      by_cases ey : y = x
      · subst ey; exact mv_rd
      · rw [mv_rn (by omega)]; exact h1 y (by omega)
  exact w_Ref_findsFrom (fill (eF (gL M)).1 0 σ (by omega) (fun y hy => absurd hy (Nat.not_lt_zero _)) ⟨fun _ _ _ _ _ => rfl, rfl⟩)
theorem op_below {n G : Nat} {Ms : Nat → md_T} {a1 a2 a3 a4 : Int32} (hG30 : G < 2 ^ 29) (h : iv_M n Ms σ) (hC : iv_C σ) (hR : iv_R n σ) (hG : iv_G G σ) : lw_op X (d + 20) (mo_P n G σ) 111 191 [.int a1, .int a2, .int a3, .int a4] σ := by
  unfold lw_op
  have h9 := h
  obtain ⟨b1, b2, b3, b4⟩ := h9
  refine (w_WM_below _ _ _ _ _ _ _ _).mpr ⟨rfl, ?_⟩
  rcases ix_cs a1 n (by omega) with ⟨c1, c2⟩ | ⟨k, hk, rfl, c1⟩
  · refine s_learnt_no b2 c1 ⟨_, rfl, fun _ => ⟨_, rfl, ?_⟩, fun z => absurd rfl z⟩
    refine (w_Ref_below _ _ _ _ _ _ _ _).mpr ⟨rfl, ?_⟩
    rw [r_isMachine b3 b1, if_neg c2]
    exact ⟨_, rfl, fun _ => ⟨rfl, mo_same hC hR hG⟩, fun z => absurd rfl z⟩
  have hle := eF_le (g := gL (nrm (Ms k)))
  refine s_learnt_ok h hC hk (fun τ1 e1 e2 e3 => ⟨_, rfl, fun z => absurd z (by decide), fun _ => ⟨rfl, rfl, ?_⟩⟩)
  have gY := G_Y e3 hG
  have hM : md_ok (nrm (Ms k)) := nrm_ok (b4 k hk).1
  have bad : ∀ τ, mo_P n G σ τ → τ.1 61 1 = nI n → ¬ (0 ≤ a4.toInt ∧ a4.toInt ≤ 2) → mv_wp X (d + 20) 191 [.ref 61, .int (nI k), .int a2, .int a3, .int a4] τ (fun r2 σ2 => r2 = some (.int (-2)) ∧ mo_P n G σ σ2) := by
    intro τ f4 f3 hb
    refine (w_Ref_below _ _ _ _ _ _ _ _).mpr ⟨rfl, ?_⟩
    rw [r_isMachine f3 b1, if_pos c1]
    refine ⟨_, rfl, fun z => absurd z (by decide), fun _ => ?_⟩
    rw [r_inI (A := 0) (C := 2) rfl rfl, if_neg hb]
    exact ⟨_, rfl, fun z => absurd rfl z, fun _ => ⟨rfl, f4⟩⟩
  have go : ∀ (Q : mv_Q) (τ : mv_S) G', frS τ1 τ → G' ≤ G + 300 → iv_G G' τ → (0 ≤ a4.toInt ∧ a4.toInt ≤ 2) → (∀ τ3, moR (nrm (Ms k)) τ3 → iv_G G' τ3 → (∀ τ4 G4, frS τ3 τ4 → G4 ≤ G + 300 → iv_G G4 τ4 → mo_P n G σ τ4) → mv_wp X (d + 19) 181 [.ref 61, .int a2] τ3 (fun r4 σ4 => ∃ v4, r4 = some (.int v4) ∧ ((v4 = 0 → Q (some (.int (-2))) σ4) ∧ (¬ v4 = 0 → mv_sh 61 = 12 ∧ mv_wp X (d + 19) 181 [.ref 61, .int a3] σ4 (fun r5 σ5 => ∃ v5, r5 = some (.int v5) ∧ ((¬ v5 = 0 → mv_sh 61 = 12 ∧ mv_wp X (d + 19) 190 [.ref 61, .int a3, .int a4] σ5 (fun r6 σ6 => r6 = none ∧ (mv_sh 61 = 12 ∧ ((mv_sh 78 = 22 ∧ (mv_sh 78 = 21 ∨ mv_sh 78 = 22) ∧ vp_in a2 (mv_ln 78)) ∧ (mv_wp X (d + 19) 148 [.int (σ6.1 78 a2.toNatClampNeg)] σ6 (fun r7 σ7 => ∃ v7, r7 = some (.int v7) ∧ (Q (some (.int v7)) σ7))))))) ∧ (v5 = 0 → Q (some (.int (-2))) σ5))))))) → mv_wp X (d + 20) 191 [.ref 61, .int (nI k), .int a2, .int a3, .int a4] τ Q := by
    intro Q τ G' s2 hG' g2 hb hh
    obtain ⟨f3, f4, _, f5⟩ := mo_ref h hR hk e1 e2 e3 s2 hG' g2
    refine (w_Ref_below _ _ _ _ _ _ _ _).mpr ⟨rfl, ?_⟩
    rw [r_isMachine f3 b1, if_pos c1]
    refine ⟨_, rfl, fun z => absurd z (by decide), fun _ => ?_⟩
    rw [r_inI (A := 0) (C := 2) rfl rfl, if_pos hb]
    refine ⟨_, rfl, fun _ => ⟨rfl, ?_⟩, fun z => absurd z (by decide)⟩
    exact f5 _ _ _ (fun τ3 q1 q2 q3 q4 => ⟨rfl, rfl, hh τ3 q1 q3 q4⟩)
  obtain ⟨f3, f4, _, f5⟩ := mo_ref h hR hk e1 e2 e3 (frS_rf τ1) (Nat.le_add_right G 300) gY
  refine c_has e1 ?_
  rcases ix_cs a2 (eF (gL (nrm (Ms k)))).1 (by omega) with ⟨i1, i2⟩ | ⟨i, hi, rfl, i1⟩
  · rw [if_neg i2]
    refine ⟨_, rfl, fun _ => ⟨_, rfl, ?_⟩, fun z => absurd rfl z⟩
    by_cases e : 0 ≤ a4.toInt ∧ a4.toInt ≤ 2
    · refine go _ τ1 G (frS_rf _) (Nat.le_add_right _ _) gY e (fun τ3 g1 g2 g3 => r_isElement g1 ?_)
      rw [if_neg i2]
      exact ⟨_, rfl, fun _ => ⟨rfl, g3 τ3 G (frS_rf _) (Nat.le_add_right _ _) g2⟩, fun z => absurd rfl z⟩
    · exact bad τ1 f4 f3 e
  rw [if_pos i1]
  refine ⟨_, rfl, fun z => absurd z (by decide), fun _ => ⟨rfl, rfl, ?_⟩⟩
  refine c_has e1 ?_
  rcases ix_cs a3 (eF (gL (nrm (Ms k)))).1 (by omega) with ⟨j1, j2⟩ | ⟨j, hj, rfl, j1⟩
  · rw [if_neg j2]
    refine ⟨_, rfl, fun _ => ⟨_, rfl, ?_⟩, fun z => absurd rfl z⟩
    by_cases e : 0 ≤ a4.toInt ∧ a4.toInt ≤ 2
    · refine go _ τ1 G (frS_rf _) (Nat.le_add_right _ _) gY e (fun τ3 g1 g2 g3 => r_isElement g1 ?_)
      rw [if_pos i1]
      refine ⟨_, rfl, fun z => absurd z (by decide), fun _ => ⟨rfl, r_isElement g1 ?_⟩⟩
      rw [if_neg j2]
      exact ⟨_, rfl, fun z => absurd rfl z, fun _ => ⟨rfl, g3 τ3 G (frS_rf _) (Nat.le_add_right _ _) g2⟩⟩
    · exact bad τ1 f4 f3 e
  rw [if_pos j1]
  refine ⟨_, rfl, fun z => absurd z (by decide), fun _ => ?_⟩
  by_cases t1 : a4.toInt < 0
  · repeat (first
        | (refine And.intro (show mv_sh _ = _ from rfl) ?_)
        | (refine And.intro (show mv_sh _ = _ by assumption) ?_)
        | (refine And.intro (show _ ≤ mv_sh _ from Nat.le_of_ble_eq_true rfl) ?_)
        | (refine And.intro (show _ ≤ mv_sh _ ∧ vp_in _ _ from ⟨Nat.le_of_ble_eq_true rfl, by (first | (simp (disch := omega) only [ln_17, ln_18, ln_24, ln_25, ln_62, ln_70, ln_71, ln_76, ln_78, ln_79, not_true_eq_false, not_false_eq_true, Classical.not_not, ofn, b_z, b_nz, b_z', b_nz', mv_rd, mv_rn, mv_ld, mv_ln_, lit, nI_add, pk_mul, nI_clamp]; exact vp_in_nI (by omega) (by omega)) | (exact vp_in_nI (by omega) (by omega)))⟩) ?_)
        | (refine And.intro (show (_ : Int32) = 0 ∨ (_ : Int32) = 1 from by first | exact Or.inl rfl | exact Or.inr rfl | exact bI_01 _) ?_)
        | (refine And.intro (show mv_sh _ = _ ∧ vp_in _ _ from ⟨rfl, by (first | (simp (disch := omega) only [ln_17, ln_18, ln_24, ln_25, ln_62, ln_70, ln_71, ln_76, ln_78, ln_79, not_true_eq_false, not_false_eq_true, Classical.not_not, ofn, b_z, b_nz, b_z', b_nz', mv_rd, mv_rn, mv_ld, mv_ln_, lit, nI_add, pk_mul, nI_clamp]; exact vp_in_nI (by omega) (by omega)) | (exact vp_in_nI (by omega) (by omega)))⟩) ?_)
        | (refine And.intro (show mv_sh _ = _ ∧ vp_in _ _ from ⟨by assumption, by (first | (simp (disch := omega) only [ln_17, ln_18, ln_24, ln_25, ln_62, ln_70, ln_71, ln_76, ln_78, ln_79, not_true_eq_false, not_false_eq_true, Classical.not_not, ofn, b_z, b_nz, b_z', b_nz', mv_rd, mv_rn, mv_ld, mv_ln_, lit, nI_add, pk_mul, nI_clamp]; exact vp_in_nI (by omega) (by omega)) | (exact vp_in_nI (by omega) (by omega)))⟩) ?_)
        | (refine And.intro (show ¬ (_ : Int32) = 0 by decide) ?_)
        | (refine ⟨_, rfl, ?_⟩)
        | (refine And.intro (show (none : Option Value) = none from rfl) ?_)
        | (refine Or.inl ⟨rfl, ?_⟩)
        | (refine Or.inr ⟨_, rfl, ?_⟩)
        | (refine dt (by (first | assumption | omega | ((try simp (disch := omega) only [not_true_eq_false, not_false_eq_true, Classical.not_not, ofn, b_z, b_nz, b_z', b_nz', mv_rd, mv_rn, mv_ld, mv_ln_, lit, nI_add, pk_mul, nI_clamp]); (try simp (disch := omega) only [fa_lt, fa_le, fa_eq, nI_toInt, pk_sub_toInt, nI_m1, nI_m1', not_false_eq_true, true_and, and_true]); first | done | omega))) ?_)
        | (refine df (by (first | assumption | omega | ((try simp (disch := omega) only [not_true_eq_false, not_false_eq_true, Classical.not_not, ofn, b_z, b_nz, b_z', b_nz', mv_rd, mv_rn, mv_ld, mv_ln_, lit, nI_add, pk_mul, nI_clamp]); (try simp (disch := omega) only [fa_lt, fa_le, fa_eq, nI_toInt, pk_sub_toInt, nI_m1, nI_m1', not_false_eq_true, true_and, and_true]); first | done | omega))) ?_)
        | (refine dt' (by (first | assumption | omega | ((try simp (disch := omega) only [not_true_eq_false, not_false_eq_true, Classical.not_not, ofn, b_z, b_nz, b_z', b_nz', mv_rd, mv_rn, mv_ld, mv_ln_, lit, nI_add, pk_mul, nI_clamp]); (try simp (disch := omega) only [fa_lt, fa_le, fa_eq, nI_toInt, pk_sub_toInt, nI_m1, nI_m1', not_false_eq_true, true_and, and_true]); first | done | omega))) ?_)
        | (refine df' (by (first | assumption | omega | ((try simp (disch := omega) only [not_true_eq_false, not_false_eq_true, Classical.not_not, ofn, b_z, b_nz, b_z', b_nz', mv_rd, mv_rn, mv_ld, mv_ln_, lit, nI_add, pk_mul, nI_clamp]); (try simp (disch := omega) only [fa_lt, fa_le, fa_eq, nI_toInt, pk_sub_toInt, nI_m1, nI_m1', not_false_eq_true, true_and, and_true]); first | done | omega))) ?_)
        )
    exact bad τ1 f4 f3 (by omega)
  by_cases t2 : 2 < a4.toInt
  · repeat (first
        | (refine And.intro (show mv_sh _ = _ from rfl) ?_)
        | (refine And.intro (show mv_sh _ = _ by assumption) ?_)
        | (refine And.intro (show _ ≤ mv_sh _ from Nat.le_of_ble_eq_true rfl) ?_)
        | (refine And.intro (show _ ≤ mv_sh _ ∧ vp_in _ _ from ⟨Nat.le_of_ble_eq_true rfl, by (first | (simp (disch := omega) only [ln_17, ln_18, ln_24, ln_25, ln_62, ln_70, ln_71, ln_76, ln_78, ln_79, not_true_eq_false, not_false_eq_true, Classical.not_not, ofn, b_z, b_nz, b_z', b_nz', mv_rd, mv_rn, mv_ld, mv_ln_, lit, nI_add, pk_mul, nI_clamp]; exact vp_in_nI (by omega) (by omega)) | (exact vp_in_nI (by omega) (by omega)))⟩) ?_)
        | (refine And.intro (show (_ : Int32) = 0 ∨ (_ : Int32) = 1 from by first | exact Or.inl rfl | exact Or.inr rfl | exact bI_01 _) ?_)
        | (refine And.intro (show mv_sh _ = _ ∧ vp_in _ _ from ⟨rfl, by (first | (simp (disch := omega) only [ln_17, ln_18, ln_24, ln_25, ln_62, ln_70, ln_71, ln_76, ln_78, ln_79, not_true_eq_false, not_false_eq_true, Classical.not_not, ofn, b_z, b_nz, b_z', b_nz', mv_rd, mv_rn, mv_ld, mv_ln_, lit, nI_add, pk_mul, nI_clamp]; exact vp_in_nI (by omega) (by omega)) | (exact vp_in_nI (by omega) (by omega)))⟩) ?_)
        | (refine And.intro (show mv_sh _ = _ ∧ vp_in _ _ from ⟨by assumption, by (first | (simp (disch := omega) only [ln_17, ln_18, ln_24, ln_25, ln_62, ln_70, ln_71, ln_76, ln_78, ln_79, not_true_eq_false, not_false_eq_true, Classical.not_not, ofn, b_z, b_nz, b_z', b_nz', mv_rd, mv_rn, mv_ld, mv_ln_, lit, nI_add, pk_mul, nI_clamp]; exact vp_in_nI (by omega) (by omega)) | (exact vp_in_nI (by omega) (by omega)))⟩) ?_)
        | (refine And.intro (show ¬ (_ : Int32) = 0 by decide) ?_)
        | (refine ⟨_, rfl, ?_⟩)
        | (refine And.intro (show (none : Option Value) = none from rfl) ?_)
        | (refine Or.inl ⟨rfl, ?_⟩)
        | (refine Or.inr ⟨_, rfl, ?_⟩)
        | (refine dt (by (first | assumption | omega | ((try simp (disch := omega) only [not_true_eq_false, not_false_eq_true, Classical.not_not, ofn, b_z, b_nz, b_z', b_nz', mv_rd, mv_rn, mv_ld, mv_ln_, lit, nI_add, pk_mul, nI_clamp]); (try simp (disch := omega) only [fa_lt, fa_le, fa_eq, nI_toInt, pk_sub_toInt, nI_m1, nI_m1', not_false_eq_true, true_and, and_true]); first | done | omega))) ?_)
        | (refine df (by (first | assumption | omega | ((try simp (disch := omega) only [not_true_eq_false, not_false_eq_true, Classical.not_not, ofn, b_z, b_nz, b_z', b_nz', mv_rd, mv_rn, mv_ld, mv_ln_, lit, nI_add, pk_mul, nI_clamp]); (try simp (disch := omega) only [fa_lt, fa_le, fa_eq, nI_toInt, pk_sub_toInt, nI_m1, nI_m1', not_false_eq_true, true_and, and_true]); first | done | omega))) ?_)
        | (refine dt' (by (first | assumption | omega | ((try simp (disch := omega) only [not_true_eq_false, not_false_eq_true, Classical.not_not, ofn, b_z, b_nz, b_z', b_nz', mv_rd, mv_rn, mv_ld, mv_ln_, lit, nI_add, pk_mul, nI_clamp]); (try simp (disch := omega) only [fa_lt, fa_le, fa_eq, nI_toInt, pk_sub_toInt, nI_m1, nI_m1', not_false_eq_true, true_and, and_true]); first | done | omega))) ?_)
        | (refine df' (by (first | assumption | omega | ((try simp (disch := omega) only [not_true_eq_false, not_false_eq_true, Classical.not_not, ofn, b_z, b_nz, b_z', b_nz', mv_rd, mv_rn, mv_ld, mv_ln_, lit, nI_add, pk_mul, nI_clamp]); (try simp (disch := omega) only [fa_lt, fa_le, fa_eq, nI_toInt, pk_sub_toInt, nI_m1, nI_m1', not_false_eq_true, true_and, and_true]); first | done | omega))) ?_)
        )
    exact bad τ1 f4 f3 (by omega)
  clear bad
  obtain ⟨sd, hsd, rfl⟩ := (ix_cs2 a4).resolve_left (by omega)
  rw [nI_toInt hsd] at t1 t2 go
  refine ⟨fun z => absurd z (nI_pos hsd), fun _ => ⟨fun _ => ⟨rfl, rfl, ?_⟩, fun z => absurd (nI_le (b := 2) (by omega) (by omega)) z⟩⟩
  refine s_gatherFrom (by omega) hM e1 gY (show sd < 3 by omega) hj (fun τ2 p1 p2 => ⟨_, rfl, rfl, rfl, ?_⟩)
  refine c_isGathered (by omega) (frg_C p2 e1) p1 hi ⟨_, rfl, ?_⟩
  have rf : mv_wp X (d + 20) 191 [.ref 61, .int (nI k), .int (nI i), .int (nI j), .int (nI sd)] τ2 (fun r2 σ2 => r2 = some (.int (if bf_ix (gF (gL (nrm (Ms k))) sd ((eF (gL (nrm (Ms k)))).2.1 j)) ((eF (gL (nrm (Ms k)))).2.1 i) < (gF (gL (nrm (Ms k))) sd ((eF (gL (nrm (Ms k)))).2.1 j)).1 then 1 else 0)) ∧ mo_P n G σ σ2) := by
    refine go _ τ2 (G + 1) (S_g p2) (by omega) (gaC_G p1) (by omega) (fun τ3 g1 g2 g3 => r_isElement g1 ?_)
    rw [if_pos i1]
    refine ⟨_, rfl, fun z => absurd z (by decide), fun _ => ⟨rfl, r_isElement g1 ?_⟩⟩
    rw [if_pos j1]
    refine ⟨_, rfl, fun _ => ⟨rfl, ?_⟩, fun z => absurd z (by decide)⟩
    refine r_findsFrom hM g1 (show sd < 3 by omega) hj (fun τ4 o1 o2 => ⟨rfl, rfl, ⟨rfl, Or.inr rfl, vp_in_nI (N := 256) (by omega) (by omega)⟩, ?_⟩)
    rw [nI_clamp (by omega), o1.2.2 i hi]
    exact r_bit.mpr ⟨_, rfl, rfl, g3 τ4 (G + 1) (S_h o2) (by omega) (G_h o2 g2)⟩
  by_cases eb : bf_ix (gF (gL (nrm (Ms k))) sd ((eF (gL (nrm (Ms k)))).2.1 j)) ((eF (gL (nrm (Ms k)))).2.1 i) < (gF (gL (nrm (Ms k))) sd ((eF (gL (nrm (Ms k)))).2.1 j)).1
  · rw [if_pos eb] at rf ⊢
    exact ⟨fun z => absurd z (by decide), fun _ => ⟨_, rfl, rf⟩⟩
  · rw [if_neg eb] at rf ⊢
    exact ⟨fun _ => ⟨_, rfl, rf⟩, fun z => absurd rfl z⟩
end RGATH
