/-! ===== what comes from what ===== -/
def gnx (g : Nat → Nat) (sd x j : Nat) : Nat := if j % 2 = 0 then (if sd = 1 then x else th x (g (j / 2))) else (if sd = 0 then x else th (g (j / 2)) x)
def gS (g : Nat → Nat) (sd c0 s : Nat) : bf_T := bf (gnx g sd) c0 6 s
def gF (g : Nat → Nat) (sd c0 : Nat) : bf_T := gS g sd c0 (6 * 256)
theorem nar1 : vp_nar (mv_ty 22) 1 = 1 := by decide
theorem nar0 : vp_nar (mv_ty 22) 0 = 0 := by decide
section GATHP
variable {g : Nat → Nat} {sd c0 : Nat}
theorem gS_eq (s : Nat) : gS g sd c0 s = bf (gnx g sd) c0 6 s := by unfold gS; rfl
theorem gF_eq : gF g sd c0 = bf (gnx g sd) c0 6 (6 * 256) := by unfold gF gS; rfl
theorem gnx_lt (x j : Nat) (hx : x < 256) (_ : j < 6) : gnx g sd x j < 256 := by
  unfold gnx
  split
  · split
    · exact hx
    · exact th_lt _ _
  · split
    · exact hx
    · exact th_lt _ _
theorem gS_le (hc : c0 < 256) (s : Nat) : (gS g sd c0 s).1 ≤ 256 := by rw [gS_eq]; exact bf_le (by decide) hc gnx_lt s
theorem gF_le (hc : c0 < 256) : (gF g sd c0).1 ≤ 256 := by rw [gF_eq]; exact bf_le (by decide) hc gnx_lt _
theorem gS_in (hg : ∀ l, l < 3 → inm g (g l)) (hc : inm g c0) {s k : Nat} (hk : k < (gS g sd c0 s).1) : inm g ((gS g sd c0 s).2.1 k) := by
  rw [gS_eq] at hk ⊢
  refine bf_all (P := fun x => inm g x) (by decide) hc (fun x j hx hj => ?_) s k hk
  unfold gnx
  split
  · split
    · exact hx
    · exact inm_th hx (hg _ (by omega))
  · split
    · exact hx
    · exact inm_th (hg _ (by omega)) hx
theorem gF_in (hg : ∀ l, l < 3 → inm g (g l)) (hc : inm g c0) {k : Nat} (hk : k < (gF g sd c0).1) : inm g ((gF g sd c0).2.1 k) := by
  have := @gS_in g sd c0 hg hc (6 * 256) k
  rw [gS_eq, ← gF_eq] at this
  exact this hk
theorem gS_end (hc : c0 < 256) {h : Nat} (e : (gS g sd c0 (6 * h)).1 = h) : gS g sd c0 (6 * h) = gF g sd c0 := by
  have h4 := gS_le (g := g) (sd := sd) hc (6 * h)
  rw [gF_eq, gS_eq]
  rw [gS_eq] at e h4
  exact bf_last (N := 256) (by decide) hc gnx_lt (Nat.le_of_eq (by rw [e])) (by omega)
theorem gS_up {s : Nat} (h : s / 6 < (gS g sd c0 s).1) : gS g sd c0 (s + 1) = bf_up (gS g sd c0 s) (gnx g sd ((gS g sd c0 s).2.1 (s / 6)) (s % 6)) s := by
  rw [gS_eq, bf_s]
  unfold bf_st bf_up
  rw [← gS_eq, if_pos h]
theorem up_self {S : bf_T} {k s : Nat} (hk : k < S.1) : bf_up S (S.2.1 k) s = S := if_pos ((bf_ix_iff _ _).mpr ⟨k, hk, rfl⟩)
theorem gS_mo (s t : Nat) : (gS g sd c0 s).1 ≤ (gS g sd c0 (s + t)).1 ∧ ∀ k, k < (gS g sd c0 s).1 → (gS g sd c0 (s + t)).2.1 k = (gS g sd c0 s).2.1 k := by
  have m := bf_mono (nx := gnx g sd) (q0 := c0) (J := 6) s t
  rw [← gS_eq, ← gS_eq] at m
  exact ⟨m.1, fun k hk => (m.2 k hk).1⟩
theorem gS_room (hc : c0 < 256) {s : Nat} (h : s / 6 < (gS g sd c0 s).1) (h2 : ¬ bf_ix (gS g sd c0 s) (gnx g sd ((gS g sd c0 s).2.1 (s / 6)) (s % 6)) < (gS g sd c0 s).1) : (gS g sd c0 s).1 < 256 := by
  rw [gS_eq] at h h2 ⊢
  exact bf_room (by decide) hc gnx_lt h h2
end GATHP
def gaC (G : Nat) (S : bf_T) (σ : mv_S) : Prop := σ.1 12 13 = nI G ∧ (∀ i, i < S.1 → σ.1 25 i = nI (S.2.1 i)) ∧ ∀ c, c < 256 → ∃ m, m ≤ G ∧ σ.1 24 c = nI m ∧ (m = G ↔ bf_ix S c < S.1)
def frg (σ τ : mv_S) : Prop := (∀ c j, ¬ c = 24 → ¬ c = 25 → ¬ (c = 12 ∧ j = 13) → τ.1 c j = σ.1 c j) ∧ τ.2 = σ.2
theorem frg_tr {a b c : mv_S} (h : frg a b) (g : frg b c) : frg a c := ⟨fun x j q1 q2 q3 => (g.1 x j q1 q2 q3).trans (h.1 x j q1 q2 q3), g.2.trans h.2⟩
theorem frg_C {M : md_T} {σ τ : mv_S} (h : frg σ τ) (m : moC M σ) : moC M τ := moC_S (fun c j q => h.1 c j (by omega) (by omega) (by omega)) m
theorem S_g {σ τ : mv_S} (h : frg σ τ) : frS σ τ := ⟨fun c j q => h.1 c j (fun z => q (by unfold sc2; omega)) (fun z => q (by unfold sc2; omega)) (fun z => q (by unfold sc2; omega)), h.2⟩
theorem gaC_G {G : Nat} {S : bf_T} {σ : mv_S} (h : gaC G S σ) : iv_G G σ := ⟨h.1, fun c hc => by obtain ⟨m, h1, h2, _⟩ := h.2.2 c hc; exact ⟨m, h1, h2⟩⟩
section GATHC
variable {X : mv_X} {d : Nat} {σ : mv_S} {Q : mv_Q} {M : md_T}
theorem s_gather {G x s : Nat} {S : bf_T} (hG : G < 2 ^ 30) (h : gaC G S σ) (hx : x < 256) (hr : ¬ bf_ix S x < S.1 → S.1 < 256) (hS : S.1 ≤ 256) (hQ : ∀ τ, gaC G (bf_up S x s) τ → frg σ τ → Q (some (.int (nI (bf_up S x s).1))) τ) : mv_wp X (d + 1) 78 [.ref 12, .int (nI x), .int (nI S.1)] σ Q := by
  obtain ⟨m, m1, m2, m3⟩ := h.2.2 x hx
  refine (w_Monoid_gather _ _ _ _ _ _).mpr ?_
  rw [q_and255, Nat.mod_eq_of_lt hx, nI_clamp (n := x) (by omega), m2, h.1]
  refine ⟨rfl, ⟨rfl, vp_in_nI (N := 256) hx (by omega)⟩, rfl, ?_⟩
  by_cases e : bf_ix S x < S.1
  · have eu : bf_up S x s = S := if_pos e
    rw [eu] at hQ
    rw [m3.mpr e]
    exact ⟨fun _ => hQ σ h ⟨fun _ _ _ _ _ => rfl, rfl⟩, fun z => absurd rfl z⟩
  · have eu : bf_up S x s = bf_add S x s := if_neg e
    rw [eu] at hQ
    have hr := hr e
    have ne : ¬ nI m = nI G := fun z => e (m3.mp (nI_eq (by omega) (by omega) |>.mp z))
    rw [nI_clamp (n := S.1) (by omega), nI_1]
    refine ⟨fun z => absurd z ne, fun _ => ⟨fun z => absurd z (nI_pos (by omega)), fun _ => ⟨fun _ => ⟨rfl, rfl, ⟨rfl, vp_in_nI (N := 256) hx (by omega)⟩, rfl, ⟨rfl, vp_in_nI (N := 256) hr (by omega)⟩, ?_⟩, fun z => absurd (nI_lt (b := 256) hr (by omega)) z⟩⟩⟩
    refine hQ _ ⟨?_, fun i hi => ?_, fun c hc => ?_⟩ ⟨fun c j q1 q2 q3 => ?_, rfl⟩
    · rw [mv_rn (by omega), mv_rn (by omega)]; exact h.1
    · rw [add_1] at hi
      by_cases ei : i = S.1
      · subst ei; rw [mv_rd, (add_n _ _ _).1]
      · rw [mv_rn (by omega), mv_rn (by omega), (add_o _ _ _ ei).1]; exact h.2.1 i (by omega)
    · rw [ix_add e, add_1]
      by_cases ec : c = x
      · subst ec
        refine ⟨G, Nat.le_refl _, by rw [mv_rn (by omega), mv_rd], ?_⟩
        rw [if_neg e, if_pos rfl]
        exact ⟨fun _ => by omega, fun _ => rfl⟩
      · obtain ⟨m', n1, n2, n3⟩ := h.2.2 c hc
        refine ⟨m', n1, by rw [mv_rn (by omega), mv_rn (by omega)]; exact n2, ?_⟩
        rw [n3]
        by_cases e2 : bf_ix S c < S.1
        · rw [if_pos e2]; exact ⟨fun _ => by omega, fun _ => e2⟩
        · rw [if_neg e2, if_neg ec]; exact ⟨fun z => absurd z e2, fun z => absurd z (by omega)⟩
    · rw [mv_rn (by omega), mv_rn (by omega)]
theorem s_gfL {G sd c0 h : Nat} (hG : G < 2 ^ 30) (hM : md_ok M) (hc : c0 < 256) (m : moC M σ) (hsd : sd < 3) (hh : h < 256)
    (hK : ∀ τ, gaC G (gS (gL M) sd c0 (6 * h + 6)) τ → frg σ τ → mv_wf X (mv_wp X (d + 2)) m_Monoid_gatherFrom Q 24 [.ref 12, .retAddr 0, .int (nI sd), .int (nI (gS (gL M) sd c0 (6 * h + 6)).1), .int (nI (h + 1)), .retAddr 0] [] τ) :
    ∀ r l (τ : mv_S), l + r = 3 → h < (gS (gL M) sd c0 (6 * h + 2 * l)).1 → gaC G (gS (gL M) sd c0 (6 * h + 2 * l)) τ → frg σ τ → mv_wf X (mv_wp X (d + 2)) m_Monoid_gatherFrom Q 41 [.ref 12, .retAddr 0, .int (nI sd), .int (nI (gS (gL M) sd c0 (6 * h + 2 * l)).1), .int (nI h), .int (nI l)] [] τ := by
  intro r
  induction r with
  | zero =>
    intro l τ hl hlt ga hf
    obtain rfl : l = 3 := by omega
    refine h_Monoid_gatherFrom_41 ⟨fun _ => ?_, fun z => absurd (show (3 : Int32) ≤ nI 3 by decide) z⟩
    rw [nI_1]
    exact hK τ ga hf
  | succ r ih =>
    intro l τ hl hlt ga hf
    have a1 : (6 * h + 2 * l) / 6 = h := by omega
    have a2 : (6 * h + 2 * l) % 6 = 2 * l := by omega
    have a3 : (6 * h + 2 * l + 1) / 6 = h := by omega
    have a4 : (6 * h + 2 * l + 1) % 6 = 2 * l + 1 := by omega
    have mo := gS_mo (g := gL M) (sd := sd) (c0 := c0) (6 * h + 2 * l) 1
    have hlt1 : h < (gS (gL M) sd c0 (6 * h + 2 * l + 1)).1 := Nat.lt_of_lt_of_le hlt mo.1
    have up := gS_up (g := gL M) (sd := sd) (c0 := c0) (s := 6 * h + 2 * l) (by rw [a1]; exact hlt)
    have up1 := gS_up (g := gL M) (sd := sd) (c0 := c0) (s := 6 * h + 2 * l + 1) (by rw [a3]; exact hlt1)
    have rm := gS_room (g := gL M) (sd := sd) hc (s := 6 * h + 2 * l) (by rw [a1]; exact hlt)
    have rm1 := gS_room (g := gL M) (sd := sd) hc (s := 6 * h + 2 * l + 1) (by rw [a3]; exact hlt1)
    rw [a1, a2] at up rm
    rw [a3, a4, mo.2 h hlt] at up1 rm1
    have lim := gS_le (g := gL M) (sd := sd) hc (6 * h + 2 * l)
    have lim1 := gS_le (g := gL M) (sd := sd) hc (6 * h + 2 * l + 1)
    have mo2 := gS_mo (g := gL M) (sd := sd) (c0 := c0) (6 * h + 2 * l + 1) 1
    have hl3 : l < 3 := by omega
    have q256 : (gS (gL M) sd c0 (6 * h + 2 * l)).2.1 h < 256 := by
      have := bf_all (nx := gnx (gL M) sd) (P := fun x => x < 256) (J := 6) (by decide) hc gnx_lt (6 * h + 2 * l) h
      rw [← gS_eq] at this
      exact this hlt
    have ih' := ih (l + 1)
    rw [show 6 * h + 2 * (l + 1) = 6 * h + 2 * l + 1 + 1 by omega] at ih'
    refine h_Monoid_gatherFrom_41 ⟨fun z => absurd z (nI_ge (b := 3) (by omega) (by omega)), fun _ => ?_⟩
    have g17 : ∀ υ, frg σ υ → υ.1 17 l = nI (gL M l) := fun υ hυ => (hυ.1 _ _ (by omega) (by omega) (by omega)).trans (m.2.1 l hl3)
    have hgl := gl_256 hM hl3
    have j0 : gnx (gL M) sd ((gS (gL M) sd c0 (6 * h + 2 * l)).2.1 h) (2 * l) = if sd = 1 then (gS (gL M) sd c0 (6 * h + 2 * l)).2.1 h else th ((gS (gL M) sd c0 (6 * h + 2 * l)).2.1 h) (gL M l) := by
      unfold gnx
      rw [if_pos (by omega), show 2 * l / 2 = l by omega]
    have j1 : gnx (gL M) sd ((gS (gL M) sd c0 (6 * h + 2 * l)).2.1 h) (2 * l + 1) = if sd = 0 then (gS (gL M) sd c0 (6 * h + 2 * l)).2.1 h else th (gL M l) ((gS (gL M) sd c0 (6 * h + 2 * l)).2.1 h) := by
      unfold gnx
      rw [if_neg (by omega), show (2 * l + 1) / 2 = l by omega]
    rw [j0] at up rm
    rw [j1] at up1 rm1
    have q25 : ∀ υ, gaC G (gS (gL M) sd c0 (6 * h + 2 * l + 1)) υ → υ.1 25 h = nI ((gS (gL M) sd c0 (6 * h + 2 * l)).2.1 h) := fun υ hυ => by rw [hυ.2.1 h hlt1, mo.2 h hlt]
    have ahead : ¬ sd = 0 → ∀ υ, gaC G (gS (gL M) sd c0 (6 * h + 2 * l + 1)) υ → frg σ υ → mv_wp X (d + 2) 61 [.ref 12, .int (υ.1 25 (nI h).toNatClampNeg), .int (nI l)] υ (fun r1 σ1 => ∃ v1, r1 = some (.int v1) ∧ (mv_sh 12 = 5 ∧ mv_wp X (d + 2) 78 [.ref 12, .int v1, .int (nI (gS (gL M) sd c0 (6 * h + 2 * l + 1)).1)] σ1 (fun r2 σ2 => ∃ v2, r2 = some (.int v2) ∧ (mv_wf X (mv_wp X (d + 2)) m_Monoid_gatherFrom Q 41 [.ref 12, .retAddr 0, .int (nI sd), .int v2, .int (nI h), .int (nI l + 1)] [] σ2)))) := by
      intro e0 υ gυ fυ
      rw [if_neg e0] at up1 rm1
      rw [nI_clamp (by omega), q25 υ gυ]
      refine s_ahead q256 hgl hl3 (g17 υ fυ) ⟨_, rfl, rfl, ?_⟩
      refine s_gather (s := 6 * h + 2 * l + 1) hG gυ (th_lt _ _) rm1 lim1 (fun τ2 p1 p2 => ⟨_, rfl, ?_⟩)
      rw [← up1] at p1 ⊢
      rw [nI_1]
      exact ih' τ2 (by omega) (Nat.lt_of_lt_of_le hlt1 mo2.1) p1 (frg_tr fυ p2)
    by_cases e1 : sd = 1
    · subst e1
      rw [if_pos rfl] at up
      have eu := up.trans (up_self hlt)
      have ga1 : gaC G (gS (gL M) 1 c0 (6 * h + 2 * l + 1)) τ := by rw [eu]; exact ga
      have := ahead (by decide) τ ga1 hf
      rw [eu] at this
      exact ⟨fun _ => ⟨fun z => absurd z (by decide), fun _ => ⟨rfl, ⟨rfl, vp_in_nI (N := 256) hh (by omega)⟩, rfl, this⟩⟩, fun z => absurd rfl z⟩
    · have n1 : ¬ nI sd = (1 : Int32) := fun z => e1 (nI_28 (b := 1) (by omega) (by omega) z)
      rw [if_neg e1] at up rm
      refine ⟨fun z => absurd z n1, fun _ => ⟨rfl, ⟨rfl, vp_in_nI (N := 256) hh (by omega)⟩, rfl, ?_⟩⟩
      rw [nI_clamp (by omega), ga.2.1 h hlt]
      refine s_behind q256 hgl hl3 (g17 τ hf) ⟨_, rfl, rfl, ?_⟩
      refine s_gather (s := 6 * h + 2 * l) hG ga (th_lt _ _) rm lim (fun τ2 p1 p2 => ⟨_, rfl, ?_⟩)
      rw [← up] at p1 ⊢
      have f2 := frg_tr hf p2
      by_cases e0 : sd = 0
      · subst e0
        rw [if_pos rfl] at up1
        have eu : gS (gL M) 0 c0 (6 * h + 2 * l + 1 + 1) = gS (gL M) 0 c0 (6 * h + 2 * l + 1) := by
          rw [up1]
          have := up_self (s := 6 * h + 2 * l + 1) hlt1
          rw [mo.2 h hlt] at this
          exact this
        refine ⟨fun _ => ?_, fun z => absurd rfl z⟩
        rw [nI_1]
        rw [eu] at ih'
        exact ih' τ2 (by omega) hlt1 p1 f2
      · have n0 : ¬ nI sd = (0 : Int32) := fun z => e0 (nI_28 (b := 0) (by omega) (by omega) z)
        have := ahead e0 τ2 p1 f2
        rw [nI_clamp (by omega)] at this
        exact ⟨fun z => absurd z n0, fun _ => ⟨rfl, ⟨rfl, vp_in_nI (N := 256) hh (by omega)⟩, rfl, this⟩⟩
theorem s_gatherFrom {G j sd : Nat} (hG : G + 1 < 2 ^ 30) (hM : md_ok M) (m : moC M σ) (g0 : iv_G G σ) (hsd : sd < 3) (hj : j < (eF (gL M)).1) (hQ : ∀ τ, gaC (G + 1) (gF (gL M) sd ((eF (gL M)).2.1 j)) τ → frg σ τ → Q (some (.int (nI (gF (gL M) sd ((eF (gL M)).2.1 j)).1))) τ) : mv_wp X (d + 3) 73 [.ref 12, .int (nI j), .int (nI sd)] σ Q := by
  have hc := eF_q hj
  refine w_Monoid_gatherFrom ⟨rfl, rfl, rfl, ?_⟩
  rw [g0.1, nI_1]
  have f0 : frg σ (mv_pi σ 12 13 (nI (G + 1))) := ⟨fun c j q1 q2 q3 => mv_rn q3, rfl⟩
  refine c_code (frg_C f0 m) hj ⟨_, rfl, rfl, ?_⟩
  generalize (eF (gL M)).2.1 j = c0 at *
  have ga0 : gaC (G + 1) (0, fun _ => c0, fun _ => 0) (mv_pi σ 12 13 (nI (G + 1))) := by
    refine ⟨mv_rd, fun i hi => absurd hi (Nat.not_lt_zero _), fun c hc => ?_⟩
    obtain ⟨m, m1, m2⟩ := g0.2 c hc
    exact ⟨m, by omega, by rw [mv_rn (by omega)]; exact m2, fun z => by omega, fun z => absurd z (Nat.not_lt_zero _)⟩
  have e0 : bf_up (0, fun _ => c0, fun _ => 0) c0 0 = gS (gL M) sd c0 (6 * 0) := by
    have : ¬ bf_ix ((0, fun _ => c0, fun _ => 0) : bf_T) c0 < 0 := Nat.not_lt_zero _
    unfold bf_up
    rw [if_neg this, Nat.mul_zero, gS_eq]
    unfold bf_add bf
    refine Prod.ext rfl (Prod.ext ?_ ?_)
    · funext k; show (if k = 0 then c0 else c0) = c0; split <;> rfl
    · funext k; show (if k = 0 then 0 else 0) = 0; split <;> rfl
  have outer : ∀ r h (τ : mv_S), h + r = 256 → h ≤ (gS (gL M) sd c0 (6 * h)).1 → gaC (G + 1) (gS (gL M) sd c0 (6 * h)) τ → frg σ τ → mv_wf X (mv_wp X (d + 2)) m_Monoid_gatherFrom Q 24 [.ref 12, .retAddr 0, .int (nI sd), .int (nI (gS (gL M) sd c0 (6 * h)).1), .int (nI h), .retAddr 0] [] τ := by
    intro r
    have fin : ∀ h (τ : mv_S), (gS (gL M) sd c0 (6 * h)).1 = h → gaC (G + 1) (gS (gL M) sd c0 (6 * h)) τ → frg σ τ → Q (some (.int (nI (gS (gL M) sd c0 (6 * h)).1))) τ := by
      intro h τ e ga hf
      rw [gS_end hc e] at ga ⊢
      exact hQ τ ga hf
    induction r with
    | zero =>
      intro h τ hh hle ga hf
      have h5 := gS_le (g := gL M) (sd := sd) hc (6 * h)
      exact h_Monoid_gatherFrom_24 ⟨fun _ => fin h τ (by omega) ga hf, fun z => absurd (nI_le (by omega) (by omega)) z⟩
    | succ r ih =>
      intro h τ hh hle ga hf
      have h5 := gS_le (g := gL M) (sd := sd) hc (6 * h)
      by_cases e : (gS (gL M) sd c0 (6 * h)).1 = h
      · exact h_Monoid_gatherFrom_24 ⟨fun _ => fin h τ e ga hf, fun z => absurd (nI_le (by omega) (by omega)) z⟩
      · have hlt : h < (gS (gL M) sd c0 (6 * h)).1 := by omega
        have m6 := gS_mo (g := gL M) (sd := sd) (c0 := c0) (6 * h) 6
        refine h_Monoid_gatherFrom_24 ⟨fun z => absurd z (nI_ge hlt (by omega)), fun _ => ⟨fun z => absurd z (nI_ge (b := 256) (by omega) (by omega)), fun _ => ?_⟩⟩
        exact s_gfL (σ := σ) hG hM hc m hsd (by omega) (fun τ2 q1 q2 => ih (h + 1) τ2 (by omega) (Nat.le_trans hlt m6.1) q1 q2) 3 0 τ rfl hlt ga hf
  refine s_gather (s := 0) (S := (0, fun _ => c0, fun _ => 0)) hG ga0 hc (fun _ => (by decide : 0 < 256)) (by decide : 0 ≤ 256) (fun τ2 p1 p2 => ⟨_, rfl, ?_⟩)
  rw [e0] at p1 ⊢
  exact outer 256 0 τ2 rfl (Nat.zero_le _) p1 (frg_tr f0 p2)
theorem c_isGathered {G i : Nat} {S : bf_T} (hG : G < 2 ^ 30) (m : moC M σ) (ga : gaC G S σ) (hi : i < (eF (gL M)).1) (hQ : Q (some (.int (if bf_ix S ((eF (gL M)).2.1 i) < S.1 then 1 else 0))) σ) : mv_wp X (d + 2) 76 [.ref 12, .int (nI i)] σ Q := by
  have hc := eF_q hi
  refine (w_Monoid_isGathered _ _ _ _ _).mpr ⟨rfl, rfl, ?_⟩
  refine c_code m hi ⟨_, rfl, ?_⟩
  obtain ⟨m', m1, m2, m3⟩ := ga.2.2 _ hc
  rw [q_and255, Nat.mod_eq_of_lt hc, nI_clamp (by omega), m2, ga.1]
  refine ⟨⟨rfl, vp_in_nI (N := 256) hc (by omega)⟩, rfl, ?_⟩
  by_cases e : bf_ix S ((eF (gL M)).2.1 i) < S.1
  · rw [if_pos e] at hQ
    rw [m3.mpr e]
    exact ⟨fun z => absurd rfl z, fun _ => ⟨Or.inr rfl, hQ⟩⟩
  · rw [if_neg e] at hQ
    have ne : ¬ nI m' = nI G := fun z => e (m3.mp ((nI_eq (by omega) (by omega)).mp z))
    exact ⟨fun _ => ⟨Or.inl rfl, hQ⟩, fun z => absurd z ne⟩
end GATHC
