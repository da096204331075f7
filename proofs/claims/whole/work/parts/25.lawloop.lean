/-! ===== the law's loop, over any invariant that each pair of calls keeps: printed by wip/whole/lawgen.py ===== -/
/-- class and reference answer alike, and the invariant stands behind both -/
def lw_op (X : mv_X) (d : Nat) (Inv : mv_S → Prop) (f g : Nat) (as : List Value) (σ : mv_S) : Prop := mv_wp X d f (.ref 0 :: as) σ (fun r1 σ1 => ∃ v, r1 = some (.int v) ∧ mv_wp X d g (.ref 61 :: as) σ1 (fun r2 σ2 => r2 = some (.int v) ∧ Inv σ2))
def lw_opL (X : mv_X) (d : Nat) (Inv : mv_S → Prop) (f g : Nat) (as : List Value) (σ : mv_S) : Prop := mv_wp X d f (.ref 0 :: as) σ (fun r1 σ1 => ∃ v, r1 = some (.long v) ∧ mv_wp X d g (.ref 61 :: as) σ1 (fun r2 σ2 => r2 = some (.long v) ∧ Inv σ2))
theorem lw_cmp (x : Int64) : lg_cmp x x = 0 := by unfold lg_cmp; simp
/-- all pairs of calls, in the order of the law -/
def lw_ops (X : mv_X) (d : Nat) (Inv : Nat → mv_S → Prop) : Prop :=
  (∀ (a1 : Int32) (i : Nat) (σ : mv_S), i ≤ 3584 → Inv i σ → lw_op X d (Inv (i + 7)) 97 161 [.int a1] σ) ∧
  (∀ (i : Nat) (σ : mv_S), i ≤ 3584 → Inv i σ → lw_op X d (Inv (i + 7)) 98 162 [] σ) ∧
  (∀ (a1 a2 a3 a4 : Int32) (i : Nat) (σ : mv_S), i ≤ 3584 → Inv i σ → lw_op X d (Inv (i + 7)) 99 163 [.int a1, .int a2, .int a3, .int a4] σ) ∧
  (∀ (a1 a2 : Int32) (i : Nat) (σ : mv_S), i ≤ 3584 → Inv i σ → lw_op X d (Inv (i + 7)) 100 164 [.int a1, .int a2] σ) ∧
  (∀ (a1 a2 : Int32) (i : Nat) (σ : mv_S), i ≤ 3584 → Inv i σ → lw_op X d (Inv (i + 7)) 101 165 [.int a1, .int a2] σ) ∧
  (∀ (a1 a2 : Int32) (i : Nat) (σ : mv_S), i ≤ 3584 → Inv i σ → lw_op X d (Inv (i + 7)) 102 166 [.int a1, .int a2] σ) ∧
  (∀ (a1 a2 : Int32) (i : Nat) (σ : mv_S), i ≤ 3584 → Inv i σ → lw_op X d (Inv (i + 7)) 103 167 [.int a1, .int a2] σ) ∧
  (∀ (a1 a2 a3 : Int32) (i : Nat) (σ : mv_S), i ≤ 3584 → Inv i σ → lw_op X d (Inv (i + 7)) 104 168 [.int a1, .int a2, .int a3] σ) ∧
  (∀ (a1 : Int32) (i : Nat) (σ : mv_S), i ≤ 3584 → Inv i σ → lw_op X d (Inv (i + 7)) 105 169 [.int a1] σ) ∧
  (∀ (a1 : Int32) (i : Nat) (σ : mv_S), i ≤ 3584 → Inv i σ → lw_op X d (Inv (i + 7)) 106 182 [.int a1] σ) ∧
  (∀ (a1 a2 a3 : Int32) (i : Nat) (σ : mv_S), i ≤ 3584 → Inv i σ → lw_op X d (Inv (i + 7)) 107 184 [.int a1, .int a2, .int a3] σ) ∧
  (∀ (a1 a2 : Int32) (i : Nat) (σ : mv_S), i ≤ 3584 → Inv i σ → lw_op X d (Inv (i + 7)) 108 185 [.int a1, .int a2] σ) ∧
  (∀ (a1 a2 a3 : Int32) (i : Nat) (σ : mv_S), i ≤ 3584 → Inv i σ → lw_op X d (Inv (i + 7)) 109 186 [.int a1, .int a2, .int a3] σ) ∧
  (∀ (a1 a2 a3 : Int32) (i : Nat) (σ : mv_S), i ≤ 3584 → Inv i σ → lw_op X d (Inv (i + 7)) 110 188 [.int a1, .int a2, .int a3] σ) ∧
  (∀ (a1 a2 a3 a4 : Int32) (i : Nat) (σ : mv_S), i ≤ 3584 → Inv i σ → lw_op X d (Inv (i + 7)) 111 191 [.int a1, .int a2, .int a3, .int a4] σ) ∧
  (∀ (a1 a2 : Int32) (i : Nat) (σ : mv_S), i ≤ 3584 → Inv i σ → lw_op X d (Inv (i + 7)) 112 195 [.int a1, .int a2] σ) ∧
  (∀ (a1 : Int32) (i : Nat) (σ : mv_S), i ≤ 3584 → Inv i σ → lw_op X d (Inv (i + 7)) 113 202 [.int a1] σ) ∧
  (∀ (a1 a2 a3 : Int32) (i : Nat) (σ : mv_S), i ≤ 3584 → Inv i σ → lw_op X d (Inv (i + 7)) 114 203 [.int a1, .int a2, .int a3] σ) ∧
  (∀ (a1 a2 : Int32) (i : Nat) (σ : mv_S), i ≤ 3584 → Inv i σ → lw_op X d (Inv (i + 7)) 115 206 [.int a1, .int a2] σ) ∧
  (∀ (a1 a2 a3 : Int32) (i : Nat) (σ : mv_S), i ≤ 3584 → Inv i σ → lw_op X d (Inv (i + 7)) 116 207 [.int a1, .int a2, .int a3] σ) ∧
  (∀ (a1 a2 a3 : Int32) (i : Nat) (σ : mv_S), i ≤ 3584 → Inv i σ → lw_opL X d (Inv (i + 7)) 117 208 [.int a1, .int a2, .int a3] σ) ∧
  (∀ (i : Nat) (σ : mv_S), i ≤ 3584 → Inv i σ → lw_op X d (Inv (i + 7)) 118 221 [] σ) ∧
  (∀ (a1 : Int32) (i : Nat) (σ : mv_S), i ≤ 3584 → Inv i σ → lw_op X d (Inv (i + 7)) 119 222 [.int a1] σ) ∧
  (∀ (a1 a2 : Int32) (i : Nat) (σ : mv_S), i ≤ 3584 → Inv i σ → lw_op X d (Inv (i + 7)) 120 223 [.int a1, .int a2] σ) ∧
  (∀ (a1 a2 a3 : Int32) (i : Nat) (σ : mv_S), i ≤ 3584 → Inv i σ → lw_op X d (Inv (i + 7)) 121 226 [.int a1, .int a2, .int a3] σ) ∧
  (∀ (a1 a2 a3 : Int32) (i : Nat) (σ : mv_S), i ≤ 3584 → Inv i σ → lw_op X d (Inv (i + 7)) 122 227 [.int a1, .int a2, .int a3] σ) ∧
  (∀ (a1 a2 a3 : Int32) (i : Nat) (σ : mv_S), i ≤ 3584 → Inv i σ → lw_op X d (Inv (i + 7)) 123 228 [.int a1, .int a2, .int a3] σ) ∧
  (∀ (a1 a2 a3 a4 a5 : Int32) (i : Nat) (σ : mv_S), i ≤ 3584 → Inv i σ → lw_op X d (Inv (i + 7)) 124 230 [.int a1, .int a2, .int a3, .int a4, .int a5] σ) ∧
  (∀ (a1 a2 a3 : Int32) (i : Nat) (σ : mv_S), i ≤ 3584 → Inv i σ → lw_op X d (Inv (i + 7)) 125 231 [.int a1, .int a2, .int a3] σ) ∧
  (∀ (a1 a2 a3 a4 : Int32) (i : Nat) (σ : mv_S), i ≤ 3584 → Inv i σ → lw_op X d (Inv (i + 7)) 126 232 [.int a1, .int a2, .int a3, .int a4] σ) ∧
  (∀ (a1 a2 a3 a4 a5 a6 : Int32) (i : Nat) (σ : mv_S), i ≤ 3584 → Inv i σ → lw_op X d (Inv (i + 7)) 127 234 [.int a1, .int a2, .int a3, .int a4, .int a5, .int a6] σ) ∧
  (∀ (i : Nat) (σ : mv_S), i ≤ 3584 → Inv i σ → lw_op X d (Inv (i + 7)) 128 235 [] σ) ∧
  (∀ (i : Nat) (σ : mv_S), i ≤ 3584 → Inv i σ → lw_op X d (Inv (i + 7)) 129 236 [] σ) ∧
  (∀ (a1 a2 a3 a4 : Int32) (i : Nat) (σ : mv_S), i ≤ 3584 → Inv i σ → lw_op X d (Inv (i + 7)) 130 239 [.int a1, .int a2, .int a3, .int a4] σ) ∧
  (∀ (a1 : Int32) (i : Nat) (σ : mv_S), i ≤ 3584 → Inv i σ → lw_op X d (Inv (i + 7)) 131 240 [.int a1] σ) ∧
  (∀ (a1 a2 a3 : Int32) (i : Nat) (σ : mv_S), i ≤ 3584 → Inv i σ → lw_op X d (Inv (i + 7)) 132 241 [.int a1, .int a2, .int a3] σ) ∧
  (∀ (a1 a2 a3 : Int32) (i : Nat) (σ : mv_S), i ≤ 3584 → Inv i σ → lw_op X d (Inv (i + 7)) 133 242 [.int a1, .int a2, .int a3] σ) ∧
  (∀ (a1 a2 a3 a4 a5 : Int32) (i : Nat) (σ : mv_S), i ≤ 3584 → Inv i σ → lw_op X d (Inv (i + 7)) 134 243 [.int a1, .int a2, .int a3, .int a4, .int a5] σ)
set_option maxRecDepth 100000 in
set_option maxHeartbeats 4000000 in
theorem lw_loop {X : mv_X} {d : Nat} (hX : X.1 ≤ 3584) (Inv : Nat → mv_S → Prop) (hops : lw_ops X d Inv) (h_more : ∀ i σ, Inv i σ → Inv (i + 7) σ) :
    ∀ (n i : Nat) (σ : mv_S), X.1 ≤ i + n → i ≤ 3591 → Inv i σ → mv_wf X (mv_wp X d) m_law (fun r _ => r = some (.int 1)) 18 [.retAddr 1, .ref 0, .ref 61, .int (nI i)] [] σ := by
  obtain ⟨h_machine, h_drop, h_step, h_ends, h_start, h_of, h_takes, h_quotient, h_turn, h_size, h_word, h_element, h_times, h_power, h_below, h_green, h_holds, h_wrong, h_level, h_separates, h_least, h_formula, h_why, h_says, h_many, h_agree, h_drawn, h_chance, h_tells, h_film, h_feed, h_image, h_back, h_load, h_count, h_sheet, h_put, h_copy⟩ := hops
  have hcmp : ∀ i : Nat, i ≤ 3591 → (Int32.ofNat X.1 - 7 < nI i ↔ X.1 < i + 7) := by
    intro i hi
    rw [Int32.lt_iff_toInt_lt, show (Int32.ofNat X.1 - 7 : Int32) = nI X.1 - nI 7 from rfl, pk_sub_toInt (by omega) (by omega), nI_toInt (by omega)]
    omega
  intro n
  induction n with
  | zero =>
    intro i σ h1 h2 _
    refine h_law_18 ⟨fun _ => ⟨Or.inr rfl, rfl⟩, fun q => absurd ((hcmp i h2).mpr (by omega)) q⟩
  | succ n ih =>
  intro i σ h1 h2 hσ
  refine h_law_18 ⟨fun _ => ⟨Or.inr rfl, rfl⟩, fun q => ?_⟩
  have hlt : i + 7 ≤ X.1 := Nat.not_lt.mp fun z => q ((hcmp i h2).mpr z)
  have gg : ∀ k : Nat, k < 7 → vp_in (nI i + nI k) X.1 := fun k hk => by rw [nI_add]; exact vp_in_nI (by omega) (by omega)
  have g0 : vp_in (nI i) X.1 := vp_in_nI (by omega) (by omega)
  have g1 : vp_in (nI i + 1) X.1 := gg 1 (by omega)
  have g2 : vp_in (nI i + 2) X.1 := gg 2 (by omega)
  have g3 : vp_in (nI i + 3) X.1 := gg 3 (by omega)
  have g4 : vp_in (nI i + 4) X.1 := gg 4 (by omega)
  have g5 : vp_in (nI i + 5) X.1 := gg 5 (by omega)
  have g6 : vp_in (nI i + 6) X.1 := gg 6 (by omega)
  have kk : ∀ σ', Inv (i + 7) σ' → mv_wf X (mv_wp X d) m_law (fun r _ => r = some (.int 1)) 18 [.retAddr 1, .ref 0, .ref 61, .int (nI i + 7)] [] σ' := fun σ' hi => by
    rw [show (nI i + 7 : Int32) = nI (i + 7) from nI_add i 7]
    exact ih (i + 7) σ' (by omega) (by omega) hi
  refine ⟨g0, ?_⟩
  refine ⟨fun _ => ?_, fun _ => ?_⟩
  · refine h_law_200 ⟨g1, rfl, mv_wp_mono _ _ _ _ _ _ (fun r1 σ1 q => ?_) (h_machine _ i σ (by omega) hσ)⟩
    obtain ⟨v, e1, q⟩ := q
    refine ⟨v, e1, g1, rfl, mv_wp_mono _ _ _ _ _ _ (fun r2 σ2 q => ?_) q⟩
    obtain ⟨e2, hi⟩ := q
    exact ⟨v, e2, fun _ => h_law_1627 (kk σ2 hi), fun q => absurd rfl q⟩
  refine ⟨fun _ => ?_, fun _ => ?_⟩
  · refine h_law_223 ⟨rfl, mv_wp_mono _ _ _ _ _ _ (fun r1 σ1 q => ?_) (h_drop  i σ (by omega) hσ)⟩
    obtain ⟨v, e1, q⟩ := q
    refine ⟨v, e1, rfl, mv_wp_mono _ _ _ _ _ _ (fun r2 σ2 q => ?_) q⟩
    obtain ⟨e2, hi⟩ := q
    exact ⟨v, e2, fun _ => h_law_1627 (kk σ2 hi), fun q => absurd rfl q⟩
  refine ⟨fun _ => ?_, fun _ => ?_⟩
  · refine h_law_236 ⟨g1, g2, g3, g4, rfl, mv_wp_mono _ _ _ _ _ _ (fun r1 σ1 q => ?_) (h_step _ _ _ _ i σ (by omega) hσ)⟩
    obtain ⟨v, e1, q⟩ := q
    refine ⟨v, e1, g1, g2, g3, g4, rfl, mv_wp_mono _ _ _ _ _ _ (fun r2 σ2 q => ?_) q⟩
    obtain ⟨e2, hi⟩ := q
    exact ⟨v, e2, fun _ => h_law_1627 (kk σ2 hi), fun q => absurd rfl q⟩
  refine ⟨fun _ => ?_, fun _ => ?_⟩
  · refine h_law_289 ⟨g1, g2, rfl, mv_wp_mono _ _ _ _ _ _ (fun r1 σ1 q => ?_) (h_ends _ _ i σ (by omega) hσ)⟩
    obtain ⟨v, e1, q⟩ := q
    refine ⟨v, e1, g1, g2, rfl, mv_wp_mono _ _ _ _ _ _ (fun r2 σ2 q => ?_) q⟩
    obtain ⟨e2, hi⟩ := q
    exact ⟨v, e2, fun _ => h_law_1627 (kk σ2 hi), fun q => absurd rfl q⟩
  refine ⟨fun _ => ?_, fun _ => ?_⟩
  · refine h_law_322 ⟨g1, g2, rfl, mv_wp_mono _ _ _ _ _ _ (fun r1 σ1 q => ?_) (h_start _ _ i σ (by omega) hσ)⟩
    obtain ⟨v, e1, q⟩ := q
    refine ⟨v, e1, g1, g2, rfl, mv_wp_mono _ _ _ _ _ _ (fun r2 σ2 q => ?_) q⟩
    obtain ⟨e2, hi⟩ := q
    exact ⟨v, e2, fun _ => h_law_1627 (kk σ2 hi), fun q => absurd rfl q⟩
  refine ⟨fun _ => ?_, fun _ => ?_⟩
  · refine h_law_355 ⟨g1, g2, rfl, mv_wp_mono _ _ _ _ _ _ (fun r1 σ1 q => ?_) (h_of _ _ i σ (by omega) hσ)⟩
    obtain ⟨v, e1, q⟩ := q
    refine ⟨v, e1, g1, g2, rfl, mv_wp_mono _ _ _ _ _ _ (fun r2 σ2 q => ?_) q⟩
    obtain ⟨e2, hi⟩ := q
    exact ⟨v, e2, fun _ => h_law_1627 (kk σ2 hi), fun q => absurd rfl q⟩
  refine ⟨fun _ => ?_, fun _ => ?_⟩
  · refine h_law_388 ⟨g1, g2, rfl, mv_wp_mono _ _ _ _ _ _ (fun r1 σ1 q => ?_) (h_takes _ _ i σ (by omega) hσ)⟩
    obtain ⟨v, e1, q⟩ := q
    refine ⟨v, e1, g1, g2, rfl, mv_wp_mono _ _ _ _ _ _ (fun r2 σ2 q => ?_) q⟩
    obtain ⟨e2, hi⟩ := q
    exact ⟨v, e2, fun _ => h_law_1627 (kk σ2 hi), fun q => absurd rfl q⟩
  refine ⟨fun _ => ?_, fun _ => ?_⟩
  · refine h_law_421 ⟨g1, g2, g3, rfl, mv_wp_mono _ _ _ _ _ _ (fun r1 σ1 q => ?_) (h_quotient _ _ _ i σ (by omega) hσ)⟩
    obtain ⟨v, e1, q⟩ := q
    refine ⟨v, e1, g1, g2, g3, rfl, mv_wp_mono _ _ _ _ _ _ (fun r2 σ2 q => ?_) q⟩
    obtain ⟨e2, hi⟩ := q
    exact ⟨v, e2, fun _ => h_law_1627 (kk σ2 hi), fun q => absurd rfl q⟩
  refine ⟨fun _ => ?_, fun _ => ?_⟩
  · refine h_law_464 ⟨g1, rfl, mv_wp_mono _ _ _ _ _ _ (fun r1 σ1 q => ?_) (h_turn _ i σ (by omega) hσ)⟩
    obtain ⟨v, e1, q⟩ := q
    refine ⟨v, e1, g1, rfl, mv_wp_mono _ _ _ _ _ _ (fun r2 σ2 q => ?_) q⟩
    obtain ⟨e2, hi⟩ := q
    exact ⟨v, e2, fun _ => h_law_1627 (kk σ2 hi), fun q => absurd rfl q⟩
  refine ⟨fun _ => ?_, fun _ => ?_⟩
  · refine h_law_487 ⟨g1, rfl, mv_wp_mono _ _ _ _ _ _ (fun r1 σ1 q => ?_) (h_size _ i σ (by omega) hσ)⟩
    obtain ⟨v, e1, q⟩ := q
    refine ⟨v, e1, g1, rfl, mv_wp_mono _ _ _ _ _ _ (fun r2 σ2 q => ?_) q⟩
    obtain ⟨e2, hi⟩ := q
    exact ⟨v, e2, fun _ => h_law_1627 (kk σ2 hi), fun q => absurd rfl q⟩
  refine ⟨fun _ => ?_, fun _ => ?_⟩
  · refine h_law_510 ⟨g1, g2, g3, rfl, mv_wp_mono _ _ _ _ _ _ (fun r1 σ1 q => ?_) (h_word _ _ _ i σ (by omega) hσ)⟩
    obtain ⟨v, e1, q⟩ := q
    refine ⟨v, e1, g1, g2, g3, rfl, mv_wp_mono _ _ _ _ _ _ (fun r2 σ2 q => ?_) q⟩
    obtain ⟨e2, hi⟩ := q
    exact ⟨v, e2, fun _ => h_law_1627 (kk σ2 hi), fun q => absurd rfl q⟩
  refine ⟨fun _ => ?_, fun _ => ?_⟩
  · refine h_law_553 ⟨g1, g2, rfl, mv_wp_mono _ _ _ _ _ _ (fun r1 σ1 q => ?_) (h_element _ _ i σ (by omega) hσ)⟩
    obtain ⟨v, e1, q⟩ := q
    refine ⟨v, e1, g1, g2, rfl, mv_wp_mono _ _ _ _ _ _ (fun r2 σ2 q => ?_) q⟩
    obtain ⟨e2, hi⟩ := q
    exact ⟨v, e2, fun _ => h_law_1627 (kk σ2 hi), fun q => absurd rfl q⟩
  refine ⟨fun _ => ?_, fun _ => ?_⟩
  · refine h_law_586 ⟨g1, g2, g3, rfl, mv_wp_mono _ _ _ _ _ _ (fun r1 σ1 q => ?_) (h_times _ _ _ i σ (by omega) hσ)⟩
    obtain ⟨v, e1, q⟩ := q
    refine ⟨v, e1, g1, g2, g3, rfl, mv_wp_mono _ _ _ _ _ _ (fun r2 σ2 q => ?_) q⟩
    obtain ⟨e2, hi⟩ := q
    exact ⟨v, e2, fun _ => h_law_1627 (kk σ2 hi), fun q => absurd rfl q⟩
  refine ⟨fun _ => ?_, fun _ => ?_⟩
  · refine h_law_629 ⟨g1, g2, g3, rfl, mv_wp_mono _ _ _ _ _ _ (fun r1 σ1 q => ?_) (h_power _ _ _ i σ (by omega) hσ)⟩
    obtain ⟨v, e1, q⟩ := q
    refine ⟨v, e1, g1, g2, g3, rfl, mv_wp_mono _ _ _ _ _ _ (fun r2 σ2 q => ?_) q⟩
    obtain ⟨e2, hi⟩ := q
    exact ⟨v, e2, fun _ => h_law_1627 (kk σ2 hi), fun q => absurd rfl q⟩
  refine ⟨fun _ => ?_, fun _ => ?_⟩
  · refine h_law_672 ⟨g1, g2, g3, g4, rfl, mv_wp_mono _ _ _ _ _ _ (fun r1 σ1 q => ?_) (h_below _ _ _ _ i σ (by omega) hσ)⟩
    obtain ⟨v, e1, q⟩ := q
    refine ⟨v, e1, g1, g2, g3, g4, rfl, mv_wp_mono _ _ _ _ _ _ (fun r2 σ2 q => ?_) q⟩
    obtain ⟨e2, hi⟩ := q
    exact ⟨v, e2, fun _ => h_law_1627 (kk σ2 hi), fun q => absurd rfl q⟩
  refine ⟨fun _ => ?_, fun _ => ?_⟩
  · refine h_law_725 ⟨g1, g2, rfl, mv_wp_mono _ _ _ _ _ _ (fun r1 σ1 q => ?_) (h_green _ _ i σ (by omega) hσ)⟩
    obtain ⟨v, e1, q⟩ := q
    refine ⟨v, e1, g1, g2, rfl, mv_wp_mono _ _ _ _ _ _ (fun r2 σ2 q => ?_) q⟩
    obtain ⟨e2, hi⟩ := q
    exact ⟨v, e2, fun _ => h_law_1627 (kk σ2 hi), fun q => absurd rfl q⟩
  refine ⟨fun _ => ?_, fun _ => ?_⟩
  · refine h_law_758 ⟨g1, rfl, mv_wp_mono _ _ _ _ _ _ (fun r1 σ1 q => ?_) (h_holds _ i σ (by omega) hσ)⟩
    obtain ⟨v, e1, q⟩ := q
    refine ⟨v, e1, g1, rfl, mv_wp_mono _ _ _ _ _ _ (fun r2 σ2 q => ?_) q⟩
    obtain ⟨e2, hi⟩ := q
    exact ⟨v, e2, fun _ => h_law_1627 (kk σ2 hi), fun q => absurd rfl q⟩
  refine ⟨fun _ => ?_, fun _ => ?_⟩
  · refine h_law_781 ⟨g1, g2, g3, rfl, mv_wp_mono _ _ _ _ _ _ (fun r1 σ1 q => ?_) (h_wrong _ _ _ i σ (by omega) hσ)⟩
    obtain ⟨v, e1, q⟩ := q
    refine ⟨v, e1, g1, g2, g3, rfl, mv_wp_mono _ _ _ _ _ _ (fun r2 σ2 q => ?_) q⟩
    obtain ⟨e2, hi⟩ := q
    exact ⟨v, e2, fun _ => h_law_1627 (kk σ2 hi), fun q => absurd rfl q⟩
  refine ⟨fun _ => ?_, fun _ => ?_⟩
  · refine h_law_824 ⟨g1, g2, rfl, mv_wp_mono _ _ _ _ _ _ (fun r1 σ1 q => ?_) (h_level _ _ i σ (by omega) hσ)⟩
    obtain ⟨v, e1, q⟩ := q
    refine ⟨v, e1, g1, g2, rfl, mv_wp_mono _ _ _ _ _ _ (fun r2 σ2 q => ?_) q⟩
    obtain ⟨e2, hi⟩ := q
    exact ⟨v, e2, fun _ => h_law_1627 (kk σ2 hi), fun q => absurd rfl q⟩
  refine ⟨fun _ => ?_, fun _ => ?_⟩
  · refine h_law_857 ⟨g1, g2, g3, rfl, mv_wp_mono _ _ _ _ _ _ (fun r1 σ1 q => ?_) (h_separates _ _ _ i σ (by omega) hσ)⟩
    obtain ⟨v, e1, q⟩ := q
    refine ⟨v, e1, g1, g2, g3, rfl, mv_wp_mono _ _ _ _ _ _ (fun r2 σ2 q => ?_) q⟩
    obtain ⟨e2, hi⟩ := q
    exact ⟨v, e2, fun _ => h_law_1627 (kk σ2 hi), fun q => absurd rfl q⟩
  refine ⟨fun _ => ?_, fun _ => ?_⟩
  · refine h_law_900 ⟨g1, g2, g3, rfl, mv_wp_mono _ _ _ _ _ _ (fun r1 σ1 q => ?_) (h_least _ _ _ i σ (by omega) hσ)⟩
    obtain ⟨v, e1, q⟩ := q
    refine ⟨v, e1, g1, g2, g3, rfl, mv_wp_mono _ _ _ _ _ _ (fun r2 σ2 q => ?_) q⟩
    obtain ⟨e2, hi⟩ := q
    exact ⟨v, e2, fun _ => h_law_1627 (kk σ2 hi), fun q => absurd (lw_cmp v) q⟩
  refine ⟨fun _ => ?_, fun _ => ?_⟩
  · refine h_law_944 ⟨rfl, mv_wp_mono _ _ _ _ _ _ (fun r1 σ1 q => ?_) (h_formula  i σ (by omega) hσ)⟩
    obtain ⟨v, e1, q⟩ := q
    refine ⟨v, e1, rfl, mv_wp_mono _ _ _ _ _ _ (fun r2 σ2 q => ?_) q⟩
    obtain ⟨e2, hi⟩ := q
    exact ⟨v, e2, fun _ => h_law_1627 (kk σ2 hi), fun q => absurd rfl q⟩
  refine ⟨fun _ => ?_, fun _ => ?_⟩
  · refine h_law_957 ⟨g1, rfl, mv_wp_mono _ _ _ _ _ _ (fun r1 σ1 q => ?_) (h_why _ i σ (by omega) hσ)⟩
    obtain ⟨v, e1, q⟩ := q
    refine ⟨v, e1, g1, rfl, mv_wp_mono _ _ _ _ _ _ (fun r2 σ2 q => ?_) q⟩
    obtain ⟨e2, hi⟩ := q
    exact ⟨v, e2, fun _ => h_law_1627 (kk σ2 hi), fun q => absurd rfl q⟩
  refine ⟨fun _ => ?_, fun _ => ?_⟩
  · refine h_law_980 ⟨g1, g2, rfl, mv_wp_mono _ _ _ _ _ _ (fun r1 σ1 q => ?_) (h_says _ _ i σ (by omega) hσ)⟩
    obtain ⟨v, e1, q⟩ := q
    refine ⟨v, e1, g1, g2, rfl, mv_wp_mono _ _ _ _ _ _ (fun r2 σ2 q => ?_) q⟩
    obtain ⟨e2, hi⟩ := q
    exact ⟨v, e2, fun _ => h_law_1627 (kk σ2 hi), fun q => absurd rfl q⟩
  refine ⟨fun _ => ?_, fun _ => ?_⟩
  · refine h_law_1013 ⟨g1, g2, g3, rfl, mv_wp_mono _ _ _ _ _ _ (fun r1 σ1 q => ?_) (h_many _ _ _ i σ (by omega) hσ)⟩
    obtain ⟨v, e1, q⟩ := q
    refine ⟨v, e1, g1, g2, g3, rfl, mv_wp_mono _ _ _ _ _ _ (fun r2 σ2 q => ?_) q⟩
    obtain ⟨e2, hi⟩ := q
    exact ⟨v, e2, fun _ => h_law_1627 (kk σ2 hi), fun q => absurd rfl q⟩
  refine ⟨fun _ => ?_, fun _ => ?_⟩
  · refine h_law_1056 ⟨g1, g2, g3, rfl, mv_wp_mono _ _ _ _ _ _ (fun r1 σ1 q => ?_) (h_agree _ _ _ i σ (by omega) hσ)⟩
    obtain ⟨v, e1, q⟩ := q
    refine ⟨v, e1, g1, g2, g3, rfl, mv_wp_mono _ _ _ _ _ _ (fun r2 σ2 q => ?_) q⟩
    obtain ⟨e2, hi⟩ := q
    exact ⟨v, e2, fun _ => h_law_1627 (kk σ2 hi), fun q => absurd rfl q⟩
  refine ⟨fun _ => ?_, fun _ => ?_⟩
  · refine h_law_1099 ⟨g1, g2, g3, rfl, mv_wp_mono _ _ _ _ _ _ (fun r1 σ1 q => ?_) (h_drawn _ _ _ i σ (by omega) hσ)⟩
    obtain ⟨v, e1, q⟩ := q
    refine ⟨v, e1, g1, g2, g3, rfl, mv_wp_mono _ _ _ _ _ _ (fun r2 σ2 q => ?_) q⟩
    obtain ⟨e2, hi⟩ := q
    exact ⟨v, e2, fun _ => h_law_1627 (kk σ2 hi), fun q => absurd rfl q⟩
  refine ⟨fun _ => ?_, fun _ => ?_⟩
  · refine h_law_1142 ⟨g1, g2, g3, g4, g5, rfl, mv_wp_mono _ _ _ _ _ _ (fun r1 σ1 q => ?_) (h_chance _ _ _ _ _ i σ (by omega) hσ)⟩
    obtain ⟨v, e1, q⟩ := q
    refine ⟨v, e1, g1, g2, g3, g4, g5, rfl, mv_wp_mono _ _ _ _ _ _ (fun r2 σ2 q => ?_) q⟩
    obtain ⟨e2, hi⟩ := q
    exact ⟨v, e2, fun _ => h_law_1627 (kk σ2 hi), fun q => absurd rfl q⟩
  refine ⟨fun _ => ?_, fun _ => ?_⟩
  · refine h_law_1205 ⟨g1, g2, g3, rfl, mv_wp_mono _ _ _ _ _ _ (fun r1 σ1 q => ?_) (h_tells _ _ _ i σ (by omega) hσ)⟩
    obtain ⟨v, e1, q⟩ := q
    refine ⟨v, e1, g1, g2, g3, rfl, mv_wp_mono _ _ _ _ _ _ (fun r2 σ2 q => ?_) q⟩
    obtain ⟨e2, hi⟩ := q
    exact ⟨v, e2, fun _ => h_law_1627 (kk σ2 hi), fun q => absurd rfl q⟩
  refine ⟨fun _ => ?_, fun _ => ?_⟩
  · refine h_law_1248 ⟨g1, g2, g3, g4, rfl, mv_wp_mono _ _ _ _ _ _ (fun r1 σ1 q => ?_) (h_film _ _ _ _ i σ (by omega) hσ)⟩
    obtain ⟨v, e1, q⟩ := q
    refine ⟨v, e1, g1, g2, g3, g4, rfl, mv_wp_mono _ _ _ _ _ _ (fun r2 σ2 q => ?_) q⟩
    obtain ⟨e2, hi⟩ := q
    exact ⟨v, e2, fun _ => h_law_1627 (kk σ2 hi), fun q => absurd rfl q⟩
  refine ⟨fun _ => ?_, fun _ => ?_⟩
  · refine h_law_1301 ⟨g1, g2, g3, g4, g5, g6, rfl, mv_wp_mono _ _ _ _ _ _ (fun r1 σ1 q => ?_) (h_feed _ _ _ _ _ _ i σ (by omega) hσ)⟩
    obtain ⟨v, e1, q⟩ := q
    refine ⟨v, e1, g1, g2, g3, g4, g5, g6, rfl, mv_wp_mono _ _ _ _ _ _ (fun r2 σ2 q => ?_) q⟩
    obtain ⟨e2, hi⟩ := q
    exact ⟨v, e2, fun _ => h_law_1627 (kk σ2 hi), fun q => absurd rfl q⟩
  refine ⟨fun _ => ?_, fun _ => ?_⟩
  · refine h_law_1376 ⟨rfl, mv_wp_mono _ _ _ _ _ _ (fun r1 σ1 q => ?_) (h_image  i σ (by omega) hσ)⟩
    obtain ⟨v, e1, q⟩ := q
    refine ⟨v, e1, rfl, mv_wp_mono _ _ _ _ _ _ (fun r2 σ2 q => ?_) q⟩
    obtain ⟨e2, hi⟩ := q
    exact ⟨v, e2, fun _ => h_law_1627 (kk σ2 hi), fun q => absurd rfl q⟩
  refine ⟨fun _ => ?_, fun _ => ?_⟩
  · refine h_law_1389 ⟨rfl, mv_wp_mono _ _ _ _ _ _ (fun r1 σ1 q => ?_) (h_back  i σ (by omega) hσ)⟩
    obtain ⟨v, e1, q⟩ := q
    refine ⟨v, e1, rfl, mv_wp_mono _ _ _ _ _ _ (fun r2 σ2 q => ?_) q⟩
    obtain ⟨e2, hi⟩ := q
    exact ⟨v, e2, fun _ => h_law_1627 (kk σ2 hi), fun q => absurd rfl q⟩
  refine ⟨fun _ => ?_, fun _ => ?_⟩
  · refine h_law_1402 ⟨g1, g2, g3, g4, rfl, mv_wp_mono _ _ _ _ _ _ (fun r1 σ1 q => ?_) (h_load _ _ _ _ i σ (by omega) hσ)⟩
    obtain ⟨v, e1, q⟩ := q
    refine ⟨v, e1, g1, g2, g3, g4, rfl, mv_wp_mono _ _ _ _ _ _ (fun r2 σ2 q => ?_) q⟩
    obtain ⟨e2, hi⟩ := q
    exact ⟨v, e2, fun _ => h_law_1627 (kk σ2 hi), fun q => absurd rfl q⟩
  refine ⟨fun _ => ?_, fun _ => ?_⟩
  · refine h_law_1455 ⟨g1, rfl, mv_wp_mono _ _ _ _ _ _ (fun r1 σ1 q => ?_) (h_count _ i σ (by omega) hσ)⟩
    obtain ⟨v, e1, q⟩ := q
    refine ⟨v, e1, g1, rfl, mv_wp_mono _ _ _ _ _ _ (fun r2 σ2 q => ?_) q⟩
    obtain ⟨e2, hi⟩ := q
    exact ⟨v, e2, fun _ => h_law_1627 (kk σ2 hi), fun q => absurd rfl q⟩
  refine ⟨fun _ => ?_, fun _ => ?_⟩
  · refine h_law_1478 ⟨g1, g2, g3, rfl, mv_wp_mono _ _ _ _ _ _ (fun r1 σ1 q => ?_) (h_sheet _ _ _ i σ (by omega) hσ)⟩
    obtain ⟨v, e1, q⟩ := q
    refine ⟨v, e1, g1, g2, g3, rfl, mv_wp_mono _ _ _ _ _ _ (fun r2 σ2 q => ?_) q⟩
    obtain ⟨e2, hi⟩ := q
    exact ⟨v, e2, fun _ => h_law_1627 (kk σ2 hi), fun q => absurd rfl q⟩
  refine ⟨fun _ => ?_, fun _ => ?_⟩
  · refine h_law_1521 ⟨g1, g2, g3, rfl, mv_wp_mono _ _ _ _ _ _ (fun r1 σ1 q => ?_) (h_put _ _ _ i σ (by omega) hσ)⟩
    obtain ⟨v, e1, q⟩ := q
    refine ⟨v, e1, g1, g2, g3, rfl, mv_wp_mono _ _ _ _ _ _ (fun r2 σ2 q => ?_) q⟩
    obtain ⟨e2, hi⟩ := q
    exact ⟨v, e2, fun _ => h_law_1627 (kk σ2 hi), fun q => absurd rfl q⟩
  refine ⟨fun _ => ?_, fun _ => ?_⟩
  · refine h_law_1564 ⟨g1, g2, g3, g4, g5, rfl, mv_wp_mono _ _ _ _ _ _ (fun r1 σ1 q => ?_) (h_copy _ _ _ _ _ i σ (by omega) hσ)⟩
    obtain ⟨v, e1, q⟩ := q
    refine ⟨v, e1, g1, g2, g3, g4, g5, rfl, mv_wp_mono _ _ _ _ _ _ (fun r2 σ2 q => ?_) q⟩
    obtain ⟨e2, hi⟩ := q
    exact ⟨v, e2, fun _ => h_law_1627 (kk σ2 hi), fun q => absurd rfl q⟩
  exact h_law_1627 (kk σ (h_more i σ hσ))
