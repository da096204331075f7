/-! ===== calls that ask what words do ===== -/
def sc2 (c j : Nat) : Prop := c = 10 ∨ c = 11 ∨ c = 64 ∨ (24 ≤ c ∧ c ≤ 26) ∨ (c = 12 ∧ j = 13) ∨ (c = 61 ∧ (j = 6 ∨ j = 25 ∨ j = 26 ∨ j = 29 ∨ j = 31 ∨ j = 32)) ∨ c = 74 ∨ c = 75 ∨ (77 ≤ c ∧ c ≤ 80)
def frS (σ τ : mv_S) : Prop := (∀ c j, ¬ sc2 c j → τ.1 c j = σ.1 c j) ∧ τ.2 = σ.2
theorem frS_rf (σ : mv_S) : frS σ σ := ⟨fun _ _ _ => rfl, rfl⟩
theorem frS_tr {a b c : mv_S} (h : frS a b) (g : frS b c) : frS a c := ⟨fun x j q => (g.1 x j q).trans (h.1 x j q), g.2.trans h.2⟩
def iv_G (G : Nat) (σ : mv_S) : Prop := σ.1 12 13 = nI G ∧ ∀ c, c < 256 → ∃ m, m ≤ G ∧ σ.1 24 c = nI m
def scM (c j : Nat) : Prop := sc2 c j ∨ (12 ≤ c ∧ c ≤ 23) ∨ (c = 61 ∧ (j = 7 ∨ j = 8 ∨ j = 14 ∨ j = 22 ∨ j = 23)) ∨ (65 ≤ c ∧ c ≤ 73) ∨ c = 76
def mo_P (n G : Nat) (σ σ2 : mv_S) : Prop := iv_C σ2 ∧ iv_R n σ2 ∧ (∃ G', G' ≤ G + 300 ∧ iv_G G' σ2) ∧ (∀ c j, ¬ scM c j → σ2.1 c j = σ.1 c j) ∧ ∀ c j, ¬ (c = 12 ∧ j = 14) → σ2.2 c j = σ.2 c j
theorem moC_S {M : md_T} {σ τ : mv_S} (h : ∀ c j, (c = 12 ∧ (j = 11 ∨ j = 12)) ∨ (13 ≤ c ∧ c ≤ 23) → τ.1 c j = σ.1 c j) (m : moC M σ) : moC M τ := by
  obtain ⟨⟨a1, a2, a3⟩, a4, ⟨b1, b2, b3, b4⟩, a5⟩ := m
  refine ⟨⟨?_, ?_, fun i l hi hl => ?_⟩, fun l hl => ?_, ⟨?_, ?_, fun i hi => ?_, fun c hc => ?_⟩, fun i hi => ?_⟩
  · rw [h _ _ (by omega)]; exact a1
  · rw [h _ _ (by omega)]; exact a2
  · rw [h _ _ (by omega)]; exact a3 i l hi hl
  · rw [h _ _ (by omega)]; exact a4 l hl
  · rw [h _ _ (by omega)]; exact b1
  · rw [h _ _ (by omega)]; exact b2
  · rw [h 18 _ (by omega), h 20 _ (by omega), h 21 _ (by omega), h 22 _ (by omega)]; exact b3 i hi
  · rw [h _ _ (by omega)]; exact b4 c hc
  · rw [h _ _ (by omega)]; exact a5 i hi
theorem moR_S {M : md_T} {σ τ : mv_S} (h : ∀ c j, (c = 61 ∧ (j = 7 ∨ j = 8 ∨ j = 14 ∨ j = 22)) ∨ (65 ≤ c ∧ c ≤ 73) ∨ c = 76 → τ.1 c j = σ.1 c j) (m : moR M σ) : moR M τ := by
  obtain ⟨⟨a1, a2, a3⟩, a4, ⟨b1, b2, b3, b4, b5⟩⟩ := m
  refine ⟨⟨?_, ?_, fun i l hi hl => ?_⟩, fun l hl => ?_, ⟨?_, ?_, fun i hi => ?_, fun i h0 hi => ?_, fun c hc => ?_⟩⟩
  · rw [h _ _ (by omega)]; exact a1
  · rw [h _ _ (by omega)]; exact a2
  · rw [h _ _ (by omega)]; exact a3 i l hi hl
  · rw [h _ _ (by omega)]; exact a4 l hl
  · rw [h _ _ (by omega)]; exact b1
  · rw [h _ _ (by omega)]; exact b2
  · rw [h _ _ (by omega)]; exact b3 i hi
  · rw [h 73 _ (by omega), h 72 _ (by omega)]; exact b4 i h0 hi
  · rw [h _ _ (by omega)]; exact b5 c hc
theorem rM_S {M : md_T} {σ τ : mv_S} {k : Nat} (h : ∀ j, τ.1 62 j = σ.1 62 j) (m : rf_M σ 62 k M) : rf_M τ 62 k M := ⟨(h _).trans m.1, (h _).trans m.2.1, (h _).trans m.2.2.1, fun j hj => (h _).trans (m.2.2.2 j hj)⟩
theorem iv_R_S {n : Nat} {σ τ : mv_S} (h : ∀ c j, c = 62 ∨ (c = 61 ∧ (j = 7 ∨ j = 8 ∨ j = 14 ∨ j = 22 ∨ j = 23)) ∨ (65 ≤ c ∧ c ≤ 73) ∨ c = 76 → τ.1 c j = σ.1 c j) (m : iv_R n σ) : iv_R n τ := by
  rcases m with z | ⟨k, M, hk, z, o, nn, r, mo⟩
  · exact Or.inl ((h _ _ (by omega)).trans z)
  · exact Or.inr ⟨k, M, hk, (h _ _ (by omega)).trans z, o, nn, rM_S (fun j => h _ _ (by omega)) r, moR_S (fun c j q => h c j (by omega)) mo⟩
theorem iv_C_S {σ τ : mv_S} (h : ∀ c j, (c = 12 ∧ (j = 11 ∨ j = 12)) ∨ (13 ≤ c ∧ c ≤ 23) → τ.1 c j = σ.1 c j) (h2 : τ.2 12 14 = σ.2 12 14) (m : iv_C σ) : iv_C τ := by
  rcases m with z | ⟨M, o, nn, k, mo⟩
  · exact Or.inl (h2.trans z)
  · exact Or.inr ⟨M, o, nn, h2.trans k, moC_S h mo⟩
theorem iv_G_S {G : Nat} {σ τ : mv_S} (h : τ.1 12 13 = σ.1 12 13) (h2 : ∀ c, τ.1 24 c = σ.1 24 c) (m : iv_G G σ) : iv_G G τ := ⟨h.trans m.1, fun c hc => by rw [h2 c]; exact m.2 c hc⟩
/-- both have learnt -/
theorem mo_fin {n G G' k : Nat} {M : md_T} {σ τ1 τ2 τ3 τ4 : mv_S} (hk : k < n) (hM : md_ok M) (hN : md_n M) (hr : rf_M σ 62 k M) (m1 : moC M τ1) (k1 : τ1.2 12 14 = lN (kq M 12)) (y1 : frY σ τ1) (s2 : frS τ1 τ2) (m3 : moR M τ3) (k3 : τ3.1 61 23 = nI k) (z3 : frZ τ2 τ3) (s4 : frS τ3 τ4) (hG : G' ≤ G + 300) (g4 : iv_G G' τ4) : mo_P n G σ τ4 := by
  have cC : ∀ c j, (c = 12 ∧ (j = 11 ∨ j = 12)) ∨ (13 ≤ c ∧ c ≤ 23) → τ4.1 c j = τ1.1 c j := fun c j q => by
    rw [s4.1 c j (by unfold sc2; omega), z3.1 c j (by omega) (by omega) (by omega), s2.1 c j (by unfold sc2; omega)]
  have l2 : τ4.2 = τ1.2 := s4.2.trans (z3.2.trans s2.2)
  have c62 : ∀ j, τ4.1 62 j = σ.1 62 j := fun j => by
    rw [s4.1 62 j (by unfold sc2; omega), z3.1 62 j (by omega) (by omega) (by omega), s2.1 62 j (by unfold sc2; omega), y1.1 62 j (by omega) (by omega)]
  refine ⟨Or.inr ⟨M, hM, hN, by rw [l2]; exact k1, moC_S cC m1⟩, Or.inr ⟨k, M, hk, (s4.1 61 23 (by unfold sc2; omega)).trans k3, hM, hN, rM_S c62 hr, moR_S (fun c j q => s4.1 c j (by unfold sc2; omega)) m3⟩, ⟨G', hG, g4⟩, fun c j q => ?_, fun c j q => ?_⟩
  · unfold scM at q
    rw [s4.1 c j (fun z => q (Or.inl z)), z3.1 c j (by omega) (by omega) (by omega), s2.1 c j (fun z => q (Or.inl z)), y1.1 c j (by omega) (by omega)]
  · rw [l2]; exact y1.2 c j q
/-- the class alone has learnt -/
theorem mo_fin0 {n G G' : Nat} {M : md_T} {σ τ1 τ2 : mv_S} (hM : md_ok M) (hN : md_n M) (hR : iv_R n σ) (m1 : moC M τ1) (k1 : τ1.2 12 14 = lN (kq M 12)) (y1 : frY σ τ1) (s2 : frS τ1 τ2) (hG : G' ≤ G + 300) (g2 : iv_G G' τ2) : mo_P n G σ τ2 := by
  refine ⟨Or.inr ⟨M, hM, hN, by rw [s2.2]; exact k1, moC_S (fun c j q => s2.1 c j (by unfold sc2; omega)) m1⟩, iv_R_S (fun c j q => ?_) hR, ⟨G', hG, g2⟩, fun c j q => ?_, fun c j q => ?_⟩
  · rw [s2.1 c j (by unfold sc2; omega), y1.1 c j (by omega) (by omega)]
  · unfold scM at q
    rw [s2.1 c j (fun z => q (Or.inl z)), y1.1 c j (by omega) (by omega)]
  · rw [s2.2]; exact y1.2 c j q
theorem mo_same {n G : Nat} {σ : mv_S} (hC : iv_C σ) (hR : iv_R n σ) (hG : iv_G G σ) : mo_P n G σ σ := ⟨hC, hR, ⟨G, by omega, hG⟩, fun _ _ _ => rfl, fun _ _ _ => rfl⟩
theorem G_Y {G : Nat} {σ τ : mv_S} (h : frY σ τ) (m : iv_G G σ) : iv_G G τ := iv_G_S (h.1 _ _ (by omega) (by omega)) (fun c => h.1 _ _ (by omega) (by omega)) m
theorem G_Z {G : Nat} {σ τ : mv_S} (h : frZ σ τ) (m : iv_G G σ) : iv_G G τ := iv_G_S (h.1 _ _ (by omega) (by omega) (by omega)) (fun c => h.1 _ _ (by omega) (by omega) (by omega)) m
theorem G_W {G : Nat} {σ τ : mv_S} (h : frW σ τ) (m : iv_G G σ) : iv_G G τ := iv_G_S (h.1 _ _ (by omega) (by omega)) (fun c => h.1 _ _ (by omega) (by omega)) m
theorem G_10 {G : Nat} {σ τ : mv_S} (h : fr1 10 σ τ) (m : iv_G G σ) : iv_G G τ := iv_G_S (h _ _ (by omega)) (fun c => h _ _ (by omega)) m
theorem S_W {σ τ : mv_S} (h : frW σ τ) : frS σ τ := ⟨fun c j q => h.1 c j (fun z => q (by unfold sc2; omega)) (fun z => q (by unfold sc2; omega)), h.2⟩
theorem S_10 {σ τ : mv_S} (h : fr1 10 σ τ) (h2 : τ.2 = σ.2) : frS σ τ := ⟨fun c j q => h c j (fun z => q (by unfold sc2; omega)), h2⟩
/-! products of elements -/
section PROD
variable {g : Nat → Nat}
theorem eF_mem {i j : Nat} (hi : i < (eF g).1) : ∀ j, j < (eF g).1 → ∃ k, k < (eF g).1 ∧ (eF g).2.1 k = th ((eF g).2.1 i) ((eF g).2.1 j) := by
  intro j
  induction j using Nat.strongRecOn with
  | ind j ih =>
    intro hj
    by_cases e : j = 0
    · subst e
      refine ⟨i, hi, ?_⟩
      rw [eF_0.1, th_id2 (eF_q hi)]
    · obtain ⟨s1, s2⟩ := eF_src (g := g) (k := j) (by omega) hj
      obtain ⟨k, hk, ek⟩ := ih ((eF g).2.2 j / 3) s1 (by omega)
      obtain ⟨k2, hk2, ek2⟩ := eF_closed (g := g) (i := k) (j := (eF g).2.2 j % 3) hk (by omega)
      refine ⟨k2, hk2, ?_⟩
      rw [ek2, s2]
      unfold enx
      rw [ek, th_assoc]
/-- the number of a product -/
def pd (g : Nat → Nat) (i j : Nat) : Nat := bf_ix (eF g) (th ((eF g).2.1 i) ((eF g).2.1 j))
theorem pd_lt {i j : Nat} (hi : i < (eF g).1) (hj : j < (eF g).1) : pd g i j < (eF g).1 := (bf_ix_iff _ _).mpr (eF_mem (j := 0) hi j hj)
theorem pd_cd {i j : Nat} (hi : i < (eF g).1) (hj : j < (eF g).1) : (eF g).2.1 (pd g i j) = th ((eF g).2.1 i) ((eF g).2.1 j) := by
  unfold pd
  exact bf_ix_at ((bf_ix_iff _ _).mpr (eF_mem (j := 0) hi j hj))
theorem cd_ne {i j : Nat} (hi : i < (eF g).1) (hj : j < (eF g).1) : (eF g).2.1 i = (eF g).2.1 j ↔ i = j := by
  constructor
  · intro h
    rcases Nat.lt_trichotomy i j with z | z | z
    · exact absurd h (eF_inj i j z hj)
    · exact z
    · exact absurd h.symm (eF_inj j i z hi)
  · intro h; rw [h]
theorem ix_cd {i : Nat} (hi : i < (eF g).1) : bf_ix (eF g) ((eF g).2.1 i) = i := bf_ix_eq eF_inj hi rfl
def inm (g : Nat → Nat) (c : Nat) : Prop := ∃ k, k < (eF g).1 ∧ (eF g).2.1 k = c
theorem inm_lt {c : Nat} (h : inm g c) : c < 256 := by obtain ⟨k, hk, rfl⟩ := h; exact eF_q hk
theorem inm_th {a b : Nat} (ha : inm g a) (hb : inm g b) : inm g (th a b) := by
  obtain ⟨i, hi, rfl⟩ := ha
  obtain ⟨j, hj, rfl⟩ := hb
  exact eF_mem (j := 0) hi j hj
theorem inm_l {l : Nat} (hl : l < 3) (hg : g l < 256) : inm g (g l) := by
  have := eF_closed (g := g) (i := 0) (j := l) eF_pos hl
  rw [eF_0.1] at this
  unfold enx at this
  rw [th_id1 hg] at this
  exact this
theorem inm_1 : inm g 228 := ⟨0, eF_pos, eF_0.1⟩
theorem inm_ix {c : Nat} (h : inm g c) : bf_ix (eF g) c < (eF g).1 ∧ (eF g).2.1 (bf_ix (eF g) c) = c := ⟨(bf_ix_iff _ _).mpr h, bf_ix_at ((bf_ix_iff _ _).mpr h)⟩
end PROD
section MOPS
variable {X : mv_X} {d : Nat} {σ : mv_S} {Q : mv_Q} {M : md_T}
theorem c_number {c : Nat} (m : moC M σ) (hc : inm (gL M) c) (hQ : Q (some (.int (nI (bf_ix (eF (gL M)) c)))) σ) : mv_wp X (d + 1) 58 [.ref 12, .int (nI c)] σ Q := by
  refine s_numberOf (inm_lt hc) ?_
  rw [m.2.2.1.2.2.2 c (inm_lt hc), if_pos (inm_ix hc).1]
  exact hQ
theorem c_code {i : Nat} (m : moC M σ) (hi : i < (eF (gL M)).1) (hQ : Q (some (.int (nI ((eF (gL M)).2.1 i)))) σ) : mv_wp X (d + 1) 57 [.ref 12, .int (nI i)] σ Q := by
  have := eF_le (g := gL M)
  refine s_codeOf (by omega) ?_
  rw [(m.2.2.1.2.2.1 i hi).1]
  exact hQ
theorem c_omega {i : Nat} (m : moC M σ) (hi : i < (eF (gL M)).1) (hQ : Q (some (.int (nI (om ((eF (gL M)).2.1 i))))) σ) : mv_wp X (d + 1) 59 [.ref 12, .int (nI ((eF (gL M)).2.1 i))] σ Q := by
  refine s_omegaOf (eF_q hi) ?_
  rw [m.2.2.2 i hi]
  exact hQ
theorem c_has {x : Int32} (m : moC M σ) (hQ : Q (some (.int (if 0 ≤ x.toInt ∧ x.toInt ≤ ((eF (gL M)).1 : Int) - 1 then 1 else 0))) σ) : mv_wp X (d + 1) 56 [.ref 12, .int x] σ Q := by
  have hle := eF_le (g := gL M)
  refine (w_Monoid_hasElement _ _ _ _ _).mpr ?_
  rw [m.2.2.1.1]
  rcases ix_cs x (eF (gL M)).1 (by omega) with ⟨c1, c2⟩ | ⟨k, hk, rfl, c1⟩
  · rw [if_neg c2] at hQ
    by_cases h1 : x < 0
    · exact ⟨fun _ => ⟨Or.inl rfl, hQ⟩, fun z => absurd h1 z⟩
    · have h2 := c1.resolve_left h1
      exact ⟨fun z => absurd z h1, fun _ => ⟨rfl, fun _ => ⟨Or.inl rfl, hQ⟩, fun z => absurd h2 z⟩⟩
  · rw [if_pos c1] at hQ
    exact ⟨fun z => absurd z (nI_pos (by omega)), fun _ => ⟨rfl, fun z => absurd z (nI_ge hk (by omega)), fun _ => ⟨Or.inr rfl, hQ⟩⟩⟩
theorem r_isElement {x : Int32} (m : moR M σ) (hQ : Q (some (.int (if 0 ≤ x.toInt ∧ x.toInt ≤ ((eF (gL M)).1 : Int) - 1 then 1 else 0))) σ) : mv_wp X (d + 2) 181 [.ref 61, .int x] σ Q := by
  have hle := eF_le (g := gL M)
  refine (w_Ref_isElement _ _ _ _ _).mpr ⟨rfl, ?_⟩
  rw [m.2.2.1, r_inI rfl (pt_l (by omega))]
  exact ⟨_, rfl, bI_01 _, hQ⟩
theorem r_num {c : Nat} (hM : md_ok M) (m : moR M σ) (hc : inm (gL M) c) : σ.1 71 (c % 4 ^ (lF M).1) = nI (bf_ix (eF (gL M)) c) := by
  have hg : ∀ l, l < 3 → fx (lF M).1 (gL M l) := fun l hl => gL_fx hM hl
  have hS : ∀ i, i < (eF (gL M)).1 → fx (lF M).1 ((eF (gL M)).2.1 i) := fun i hi => by
    rw [eF_eq] at hi ⊢
    rw [← eS_eq] at hi ⊢
    exact eS_fx hg hi
  have hcx : fx (lF M).1 c := by obtain ⟨k, hk, rfl⟩ := hc; exact hS k hk
  rw [m.2.2.2.2.2.2 _ (fx_256 hcx), bfm_ix (lF_4 hM) hS hcx, if_pos (inm_ix hc).1]
theorem fx_in (hM : md_ok M) {c : Nat} (hc : inm (gL M) c) : fx (lF M).1 c := by
  have hg : ∀ l, l < 3 → fx (lF M).1 (gL M l) := fun l hl => gL_fx hM hl
  have hS : ∀ i, i < (eF (gL M)).1 → fx (lF M).1 ((eF (gL M)).2.1 i) := fun i hi => by
    rw [eF_eq] at hi ⊢
    rw [← eS_eq] at hi ⊢
    exact eS_fx hg hi
  obtain ⟨k, hk, e⟩ := hc
  rw [← e]
  exact hS k hk
theorem r_beh {a b : Nat} (hM : md_ok M) (m : moR M σ) (ha : inm (gL M) a) (hb : inm (gL M) b) (hQ : Q (some (.int (nI (th a b % 4 ^ (lF M).1)))) σ) : mv_wp X (d + 2) 174 [.ref 61, .int (nI (a % 4 ^ (lF M).1)), .int (nI (b % 4 ^ (lF M).1))] σ Q := by
  refine r_behind (lF_4 hM) m.1.1 (fx_256 (fx_in hM ha)) (fx_256 (fx_in hM hb)) ?_
  rw [thn_mod (lF_4 hM) (fx_in hM ha)]
  exact hQ
theorem r_timesOf {i j : Nat} (hM : md_ok M) (m : moR M σ) (hi : i < (eF (gL M)).1) (hj : j < (eF (gL M)).1) (hQ : Q (some (.int (nI (pd (gL M) i j)))) σ) : mv_wp X (d + 3) 177 [.ref 61, .int (nI i), .int (nI j)] σ Q := by
  have hle := eF_le (g := gL M)
  refine (w_Ref_timesOf _ _ _ _ _ _).mpr ?_
  rw [nI_clamp (by omega), nI_clamp (by omega), m.2.2.2.2.1 i hi, m.2.2.2.2.1 j hj]
  refine ⟨rfl, rfl, ⟨rfl, vp_in_nI (N := 256) (by omega) (by omega)⟩, rfl, ⟨rfl, vp_in_nI (N := 256) (by omega) (by omega)⟩, rfl, ?_⟩
  have hin : inm (gL M) (th ((eF (gL M)).2.1 i) ((eF (gL M)).2.1 j)) := inm_th ⟨i, hi, rfl⟩ ⟨j, hj, rfl⟩
  have h256 := fx_256 (fx_in hM hin)
  refine r_beh hM m ⟨i, hi, rfl⟩ ⟨j, hj, rfl⟩ ⟨_, rfl, ⟨rfl, vp_in_nI (N := 256) h256 (by omega)⟩, ?_⟩
  rw [nI_clamp (by omega), r_num hM m hin]
  exact hQ
theorem s_learnt_no {n : Nat} {x : Int32} (h : σ.1 0 10 = nI n) (hx : x < 0 ∨ nI n ≤ x) (hQ : Q (some (.int 0)) σ) : mv_wp X (d + 2) 139 [.ref 0, .int x] σ Q := by
  refine (w_WM_learnt _ _ _ _ _).mpr ⟨rfl, ?_⟩
  exact (s_machineAt_no h hx).mpr (Or.inl ⟨rfl, Or.inl rfl, hQ⟩)
theorem s_learnt_ok {n k : Nat} {Ms : Nat → md_T} (h : iv_M n Ms σ) (hC : iv_C σ) (hk : k < n) (hQ : ∀ τ, moC (nrm (Ms k)) τ → τ.2 12 14 = lN (kq (nrm (Ms k)) 12) → frY σ τ → Q (some (.int 1)) τ) : mv_wp X (d + 6) 139 [.ref 0, .int (nI k)] σ Q := by
  obtain ⟨b1, b2, b3, b4⟩ := h
  obtain ⟨m1, m2, m3⟩ := b4 k hk
  have ht : mc_at (33 + 4 * k) := (mc_now k (by omega)).1
  refine (w_WM_learnt _ _ _ _ _).mpr ⟨rfl, ?_⟩
  refine (s_machineAt_ok b2 b1 hk).mpr (Or.inr ⟨_, rfl, rfl, rfl, ?_⟩)
  exact s_learn ht (by omega) (nrm_ok m1) (nrm_n _) (nrm_cl m2) hC (fun τ q1 q2 q3 => ⟨rfl, Or.inr rfl, hQ τ q1 q2 q3⟩)
/-- what stands behind the class's learning -/
theorem af_R {n k : Nat} {τ1 τ2 : mv_S} (hR : iv_R n σ) (hr : rf_M σ 62 k M) (h61 : σ.1 61 1 = nI n) (y1 : frY σ τ1) (s2 : frS τ1 τ2) : iv_R n τ2 ∧ rf_M τ2 62 k M ∧ τ2.1 61 1 = nI n := by
  refine ⟨iv_R_S (fun c j q => ?_) hR, rM_S (fun j => ?_) hr, ?_⟩
  · rw [s2.1 c j (by unfold sc2; omega), y1.1 c j (by omega) (by omega)]
  · rw [s2.1 _ _ (by unfold sc2; omega), y1.1 _ _ (by omega) (by omega)]
  · rw [s2.1 _ _ (by unfold sc2; omega), y1.1 _ _ (by omega) (by omega)]; exact h61
theorem op_size {n G : Nat} {Ms : Nat → md_T} {a1 : Int32} (h : iv_M n Ms σ) (hC : iv_C σ) (hR : iv_R n σ) (hG : iv_G G σ) : lw_op X (d + 20) (mo_P n G σ) 106 182 [.int a1] σ := by
  unfold lw_op
  have h9 := h
  obtain ⟨b1, b2, b3, b4⟩ := h9
  refine (w_WM_size _ _ _ _ _).mpr ⟨rfl, ?_⟩
  rcases ix_cs a1 n (by omega) with ⟨c1, c2⟩ | ⟨k, hk, rfl, c1⟩
  · refine s_learnt_no b2 c1 ⟨_, rfl, fun _ => ⟨_, rfl, ?_⟩, fun z => absurd rfl z⟩
    refine (w_Ref_size _ _ _ _ _).mpr ⟨rfl, ?_⟩
    rw [r_isMachine b3 b1, if_neg c2]
    exact ⟨_, rfl, fun z => absurd rfl z, fun _ => ⟨rfl, mo_same hC hR hG⟩⟩
  obtain ⟨m1, m2, m3⟩ := b4 k hk
  have hM := nrm_ok m1
  have hN := nrm_n (Ms k)
  have hr := nrm_rf m3
  refine s_learnt_ok h hC hk (fun τ1 e1 e2 e3 => ⟨_, rfl, fun z => absurd z (by decide), fun _ => ⟨rfl, rfl, _, rfl, ?_⟩⟩)
  obtain ⟨f1, f2, f3⟩ := af_R hR hr b3 e3 (frS_rf τ1)
  refine (w_Ref_size _ _ _ _ _).mpr ⟨rfl, ?_⟩
  rw [r_isMachine f3 b1, if_pos c1]
  refine ⟨_, rfl, fun _ => ⟨rfl, ?_⟩, fun z => absurd z (by decide)⟩
  refine r_findsElements hk b1 hM hN f2 f1 (fun τ3 g1 g2 g3 => ⟨rfl, rfl, ?_⟩)
  rw [g1.2.2.1, e1.2.2.1.1]
  exact ⟨rfl, mo_fin hk hM hN hr e1 e2 e3 (frS_rf _) g1 g2 g3 (frS_rf _) (Nat.le_add_right _ _) (G_Z g3 (G_Y e3 hG))⟩
theorem op_times {n G : Nat} {Ms : Nat → md_T} {a1 a2 a3 : Int32} (h : iv_M n Ms σ) (hC : iv_C σ) (hR : iv_R n σ) (hG : iv_G G σ) : lw_op X (d + 20) (mo_P n G σ) 109 186 [.int a1, .int a2, .int a3] σ := by
  unfold lw_op
  have h9 := h
  obtain ⟨b1, b2, b3, b4⟩ := h9
  refine (w_WM_times _ _ _ _ _ _ _).mpr ⟨rfl, ?_⟩
  rcases ix_cs a1 n (by omega) with ⟨c1, c2⟩ | ⟨k, hk, rfl, c1⟩
  · refine s_learnt_no b2 c1 ⟨_, rfl, fun _ => ⟨_, rfl, ?_⟩, fun z => absurd rfl z⟩
    refine (w_Ref_times _ _ _ _ _ _ _).mpr ⟨rfl, ?_⟩
    rw [r_isMachine b3 b1, if_neg c2]
    exact ⟨_, rfl, fun z => absurd rfl z, fun _ => ⟨rfl, mo_same hC hR hG⟩⟩
  obtain ⟨m1, m2, m3⟩ := b4 k hk
  have hM := nrm_ok m1
  have hN := nrm_n (Ms k)
  have hr := nrm_rf m3
  have hle := eF_le (g := gL (nrm (Ms k)))
  refine s_learnt_ok h hC hk (fun τ1 e1 e2 e3 => ⟨_, rfl, fun z => absurd z (by decide), fun _ => ⟨rfl, rfl, ?_⟩⟩)
  obtain ⟨f1, f2, f3⟩ := af_R hR hr b3 e3 (frS_rf τ1)
  have rf : ∀ (Q : mv_Q), (∀ τ3, moR (nrm (Ms k)) τ3 → mo_P n G σ τ3 → mv_wp X (d + 19) 181 [.ref 61, .int a2] τ3 (fun r3 σ3 => ∃ v3, r3 = some (.int v3) ∧ ((v3 = 0 → Q (some (.int (-2))) σ3) ∧ (¬ v3 = 0 → mv_sh 61 = 12 ∧ mv_wp X (d + 19) 181 [.ref 61, .int a3] σ3 (fun r4 σ4 => ∃ v4, r4 = some (.int v4) ∧ ((v4 = 0 → Q (some (.int (-2))) σ4) ∧ (¬ v4 = 0 → mv_sh 61 = 12 ∧ mv_wp X (d + 19) 177 [.ref 61, .int a2, .int a3] σ4 (fun r5 σ5 => ∃ v5, r5 = some (.int v5) ∧ (Q (some (.int v5)) σ5))))))))) → mv_wp X (d + 20) 186 [.ref 61, .int (nI k), .int a2, .int a3] τ1 Q := by
    intro Q hh
    refine (w_Ref_times _ _ _ _ _ _ _).mpr ⟨rfl, ?_⟩
    rw [r_isMachine f3 b1, if_pos c1]
    refine ⟨_, rfl, fun _ => ⟨rfl, ?_⟩, fun z => absurd z (by decide)⟩
    refine r_findsElements hk b1 hM hN f2 f1 (fun τ3 g1 g2 g3 => ⟨rfl, rfl, ?_⟩)
    exact hh τ3 g1 (mo_fin hk hM hN hr e1 e2 e3 (frS_rf _) g1 g2 g3 (frS_rf _) (Nat.le_add_right _ _) (G_Z g3 (G_Y e3 hG)))
  refine c_has e1 ?_
  rcases ix_cs a2 (eF (gL (nrm (Ms k)))).1 (by omega) with ⟨i1, i2⟩ | ⟨i, hi, rfl, i1⟩
  · rw [if_neg i2]
    refine ⟨_, rfl, fun _ => ⟨_, rfl, rf _ (fun τ3 g1 g2 => ?_)⟩, fun z => absurd rfl z⟩
    refine r_isElement g1 ?_
    rw [if_neg i2]
    exact ⟨_, rfl, fun _ => ⟨rfl, g2⟩, fun z => absurd rfl z⟩
  rw [if_pos i1]
  refine ⟨_, rfl, fun z => absurd z (by decide), fun _ => ⟨rfl, rfl, ?_⟩⟩
  refine c_has e1 ?_
  rcases ix_cs a3 (eF (gL (nrm (Ms k)))).1 (by omega) with ⟨j1, j2⟩ | ⟨j, hj, rfl, j1⟩
  · rw [if_neg j2]
    refine ⟨_, rfl, fun z => absurd rfl z, fun _ => ⟨_, rfl, rf _ (fun τ3 g1 g2 => ?_)⟩⟩
    refine r_isElement g1 ?_
    rw [if_pos i1]
    refine ⟨_, rfl, fun z => absurd z (by decide), fun _ => ⟨rfl, ?_⟩⟩
    refine r_isElement g1 ?_
    rw [if_neg j2]
    exact ⟨_, rfl, fun _ => ⟨rfl, g2⟩, fun z => absurd rfl z⟩
  rw [if_pos j1]
  refine ⟨_, rfl, fun _ => ⟨rfl, rfl, rfl, ?_⟩, fun z => absurd z (by decide)⟩
  refine c_code e1 hi ⟨_, rfl, rfl, rfl, ?_⟩
  refine c_code e1 hj ⟨_, rfl, ?_⟩
  refine (s_then (eF_q hi) (eF_q hj)).mpr ⟨_, rfl, rfl, ?_⟩
  refine c_number e1 (inm_th ⟨i, hi, rfl⟩ ⟨j, hj, rfl⟩) ⟨_, rfl, _, rfl, rf _ (fun τ3 g1 g2 => ?_)⟩
  refine r_isElement g1 ?_
  rw [if_pos i1]
  refine ⟨_, rfl, fun z => absurd z (by decide), fun _ => ⟨rfl, ?_⟩⟩
  refine r_isElement g1 ?_
  rw [if_pos j1]
  refine ⟨_, rfl, fun z => absurd z (by decide), fun _ => ⟨rfl, ?_⟩⟩
  exact r_timesOf hM g1 hi hj ⟨_, rfl, rfl, g2⟩
end MOPS
