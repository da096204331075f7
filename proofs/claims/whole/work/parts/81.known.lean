/-! ===== what is known: the class ===== -/
def knx (k v : Nat) (M : md_T) (x l : Nat) : Nat := 4 * kn k v (x / 4) l + M.2.2.2 (3 * (x % 4) + l)
def kS (k v : Nat) (M : md_T) (s : Nat) : bf_T := bf (knx k v M) M.2.1 3 s
def kF (k v : Nat) (M : md_T) : bf_T := kS k v M (3 * 6460)
def knd (k v : Nat) (M : md_T) (x : Nat) : Prop := kin k v (x / 4) ∧ x % 4 < M.1
section KNOWNP
variable {k v : Nat} {M : md_T}
theorem kS_eq (s : Nat) : kS k v M s = bf (knx k v M) M.2.1 3 s := by unfold kS; rfl
theorem kF_eq : kF k v M = bf (knx k v M) M.2.1 3 (3 * 6460) := by unfold kF kS; rfl
theorem kS_nd (hk : k < 2) (hv : v < 3) (hM : md_ok M) (s i : Nat) (hi : i < (kS k v M s).1) : knd k v M ((kS k v M s).2.1 i) := by
  rw [kS_eq] at hi ⊢
  obtain ⟨o1, o2, o3, o4, o5, o6⟩ := hM
  refine bf_all (P := knd k v M) (by decide) ?_ (fun x j hx hj => ?_) s i hi
  · refine ⟨?_, by omega⟩
    rw [show M.2.1 / 4 = 0 by omega]
    exact kin_0 k hk v hv
  · obtain ⟨h1, h2⟩ := hx
    have h3 := o6 (3 * (x % 4) + j) (by omega)
    have h4 := ((kin_all hk hv h1).2.2.2 j hj).1
    unfold knx
    refine ⟨?_, by omega⟩
    rw [show (4 * kn k v (x / 4) j + M.2.2.2 (3 * (x % 4) + j)) / 4 = kn k v (x / 4) j by omega]
    exact h4
theorem kS_le (hk : k < 2) (hv : v < 3) (hM : md_ok M) (s : Nat) : (kS k v M s).1 ≤ 6460 := by
  refine Nat.le_trans (pg_cnt (fun x => (kB k v).testBit (x / 4)) (4 * 8192) _ (kS k v M s).2.1 (fun i hi => ?_) ?_) (kcnt hk hv)
  · have h := kS_nd hk hv hM s i hi
    have := kin_lt hk hv h.1
    exact ⟨by omega, h.1⟩
  · rw [kS_eq]; exact bf_inj s
theorem kS_in (s : Nat) : bf_In (kS k v M s) := by rw [kS_eq]; exact bf_inj s
theorem kS_end {h : Nat} (h1 : h ≤ 6460) (e : (kS k v M (3 * h)).1 = h) : kS k v M (3 * h) = kF k v M := by
  rw [kF_eq, kS_eq]
  rw [kS_eq] at e
  have := bf_done (nx := knx k v M) (q0 := M.2.1) (J := 3) (s := 3 * h) (by decide) (by rw [e]; exact Nat.le_refl _) (3 * 6460 - 3 * h)
  rw [show 3 * h + (3 * 6460 - 3 * h) = 3 * 6460 by omega] at this
  exact this.symm
theorem kS_up {s : Nat} (h : s / 3 < (kS k v M s).1) : kS k v M (s + 1) = bf_up (kS k v M s) (knx k v M ((kS k v M s).2.1 (s / 3)) (s % 3)) s := by
  rw [kS_eq, kS_eq]
  rw [kS_eq] at h
  rw [bf_s]; unfold bf_st bf_up; rw [if_pos h]
theorem kS_room (hk : k < 2) (hv : v < 3) (hM : md_ok M) {s : Nat} (h : s / 3 < (kS k v M s).1) (h2 : ¬ bf_ix (kS k v M s) (knx k v M ((kS k v M s).2.1 (s / 3)) (s % 3)) < (kS k v M s).1) : (kS k v M s).1 < 6460 := by
  have h3 := kS_le hk hv hM (s + 1)
  rw [kS_up h] at h3
  unfold bf_up at h3
  rw [if_neg h2, add_1] at h3
  omega
theorem kS_q {s i : Nat} (t : Nat) (hi : i < (kS k v M s).1) : i < (kS k v M (s + t)).1 ∧ (kS k v M (s + t)).2.1 i = (kS k v M s).2.1 i := by
  have m := bf_mono (nx := knx k v M) (q0 := M.2.1) (J := 3) s t
  rw [← kS_eq, ← kS_eq] at m
  exact ⟨Nat.lt_of_lt_of_le hi m.1, (m.2 i hi).1⟩
end KNOWNP
/-- the bits of a sort -/
def kT (T0 : Nat → Nat → Bool) (sh : Nat) (S : bf_T) (c b : Nat) : Bool := if sh ≤ b ∧ b < sh + 4 then decide (bf_ix S (4 * c + (b - sh)) < S.1) else T0 c b
def kC (T0 : Nat → Nat → Bool) (sh : Nat) (S : bf_T) (σ : mv_S) : Prop := (∀ i, i < S.1 → σ.1 29 i = nI (S.2.1 i)) ∧ ∀ c, c < 4609 → σ.1 28 c = sB (bs (kT T0 sh S c) 8)
def frK (σ τ : mv_S) : Prop := (∀ c j, ¬ c = 28 → ¬ c = 29 → τ.1 c j = σ.1 c j) ∧ τ.2 = σ.2
theorem frK_tr {a b c : mv_S} (h : frK a b) (g : frK b c) : frK a c := ⟨fun x j q1 q2 => (g.1 x j q1 q2).trans (h.1 x j q1 q2), g.2.trans h.2⟩
theorem frK_cl {σ τ : mv_S} {t : Nat} {M : md_T} (h : frK σ τ) (ht : 33 ≤ t) (m : cl_M σ t M) : cl_M τ t M := ⟨(h.1 _ _ (by omega) (by omega)).trans m.1, (h.1 _ _ (by omega) (by omega)).trans m.2.1, (h.1 _ _ (by omega) (by omega)).trans m.2.2.1, fun j hj => (h.1 _ _ (by omega) (by omega)).trans (m.2.2.2 j hj)⟩
section KNOWNC
variable {X : mv_X} {d : Nat} {σ : mv_S} {Q : mv_Q} {k v : Nat} {M : md_T}
theorem c_reach {T0 : Nat → Nat → Bool} {sh c p s : Nat} {S : bf_T} (hs : sh = 0 ∨ sh = 4) (h : kC T0 sh S σ) (hc : c < 4609) (hp : p < 4) (hr : ¬ bf_ix S (4 * c + p) < S.1 → S.1 < 6460) (hS : S.1 ≤ 6460)
    (hQ : ∀ τ, kC T0 sh (bf_up S (4 * c + p) s) τ → frK σ τ → Q (some (.int (nI (bf_up S (4 * c + p) s).1))) τ) : mv_wp X (d + 1) 91 [.ref 27, .int (nI c), .int (nI p), .int (nI sh), .int (nI S.1)] σ Q := by
  obtain ⟨h1, h2⟩ := h
  have stay : bf_ix S (4 * c + p) < S.1 → Q (some (.int (nI S.1))) σ := by
    intro z
    have := hQ σ
    unfold bf_up at this
    rw [if_pos z] at this
    exact this ⟨h1, h2⟩ ⟨fun _ _ _ _ => rfl, rfl⟩
  refine (w_Known_reach _ _ _ _ _ _ _ _).mpr ⟨fun z => absurd z (nI_pos (by omega)), fun _ => ⟨fun z => absurd z (nI_ge (b := 4609) (by omega) (by omega)), fun _ => ⟨fun z => absurd z (nI_pos (by omega)), fun _ => ⟨fun zz => ⟨rfl, ?_⟩, fun z => ?_⟩⟩⟩⟩
  case refine_2 =>
    refine stay (Classical.byContradiction fun y => z ?_)
    exact nI_lt (b := 6460) (hr y) (by omega)
  have hb := bs_lt (kT T0 sh S c) 8
  have tbk : (bs (kT T0 sh S c) 8).testBit (p + sh) = decide (bf_ix S (4 * c + p) < S.1) := by
    rw [bs_tb, decide_eq_true (by omega), Bool.true_and]
    unfold kT
    rw [if_pos (by omega), show p + sh - sh = p by omega]
  have vc : mv_sh 28 = 21 ∧ (mv_sh 28 = 21 ∨ mv_sh 28 = 22) ∧ vp_in (nI c) (mv_ln 28) := ⟨rfl, Or.inl rfl, vp_in_nI (N := 4609) (by omega) (by omega)⟩
  rw [nI_clamp (n := c) (by omega), h2 c hc, nI_add, sB_t _ (by omega) _ (by omega), tbk]
  refine ⟨vc, fun z => ?_, fun z => ?_⟩
  case refine_2 => exact stay (Classical.byContradiction fun y => z (decide_eq_false y))
  have hn : ¬ bf_ix S (4 * c + p) < S.1 := of_decide_eq_false z
  have hroom := hr hn
  refine ⟨rfl, vc, vc, rfl, ⟨rfl, vp_in_nI (N := 6460) (by omega) (by omega)⟩, ?_⟩
  rw [sB_s _ (by omega) _ (by omega), nI_clamp (n := S.1) (by omega), show (4 : Int32) = nI 4 from rfl, pk_mul, nI_add, nI_1]
  have eu : bf_up S (4 * c + p) s = bf_add S (4 * c + p) s := if_neg hn
  rw [eu, add_1] at hQ
  have mem : ∀ y, (bf_ix (bf_add S (4 * c + p) s) y < (bf_add S (4 * c + p) s).1) ↔ bf_ix S y < S.1 ∨ y = 4 * c + p := by
    intro y
    rw [← eu, bf_ix_iff, up_mem, bf_ix_iff]
  rw [Nat.mul_comm c 4]
  refine hQ _ ⟨fun i hi => ?_, fun c' hc' => ?_⟩ ⟨fun x j q1 q2 => by rw [mv_rn (by omega), mv_rn (by omega)], rfl⟩
  · rw [add_1] at hi
    by_cases e : i = S.1
    · rw [e, mv_rd, (add_n _ _ _).1]
    · rw [mv_rn (by omega), mv_rn (by omega), (add_o _ _ _ e).1]
      exact h1 i (by omega)
  · rw [mv_rn (by omega)]
    by_cases e : c' = c
    · rw [e, mv_rd]
      congr 1
      refine Nat.eq_of_testBit_eq (fun j => ?_)
      rw [Nat.testBit_or, Nat.testBit_two_pow, bs_tb, bs_tb]
      by_cases ej : j < 8
      · rw [decide_eq_true ej, Bool.true_and, Bool.true_and]
        unfold kT
        by_cases eb : sh ≤ j ∧ j < sh + 4
        · rw [if_pos eb, if_pos eb]
          have m := mem (4 * c + (j - sh))
          by_cases ein : bf_ix S (4 * c + (j - sh)) < S.1
          · rw [decide_eq_true ein, decide_eq_true (m.mpr (Or.inl ein)), Bool.true_or]
          · rw [decide_eq_false ein, Bool.false_or]
            by_cases ep : p + sh = j
            · rw [decide_eq_true ep, decide_eq_true (m.mpr (Or.inr (by omega)))]
            · rw [decide_eq_false ep, decide_eq_false (fun y => (m.mp y).elim ein (by omega))]
        · rw [if_neg eb, if_neg eb, decide_eq_false (by omega), Bool.or_false]
      · rw [decide_eq_false ej, Bool.false_and, Bool.false_and, decide_eq_false (by omega)]; rfl
    · rw [mv_rn (by omega), h2 c' hc']
      congr 1
      refine bs_cg 8 (fun j hj => ?_)
      unfold kT
      by_cases eb : sh ≤ j ∧ j < sh + 4
      · rw [if_pos eb, if_pos eb]
        have m := mem (4 * c' + (j - sh))
        by_cases ein : bf_ix S (4 * c' + (j - sh)) < S.1
        · rw [decide_eq_true ein, decide_eq_true (m.mpr (Or.inl ein))]
        · rw [decide_eq_false ein, decide_eq_false (fun y => (m.mp y).elim ein (by omega))]
      · rw [if_neg eb, if_neg eb]
theorem c_subw {x l : Int32} (hQ : Q (some (.int (kfS x l))) σ) : mv_wp X (d + 1) 93 [.int x, .int l] σ Q := by
  have st : ∀ y a, y < 3 → mv_wf X (mv_wp X d) m_Known_nextSubwords Q 8 [.int x, .int l, .int (kst x l y a), .int (nI (y + 1))] [] σ → mv_wf X (mv_wp X d) m_Known_nextSubwords Q 8 [.int x, .int l, .int a, .int (nI y)] [] σ := by
    intro y a hy hh
    refine h_Known_nextSubwords_8 ⟨fun z => absurd z (nI_ge (b := 3) (by omega) (by omega)), fun _ => ?_⟩
    rw [nI_1]
    unfold kst at hh
    by_cases e : ((x >>> (nI y &&& 31)) &&& (1 : Int32)) = 1
    · rw [if_pos e] at hh
      exact ⟨fun z => absurd e z, fun _ => hh⟩
    · rw [if_neg e] at hh
      exact ⟨fun _ => hh, fun z => absurd z e⟩
  refine w_Known_nextSubwords (st 0 _ (by omega) (st 1 _ (by omega) (st 2 _ (by omega) ?_)))
  exact h_Known_nextSubwords_8 ⟨fun _ => hQ, fun z => absurd (by decide) z⟩
theorem c_nextSort {c l : Nat} (hk : k < 2) (hv : v < 3) (hin : kin k v c) (hl : l < 3) (hQ : Q (some (.int (nI (kn k v c l)))) σ) : mv_wp X (d + 2) 92 [.int (nI k), .int (nI v), .int (nI c), .int (nI l)] σ Q := by
  rw [← ((kin_all hk hv hin).2.2.2 l hl).2.1] at hQ
  refine (w_Known_nextSort _ _ _ _ _ _ _ _).mpr ?_
  have hv2 : v = 0 ∨ v = 1 ∨ v = 2 := by omega
  have hk2 : k = 0 ∨ k = 1 := by omega
  rcases hv2 with rfl | rfl | rfl
  · exact ⟨fun z => absurd rfl z, fun _ => hQ⟩
  · exact ⟨fun _ => ⟨fun z => absurd rfl z, fun _ => hQ⟩, fun z => absurd z (by decide)⟩
  · refine ⟨fun _ => ⟨fun _ => ?_, fun z => absurd z (by decide)⟩, fun z => absurd z (by decide)⟩
    rcases hk2 with rfl | rfl
    · exact ⟨fun z => absurd rfl z, fun _ => c_subw ⟨_, rfl, hQ⟩⟩
    · refine ⟨fun _ => (w_Known_nextNeighbours _ _ _ _ _ _).mpr ?_, fun z => absurd z (by decide)⟩
      have hQ : Q (some (.int (kfN (nI c) (nI l)))) σ := hQ
      unfold kfN at hQ
      by_cases e : nI c = 0
      · rw [if_pos e] at hQ
        exact ⟨fun z => absurd e z, fun _ => ⟨_, rfl, hQ⟩⟩
      · rw [if_neg e] at hQ
        exact ⟨fun _ => ⟨by decide, by decide, by decide, by decide, _, rfl, hQ⟩, fun z => absurd z e⟩
theorem c_explore {T0 : Nat → Nat → Bool} {sh t : Nat} (hs : sh = 0 ∨ sh = 4) (hk : k < 2) (hv : v < 3) (hM : md_ok M) (ht : mc_at t) (ht3 : 33 ≤ t) (hc : cl_M σ t M)
    (h0 : kC T0 sh (0, fun _ => M.2.1, fun _ => 0) σ) (hQ : ∀ τ, kC T0 sh (kF k v M) τ → frK σ τ → Q none τ) : mv_wp X (d + 3) 90 [.ref 27, .ref t, .int (nI k), .int (nI v), .int (nI sh)] σ Q := by
  have hM4 := hM
  obtain ⟨o1, o2, o3, o4, o5, o6⟩ := hM4
  have ht1 := ht.1
  refine w_Known_explore ⟨ht1, rfl, ?_⟩
  rw [hc.2.1]
  refine c_reach (c := 0) (S := (0, fun _ => M.2.1, fun _ => 0)) (s := 0) hs h0 (by omega) (by omega) (fun _ => show 0 < 6460 by omega) (show 0 ≤ 6460 by omega) (fun τ p1 p2 => ⟨_, rfl, ?_⟩)
  have e0 : bf_up (0, fun _ => M.2.1, fun _ => 0) (4 * 0 + M.2.1) 0 = kS k v M (3 * 0) := by
    unfold bf_up
    rw [if_neg (Nat.not_lt_zero _), kS_eq]
    unfold bf_add
    rw [Nat.mul_zero, Nat.zero_add]
    simp only [Nat.zero_add, ite_self]
    rfl
  rw [e0] at p1 ⊢
  have inner : ∀ r h l (τ : mv_S), l + r = 3 → h < (kS k v M (3 * h + l)).1 → h < 6460 → kC T0 sh (kS k v M (3 * h + l)) τ → frK σ τ →
      (∀ τ2, kC T0 sh (kS k v M (3 * h + 3)) τ2 → frK σ τ2 → mv_wf X (mv_wp X (d + 2)) m_Known_explore Q 17 [.ref 27, .ref t, .int (nI k), .int (nI v), .int (nI sh), .int (nI (kS k v M (3 * h + 3)).1), .int (nI (h + 1)), .retAddr 0, .retAddr 0, .retAddr 0] [] τ2) →
      mv_wf X (mv_wp X (d + 2)) m_Known_explore Q 57 [.ref 27, .ref t, .int (nI k), .int (nI v), .int (nI sh), .int (nI (kS k v M (3 * h + l)).1), .int (nI h), .int (nI ((kS k v M (3 * h + l)).2.1 h / 4)), .int (nI ((kS k v M (3 * h + l)).2.1 h % 4)), .int (nI l)] [] τ := by
    intro r
    induction r with
    | zero =>
      intro h l τ hl hh h6 kc fr K
      obtain rfl : l = 3 := by omega
      refine h_Known_explore_57 ⟨fun _ => ?_, fun z => absurd (by decide) z⟩
      rw [nI_1]
      exact K τ kc fr
    | succ r ih =>
      intro h l τ hl hh h6 kc fr K
      have nd := kS_nd hk hv hM (3 * h + l) h hh
      have ka := kin_all hk hv nd.1
      have kl := (ka.2.2.2 l (by omega)).1
      have kl4 := (kin_all hk hv kl).1
      have hs1 : (3 * h + l) / 3 = h := by omega
      have hs2 : (3 * h + l) % 3 = l := by omega
      have up := kS_up (k := k) (v := v) (M := M) (s := 3 * h + l) (by rw [hs1]; exact hh)
      have room := kS_room (k := k) (v := v) (M := M) (s := 3 * h + l) hk hv hM (by rw [hs1]; exact hh)
      have le := kS_le hk hv hM (3 * h + l)
      rw [hs1, hs2] at up room
      have q1 := kS_q (k := k) (v := v) (M := M) (s := 3 * h + l) 1 hh
      refine h_Known_explore_57 ⟨fun z => absurd z (nI_ge (b := 3) (by omega) (by omega)), fun _ => ?_⟩
      refine c_nextSort hk hv nd.1 (by omega) ⟨_, rfl, ht1, ?_⟩
      refine s_nextM ht (frK_cl fr ht3 hc) (by omega) (by omega) ⟨_, rfl, rfl, ?_⟩
      unfold knx at up room
      refine c_reach (s := 3 * h + l) hs kc kl4 (o5 _ (by omega)) room le (fun τ2 p1 p2 => ⟨_, rfl, ?_⟩)
      rw [← up] at p1 ⊢
      have := ih h (l + 1) τ2 (by omega) q1.1 h6 p1 (frK_tr fr p2) K
      rw [← Nat.add_assoc, q1.2] at this
      rw [nI_1]
      exact this
  have outer : ∀ r h (τ : mv_S), h + r = 6460 → h ≤ (kS k v M (3 * h)).1 → kC T0 sh (kS k v M (3 * h)) τ → frK σ τ → mv_wf X (mv_wp X (d + 2)) m_Known_explore Q 17 [.ref 27, .ref t, .int (nI k), .int (nI v), .int (nI sh), .int (nI (kS k v M (3 * h)).1), .int (nI h), .retAddr 0, .retAddr 0, .retAddr 0] [] τ := by
    intro r
    have stop : ∀ h (τ : mv_S), h ≤ 6460 → (kS k v M (3 * h)).1 = h → kC T0 sh (kS k v M (3 * h)) τ → frK σ τ → mv_wf X (mv_wp X (d + 2)) m_Known_explore Q 17 [.ref 27, .ref t, .int (nI k), .int (nI v), .int (nI sh), .int (nI (kS k v M (3 * h)).1), .int (nI h), .retAddr 0, .retAddr 0, .retAddr 0] [] τ := by
      intro h τ h6 e kc fr
      refine h_Known_explore_17 ⟨fun _ => ?_, fun z => absurd (nI_le (by omega) (by omega)) z⟩
      rw [kS_end h6 e] at kc
      exact hQ τ kc fr
    induction r with
    | zero =>
      intro h τ hr hh kc fr
      have le := kS_le hk hv hM (3 * h)
      exact stop h τ (by omega) (by omega) kc fr
    | succ r ih =>
      intro h τ hr hh kc fr
      have le := kS_le hk hv hM (3 * h)
      by_cases e : (kS k v M (3 * h)).1 = h
      · exact stop h τ (by omega) e kc fr
      have hlt : h < (kS k v M (3 * h)).1 := by omega
      have nd := kS_nd hk hv hM (3 * h) h hlt
      have nl := kin_lt hk hv nd.1
      refine h_Known_explore_17 ⟨fun z => absurd z (nI_ge (by omega) (by omega)), fun _ => ⟨fun z => absurd z (nI_ge (b := 6460) (by omega) (by omega)), fun _ => ?_⟩⟩
      rw [nI_clamp (n := h) (by omega), kc.1 h hlt, q_rem4 (by omega), q_div4 (by omega)]
      refine ⟨rfl, ⟨rfl, vp_in_nI (N := 6460) (by omega) (by omega)⟩, by decide, rfl, ⟨rfl, vp_in_nI (N := 6460) (by omega) (by omega)⟩, by decide, ?_⟩
      refine inner 3 h 0 τ (by omega) hlt (by omega) kc fr (fun τ2 g1 g2 => ?_)
      refine ih (h + 1) τ2 (by omega) ?_ g1 g2
      have := (kS_q (k := k) (v := v) (M := M) 3 hlt).1
      exact this
  exact outer 6460 0 τ (by omega) (Nat.zero_le _) p1 p2
end KNOWNC
