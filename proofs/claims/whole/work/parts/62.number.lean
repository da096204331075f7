/-! ===== the class numbers the points of THE LEAST ===== -/
def nmC (M : md_T) (S : bf_T) (σ : mv_S) : Prop := σ.1 13 3 = nI S.1 ∧ σ.1 13 4 = nI (bs (fun i => M.2.2.1.testBit (S.2.1 i)) S.1) ∧ (∀ x, x < 4 → σ.1 16 x = if bf_ix S x < S.1 then nI (bf_ix S x) else -1) ∧ (∀ i, i < S.1 → σ.1 15 i = nI (S.2.1 i))
def bf_up (S : bf_T) (c s : Nat) : bf_T := if bf_ix S c < S.1 then S else bf_add S c s
def frN (σ τ : mv_S) : Prop := (∀ c j, ¬ (c = 13 ∧ (j = 3 ∨ j = 4)) → ¬ c = 14 → ¬ c = 15 → ¬ c = 16 → τ.1 c j = σ.1 c j) ∧ τ.2 = σ.2
theorem ix_add {S : bf_T} {c s : Nat} (hn : ¬ bf_ix S c < S.1) : ∀ x, bf_ix (bf_add S c s) x = if bf_ix S x < S.1 then bf_ix S x else if x = c then S.1 else S.1 + 1 := by
  intro x
  have hlt : ∀ k, k < S.1 → (bf_add S c s).2.1 k = S.2.1 k := fun k hk => (add_o S c s (by omega)).1
  by_cases e : bf_ix S x < S.1
  · rw [if_pos e]
    refine ff_eq (fun k hk => ?_) (by rw [add_1]; omega) ?_
    · show decide ((bf_add S c s).2.1 k = x) = false
      rw [hlt k (by omega)]
      exact fa_first_no (fun i => decide (S.2.1 i = x)) S.1 k hk
    · show decide ((bf_add S c s).2.1 (bf_ix S x) = x) = true
      rw [hlt _ e]
      exact fa_first_yes (fun i => decide (S.2.1 i = x)) S.1 e
  · rw [if_neg e]
    have no : ∀ k, k < S.1 → ¬ S.2.1 k = x := fun k hk z => e ((bf_ix_iff S x).mpr ⟨k, hk, z⟩)
    by_cases ec : x = c
    · subst ec
      rw [if_pos rfl]
      refine ff_eq (fun k hk => ?_) (by rw [add_1]; omega) ?_
      · show decide ((bf_add S x s).2.1 k = x) = false
        rw [hlt k hk]
        exact decide_eq_false (no k hk)
      · show decide ((bf_add S x s).2.1 S.1 = x) = true
        rw [(add_n S x s).1]
        exact decide_eq_true rfl
    · rw [if_neg ec]
      have h1 : ¬ bf_ix (bf_add S c s) x < S.1 + 1 := by
        intro z
        obtain ⟨k, hk, ek⟩ := (bf_ix_iff (bf_add S c s) x).mp z
        rw [add_1] at hk
        by_cases e2 : k = S.1
        · rw [e2, (add_n S c s).1] at ek; exact ec ek.symm
        · rw [hlt k (by omega)] at ek; exact no k (by omega) ek
      have h2 : bf_ix (bf_add S c s) x ≤ S.1 + 1 := fa_first_le _ _
      omega
theorem ix_up {S : bf_T} (c s : Nat) : bf_ix (bf_up S c s) c < (bf_up S c s).1 := by
  unfold bf_up
  by_cases e : bf_ix S c < S.1
  · rw [if_pos e]; exact e
  · rw [if_neg e, ix_add e, if_neg e, if_pos rfl, add_1]; omega
section NUMBER
variable {X : mv_X} {d : Nat} {σ : mv_S} {Q : mv_Q} {M : md_T} {t : Nat}
theorem frN_cl {τ : mv_S} (h : frN σ τ) (ht : 33 ≤ t) (hc : cl_M σ t M) : cl_M τ t M := ⟨(h.1 _ _ (by omega) (by omega) (by omega) (by omega)).trans hc.1, (h.1 _ _ (by omega) (by omega) (by omega) (by omega)).trans hc.2.1, (h.1 _ _ (by omega) (by omega) (by omega) (by omega)).trans hc.2.2.1, fun j hj => (h.1 _ _ (by omega) (by omega) (by omega) (by omega)).trans (hc.2.2.2 j hj)⟩
theorem frN_tr {a b c : mv_S} (h : frN a b) (g : frN b c) : frN a c := ⟨fun x j q1 q2 q3 q4 => (g.1 x j q1 q2 q3 q4).trans (h.1 x j q1 q2 q3 q4), g.2.trans h.2⟩
theorem nmC_add {S : bf_T} {c s : Nat} {τ : mv_S} (hc4 : c < 4) (h : nmC M S σ) (hn : ¬ bf_ix S c < S.1) (h3 : τ.1 13 3 = nI (S.1 + 1)) (h4 : τ.1 13 4 = nI (bs (fun i => M.2.2.1.testBit (S.2.1 i)) S.1 + if M.2.2.1.testBit c = true then 2 ^ S.1 else 0)) (h5 : τ.1 16 c = nI S.1) (h6 : ∀ x, ¬ x = c → τ.1 16 x = σ.1 16 x) (h7 : τ.1 15 S.1 = nI c) (h8 : ∀ i, i < S.1 → τ.1 15 i = σ.1 15 i) : nmC M (bf_add S c s) τ := by
  refine ⟨h3, ?_, fun x hx => ?_, fun i hi => ?_⟩
  · rw [h4]
    show nI _ = nI (bs (fun i => M.2.2.1.testBit ((bf_add S c s).2.1 i)) S.1 + if M.2.2.1.testBit ((bf_add S c s).2.1 S.1) = true then 2 ^ S.1 else 0)
    rw [(add_n S c s).1, bs_cg (f := fun i => M.2.2.1.testBit ((bf_add S c s).2.1 i)) (g := fun i => M.2.2.1.testBit (S.2.1 i)) S.1 (fun j hj => by show M.2.2.1.testBit ((bf_add S c s).2.1 j) = _; rw [(add_o S c s (by omega)).1])]
  · rw [ix_add hn, add_1]
    by_cases e : x = c
    · subst e
      rw [h5, if_neg hn, if_pos rfl, if_pos (by omega)]
    · rw [h6 x e, h.2.2.1 x hx]
      by_cases e2 : bf_ix S x < S.1
      · rw [if_pos e2, if_pos e2, if_pos (by omega)]
      · rw [if_neg e2, if_neg e2, if_neg e, if_neg (by omega)]
  · rw [add_1] at hi
    by_cases e : i = S.1
    · subst e; rw [h7, (add_n S c s).1]
    · rw [h8 i (by omega), (add_o S c s e).1]; exact h.2.2.2 i (by omega)
theorem s_numberFor {p s : Nat} {S : bf_T} (ht : mc_at t) (ht3 : 33 ≤ t) (hM : md_ok M) (hc : cl_M σ t M) (ha : σ.1 13 5 = nI (apF M)) (hp : p < M.1) (hn : nmC M S σ) (hS5 : S.1 ≤ 4) (hr : ¬ bf_ix S (tw M M.1 p) < S.1 → S.1 < 4)
    (hQ : ∀ τ, nmC M (bf_up S (tw M M.1 p) s) τ → frN σ τ → (∀ j, τ.1 14 j = σ.1 14 j) → Q (some (.int (nI (bf_ix (bf_up S (tw M M.1 p) s) (tw M M.1 p))))) τ) : mv_wp X (d + 3) 48 [.ref 13, .ref t, .int (nI p)] σ Q := by
  have h4 := md_4 hM
  have hc4 : tw M M.1 p < 4 := by have := tw_le (M := M) M.1 p; omega
  have ht1 := ht.1
  refine (w_Least_numberFor _ _ _ _ _ _).mpr ⟨rfl, ?_⟩
  refine s_firstAlike hM ha hp ⟨_, rfl, ?_⟩
  generalize tw M M.1 p = c at *
  have h16 := hn.2.2.1 c hc4
  rw [nI_clamp (by omega)]
  by_cases e : bf_ix S c < S.1
  · have eu : bf_up S c s = S := if_pos e
    rw [eu] at hQ
    rw [if_pos e] at h16
    have hx : ¬ nI (bf_ix S c) = (-1 : Int32) := by
      have h1 : bf_ix S c < 2 ^ 31 := by omega
      rw [fa_eq, nI_toInt h1, nI_m1]
      omega
    rw [h16]
    have := hQ σ hn ⟨fun _ _ _ _ _ _ => rfl, rfl⟩ (fun _ => rfl)
    exact ⟨rfl, ⟨rfl, vp_in_nI (N := 4) hc4 (by omega)⟩, fun _ => ⟨rfl, ⟨rfl, vp_in_nI (N := 4) hc4 (by omega)⟩, this⟩, fun z => absurd z hx⟩
  · have eu : bf_up S c s = bf_add S c s := if_neg e
    rw [eu, ix_add e, if_neg e, if_pos rfl] at hQ
    rw [if_neg e] at h16
    have hS4 := hr e
    have h133 := hn.1
    have h134 := hn.2.1
    have hbs := bs_lt (fun i => M.2.2.1.testBit (S.2.1 i)) S.1
    have hp2 : (2 : Nat) ^ S.1 ≤ 2 ^ 4 := Nat.pow_le_pow_right (by decide) (by omega)
    rw [h16]
    refine ⟨rfl, ⟨rfl, vp_in_nI (N := 4) hc4 (by omega)⟩, fun z => absurd rfl z, fun _ => ⟨rfl, ?_⟩⟩
    rw [h133]
    refine ⟨fun z => absurd z (nI_ge (b := 4) (by omega) (by omega)), fun _ => ⟨rfl, rfl, ⟨rfl, vp_in_nI (N := 4) hc4 (by omega)⟩, rfl, rfl, ?_⟩⟩
    rw [show (mv_pi σ 16 c (nI S.1)).1 13 3 = nI S.1 from (mv_rn (by omega)).trans h133, nI_clamp (by omega)]
    refine ⟨⟨rfl, vp_in_nI (N := 4) (by omega) (by omega)⟩, ht1, ?_⟩
    have cM : cl_M (mv_pi (mv_pi σ 16 c (nI S.1)) 15 S.1 (nI c)) t M := frN_cl (σ := σ) ⟨fun c' j q1 q2 q3 q4 => by rw [mv_rn (by omega), mv_rn (by omega)], rfl⟩ ht3 hc
    refine s_isEndM ht cM hM hc4 ⟨_, rfl, ?_⟩
    have g3 : (mv_pi (mv_pi σ 16 c (nI S.1)) 15 S.1 (nI c)).1 13 3 = nI S.1 := by rw [mv_rn (by omega), mv_rn (by omega)]; exact h133
    have g4 : (mv_pi (mv_pi σ 16 c (nI S.1)) 15 S.1 (nI c)).1 13 4 = nI (bs (fun i => M.2.2.1.testBit (S.2.1 i)) S.1) := by rw [mv_rn (by omega), mv_rn (by omega)]; exact h134
    by_cases eb : M.2.2.1.testBit c = true
    · rw [if_pos eb]
      refine ⟨fun z => absurd z (by decide), fun _ => ⟨rfl, rfl, rfl, rfl, rfl, rfl, ⟨rfl, vp_in_nI (N := 4) hc4 (by omega)⟩, ?_⟩⟩
      rw [g3, g4, tb_set (by omega)]
      rw [show (mv_pi (mv_pi (mv_pi σ 16 c (nI S.1)) 15 S.1 (nI c)) 13 4 (nI (bs (fun i => M.2.2.1.testBit (S.2.1 i)) S.1 ||| 2 ^ S.1))).1 13 3 = nI S.1 from (mv_rn (by omega)).trans g3, nI_1]
      rw [show ∀ v w, (mv_pi (mv_pi (mv_pi (mv_pi σ 16 c (nI S.1)) 15 S.1 (nI c)) 13 4 v) 13 3 w).1 16 c = nI S.1 from fun v w => by rw [mv_rn (by omega), mv_rn (by omega), mv_rn (by omega), mv_rd]]
      refine hQ _ (nmC_add hc4 hn e mv_rd ?_ ?_ (fun x hx => ?_) ?_ (fun i hi => ?_)) ⟨fun c' j q1 q2 q3 q4 => ?_, rfl⟩ (fun j => ?_)
      · rw [mv_rn (by omega), mv_rd, if_pos eb, Nat.add_comm, show 2 ^ S.1 + bs (fun i => M.2.2.1.testBit (S.2.1 i)) S.1 = 2 ^ S.1 * 1 + bs (fun i => M.2.2.1.testBit (S.2.1 i)) S.1 by omega, Nat.two_pow_add_eq_or_of_lt hbs, Nat.mul_one, Nat.or_comm]
      · rw [mv_rn (by omega), mv_rn (by omega), mv_rn (by omega), mv_rd]
      · rw [mv_rn (by omega), mv_rn (by omega), mv_rn (by omega), mv_rn (by omega)]
      · rw [mv_rn (by omega), mv_rn (by omega), mv_rd]
      · rw [mv_rn (by omega), mv_rn (by omega), mv_rn (by omega), mv_rn (by omega)]
      · rw [mv_rn (by omega), mv_rn (by omega), mv_rn (by omega), mv_rn (by omega)]
      · rw [mv_rn (by omega), mv_rn (by omega), mv_rn (by omega), mv_rn (by omega)]
    · rw [if_neg eb]
      refine ⟨fun _ => ⟨rfl, rfl, rfl, ⟨rfl, vp_in_nI (N := 4) hc4 (by omega)⟩, ?_⟩, fun z => absurd rfl z⟩
      rw [g3, nI_1]
      rw [show ∀ w, (mv_pi (mv_pi (mv_pi σ 16 c (nI S.1)) 15 S.1 (nI c)) 13 3 w).1 16 c = nI S.1 from fun w => by rw [mv_rn (by omega), mv_rn (by omega), mv_rd]]
      refine hQ _ (nmC_add hc4 hn e mv_rd ?_ ?_ (fun x hx => ?_) ?_ (fun i hi => ?_)) ⟨fun c' j q1 q2 q3 q4 => ?_, rfl⟩ (fun j => ?_)
      · rw [mv_rn (by omega), if_neg eb, Nat.add_zero]; exact g4
      · rw [mv_rn (by omega), mv_rn (by omega), mv_rd]
      · rw [mv_rn (by omega), mv_rn (by omega), mv_rn (by omega)]
      · rw [mv_rn (by omega), mv_rd]
      · rw [mv_rn (by omega), mv_rn (by omega), mv_rn (by omega)]
      · rw [mv_rn (by omega), mv_rn (by omega), mv_rn (by omega)]
      · rw [mv_rn (by omega), mv_rn (by omega), mv_rn (by omega)]
def lpC (M : md_T) (σ : mv_S) : Prop := σ.1 13 3 = nI (lF M).1 ∧ σ.1 13 4 = nI (lE M) ∧ ∀ i l, i < (lF M).1 → l < 3 → σ.1 14 (3 * i + l) = nI (lT M i l)
def frL (σ τ : mv_S) : Prop := (∀ c j, ¬ c = 13 → ¬ c = 14 → ¬ c = 15 → ¬ c = 16 → τ.1 c j = σ.1 c j) ∧ τ.2 = σ.2
theorem lS_up (M : md_T) {s : Nat} (h : s / 3 < (lS M s).1) : lS M (s + 1) = bf_up (lS M s) (lnx M ((lS M s).2.1 (s / 3)) (s % 3)) s := by
  rw [lS_eq, bf_s]
  unfold bf_st bf_up
  rw [← lS_eq, if_pos h]
theorem lS_0 (M : md_T) (f : Nat → Nat) : bf_up (0, fun _ => tw M M.1 M.2.1, fun _ => 0) (tw M M.1 M.2.1) 0 = lS M 0 := by
  have : ¬ bf_ix ((0, fun _ => tw M M.1 M.2.1, fun _ => 0) : bf_T) (tw M M.1 M.2.1) < 0 := Nat.not_lt_zero _
  unfold bf_up
  rw [if_neg this]
  unfold bf_add lS bf
  refine Prod.ext rfl (Prod.ext ?_ ?_)
  · funext k
    show (if k = 0 then tw M M.1 M.2.1 else tw M M.1 M.2.1) = _
    split <;> rfl
  · funext k
    show (if k = 0 then 0 else 0) = _
    split <;> rfl
theorem s_minimise (ht : mc_at t) (ht3 : 33 ≤ t) (hM : md_ok M) (hc : cl_M σ t M) (hQ : ∀ τ, lpC M τ → frL σ τ → Q none τ) : mv_wp X (d + 4) 46 [.ref 13, .ref t] σ Q := by
  have h4 := md_4 hM
  have ht1 := ht.1
  refine w_Least_minimise ⟨rfl, ?_⟩
  refine s_findApart ht ht3 hM hc (fun τ1 a1 a2 => ⟨rfl, rfl, ?_⟩)
  refine s_fillI (n := 4) rfl rfl (by decide) ⟨rfl, rfl, rfl, ht1, ?_⟩
  generalize hυ : mv_pi (mv_pi (mv_fo τ1 16 0 (fun _ => -1) 4) 13 3 0) 13 4 0 = υ
  have u1 : υ.1 13 3 = 0 := by rw [← hυ, mv_rn (by omega), mv_rd]
  have u2 : υ.1 13 4 = 0 := by rw [← hυ, mv_rd]
  have u3 : ∀ x, x < 4 → υ.1 16 x = -1 := fun x hx => by
    rw [← hυ, mv_rn (by omega), mv_rn (by omega)]
    have := fo_in (σ := τ1) (c := 16) (off := 0) (f := fun _ => (-1 : Int32)) (i := 4) hx
    rw [Nat.zero_add] at this
    exact this
  have u4 : ∀ c j, ¬ (c = 13 ∧ (j = 3 ∨ j = 4)) → ¬ c = 16 → υ.1 c j = τ1.1 c j := fun c j q1 q2 => by rw [← hυ, mv_rn (by omega), mv_rn (by omega), fo_out (by omega)]
  have u5 : υ.2 = τ1.2 := by rw [← hυ]; rfl
  have fσ : ∀ τ, frN υ τ → frL σ τ := fun τ h => ⟨fun c j q1 q2 q3 q4 => by rw [h.1 c j (by omega) q2 q3 q4, u4 c j (by omega) q4, a2.1 c j (by omega)], h.2.trans (u5.trans a2.2)⟩
  have cυ : ∀ τ, frN υ τ → cl_M τ t M := fun τ h => frN_cl h ht3 ⟨(u4 _ _ (by omega) (by omega)).trans (frA_cl a2 ht3 hc).1, (u4 _ _ (by omega) (by omega)).trans (frA_cl a2 ht3 hc).2.1, (u4 _ _ (by omega) (by omega)).trans (frA_cl a2 ht3 hc).2.2.1, fun j hj => (u4 _ _ (by omega) (by omega)).trans ((frA_cl a2 ht3 hc).2.2.2 j hj)⟩
  have aυ : ∀ τ, frN υ τ → τ.1 13 5 = nI (apF M) := fun τ h => by rw [h.1 13 5 (by omega) (by omega) (by omega) (by omega), u4 13 5 (by omega) (by omega), a1]
  have self : frN υ υ := ⟨fun _ _ _ _ _ _ => rfl, rfl⟩
  have inner : ∀ p, p < 4 → (∀ τ, nmC M (lS M (3 * p + 3)) τ → frN υ τ → (∀ s, s < 3 * p + 3 → τ.1 14 s = nI (lT M (s / 3) (s % 3))) → mv_wf X (mv_wp X (d + 3)) m_Least_minimise Q 35 [.ref 13, .ref t, .int (nI (p + 1)), .retAddr 0] [] τ) →
      ∀ r l (τ : mv_S), l + r = 3 → p < (lS M (3 * p + l)).1 → nmC M (lS M (3 * p + l)) τ → frN υ τ → (∀ s, s < 3 * p + l → τ.1 14 s = nI (lT M (s / 3) (s % 3))) → mv_wf X (mv_wp X (d + 3)) m_Least_minimise Q 50 [.ref 13, .ref t, .int (nI p), .int (nI l)] [] τ := by
    intro p hp4 K r
    induction r with
    | zero =>
      intro l τ hl hlt hn hf hm
      obtain rfl : l = 3 := by omega
      refine h_Least_minimise_50 ⟨fun _ => ?_, fun z => absurd (show (3 : Int32) ≤ nI 3 by decide) z⟩
      rw [nI_1]
      exact K τ hn hf hm
    | succ r ih =>
      intro l τ hl hlt hn hf hm
      have hq := lS_q hM (3 * p + l) p hlt
      have hs1 : (3 * p + l) / 3 = p := by omega
      have hs2 : (3 * p + l) % 3 = l := by omega
      have up := lS_up M (s := 3 * p + l) (by rw [hs1]; exact hlt)
      rw [hs1, hs2] at up
      have pre := lS_pre (M := M) (s := 3 * p + l) (k := p) (by omega) hlt
      refine h_Least_minimise_50 ⟨fun z => absurd z (nI_ge (b := 3) (by omega) (by omega)), fun _ => ⟨rfl, rfl, ⟨rfl, vp_in_nI (N := 4) (by omega) (by omega)⟩, ht1, ?_⟩⟩
      rw [nI_clamp (by omega), hn.2.2.2 p hlt]
      refine s_nextM ht (cυ τ hf) (by omega) (by omega) ⟨_, rfl, rfl, ?_⟩
      refine s_numberFor (s := 3 * p + l) ht ht3 hM (cυ τ hf) (aυ τ hf) (md_mv hM _ _ hq (by omega)) hn (Nat.le_trans (lS_le hM _) h4) (fun z => ?_) (fun τ2 n2 f2 m2 => ⟨_, rfl, ?_⟩)
      · have h5 := lS_le hM (3 * p + l + 1)
        rw [up] at h5
        unfold bf_up at h5
        rw [if_neg (show ¬ bf_ix (lS M (3 * p + l)) (lnx M ((lS M (3 * p + l)).2.1 p) l) < (lS M (3 * p + l)).1 from z), add_1] at h5
        omega
      · change nmC M (bf_up (lS M (3 * p + l)) (lnx M ((lS M (3 * p + l)).2.1 p) l) (3 * p + l)) τ2 at n2
        rw [← up] at n2
        have ix := ix_up (S := lS M (3 * p + l)) (lnx M ((lS M (3 * p + l)).2.1 p) l) (3 * p + l)
        rw [← up] at ix
        have ixF := lS_ix hM (s := 3 * p + l + 1) (by omega) ix
        have val : bf_ix (bf_up (lS M (3 * p + l)) (tw M M.1 (M.2.2.2 (3 * (lS M (3 * p + l)).2.1 p + l))) (3 * p + l)) (tw M M.1 (M.2.2.2 (3 * (lS M (3 * p + l)).2.1 p + l))) = lT M p l := by
          change bf_ix (bf_up (lS M (3 * p + l)) (lnx M ((lS M (3 * p + l)).2.1 p) l) (3 * p + l)) (lnx M ((lS M (3 * p + l)).2.1 p) l) = _
          rw [← up, ← ixF]
          unfold lT
          rw [pre.2]
        rw [val, show (3 : Int32) = nI 3 from rfl, pk_mul, nI_add, nI_clamp (by omega), nI_1]
        refine ⟨⟨rfl, vp_in_nI (N := 12) (by omega) (by omega)⟩, ?_⟩
        have m1 := bf_mono1 (nx := lnx M) (q0 := tw M M.1 M.2.1) (J := 3) (3 * p + l)
        rw [← lS_eq, ← lS_eq] at m1
        refine ih (l + 1) _ (by omega) (Nat.lt_of_lt_of_le hlt m1.1) ⟨?_, ?_, fun x hx => ?_, fun i hi => ?_⟩ ⟨fun c j q1 q2 q3 q4 => ?_, f2.2.trans hf.2⟩ (fun s hs => ?_)
        · rw [mv_rn (by omega)]; exact n2.1
        · rw [mv_rn (by omega)]; exact n2.2.1
        · rw [mv_rn (by omega)]; exact n2.2.2.1 x hx
        · rw [mv_rn (by omega)]; exact n2.2.2.2 i hi
        · rw [mv_rn (by omega)]; exact (f2.1 c j q1 q2 q3 q4).trans (hf.1 c j q1 q2 q3 q4)
        · by_cases es : s = 3 * p + l
          · subst es; rw [mv_rd, hs1, hs2]
          · rw [mv_rn (by omega), m2]; exact hm s (by omega)
  have outer : ∀ r p (τ : mv_S), p + r = 4 → p ≤ (lS M (3 * p)).1 → nmC M (lS M (3 * p)) τ → frN υ τ → (∀ s, s < 3 * p → τ.1 14 s = nI (lT M (s / 3) (s % 3))) → mv_wf X (mv_wp X (d + 3)) m_Least_minimise Q 35 [.ref 13, .ref t, .int (nI p), .retAddr 0] [] τ := by
    intro r
    have fin : ∀ p (τ : mv_S), (lS M (3 * p)).1 = p → nmC M (lS M (3 * p)) τ → frN υ τ → (∀ s, s < 3 * p → τ.1 14 s = nI (lT M (s / 3) (s % 3))) → Q none τ := by
      intro p τ e hn hf hm
      have eF := lS_end hM e
      rw [eF] at hn e
      refine hQ τ ⟨hn.1, hn.2.1, fun i l hi hl => ?_⟩ (fσ τ hf)
      have := hm (3 * i + l) (by omega)
      rw [show (3 * i + l) / 3 = i by omega, show (3 * i + l) % 3 = l by omega] at this
      exact this
    induction r with
    | zero =>
      intro p τ hp hle hn hf hm
      have h5 := lS_le hM (3 * p)
      have e : (lS M (3 * p)).1 = p := by omega
      refine h_Least_minimise_35 ⟨rfl, ?_⟩
      rw [hn.1, e]
      exact ⟨fun _ => fin p τ e hn hf hm, fun z => absurd (nI_le (Nat.le_refl _) (by omega)) z⟩
    | succ r ih =>
      intro p τ hp hle hn hf hm
      have h5 := lS_le hM (3 * p)
      refine h_Least_minimise_35 ⟨rfl, ?_⟩
      rw [hn.1]
      by_cases e : (lS M (3 * p)).1 = p
      · rw [e]
        exact ⟨fun _ => fin p τ e hn hf hm, fun z => absurd (nI_le (Nat.le_refl _) (by omega)) z⟩
      · have hlt : p < (lS M (3 * p)).1 := by omega
        refine ⟨fun z => absurd z (nI_ge hlt (by omega)), fun _ => ⟨fun z => absurd z (nI_ge (b := 4) (by omega) (by omega)), fun _ => ?_⟩⟩
        have m3 := bf_mono (nx := lnx M) (q0 := tw M M.1 M.2.1) (J := 3) (3 * p) 3
        rw [← lS_eq, ← lS_eq] at m3
        exact inner p (by omega) (fun τ2 n2 f2 m2 => ih (p + 1) τ2 (by omega) (Nat.le_trans hlt m3.1) n2 f2 m2) 3 0 τ rfl hlt hn hf hm
  have hst : υ.1 t 2 = nI M.2.1 := (cυ υ self).2.1
  rw [hst]
  have n0 : nmC M (0, fun _ => tw M M.1 M.2.1, fun _ => 0) υ := ⟨u1, u2, fun x hx => by rw [if_neg (Nat.not_lt_zero _)]; exact u3 x hx, fun i hi => absurd hi (Nat.not_lt_zero _)⟩
  refine ⟨rfl, s_numberFor (s := 0) ht ht3 hM (cυ υ self) (aυ υ self) hM.2.2.1 n0 (by decide : 0 ≤ 4) (fun _ => (by decide : 0 < 4)) (fun τ2 n2 f2 m2 => ⟨_, rfl, ?_⟩)⟩
  rw [lS_0 M id] at n2
  exact outer 4 0 τ2 rfl (Nat.zero_le _) n2 f2 (fun s hs => absurd hs (Nat.not_lt_zero _))
end NUMBER
