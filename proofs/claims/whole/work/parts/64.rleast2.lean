/-! ===== the reference numbers the points of THE LEAST ===== -/
def nmR (M : md_T) (S : bf_T) (σ : mv_S) : Prop := σ.1 61 7 = nI S.1 ∧ (∀ x, x < 4 → σ.1 68 x = if bf_ix S x < S.1 then nI (bf_ix S x) else -1) ∧ ∀ i, i < S.1 → ∃ y, y < M.1 ∧ σ.1 69 i = nI y ∧ tw M M.1 y = S.2.1 i
def frQ (σ τ : mv_S) : Prop := (∀ c j, ¬ (c = 61 ∧ (j = 7 ∨ j = 8 ∨ j = 23)) → ¬ (65 ≤ c ∧ c ≤ 69) → τ.1 c j = σ.1 c j) ∧ τ.2 = σ.2
def lpR (M : md_T) (σ : mv_S) : Prop := σ.1 61 7 = nI (lF M).1 ∧ σ.1 61 8 = nI (lE M) ∧ ∀ i l, i < (lF M).1 → l < 3 → σ.1 65 (3 * i + l) = nI (lT M i l)
section RLEAST2
variable {X : mv_X} {d : Nat} {σ : mv_S} {Q : mv_Q} {M : md_T} {k : Nat}
theorem frQ_tr {a b c : mv_S} (h : frQ a b) (g : frQ b c) : frQ a c := ⟨fun x j q1 q2 => (g.1 x j q1 q2).trans (h.1 x j q1 q2), g.2.trans h.2⟩
theorem frQ_M {τ : mv_S} (h : frQ σ τ) (hr : rf_M σ 62 k M) : rf_M τ 62 k M := ⟨(h.1 _ _ (by omega) (by omega)).trans hr.1, (h.1 _ _ (by omega) (by omega)).trans hr.2.1, (h.1 _ _ (by omega) (by omega)).trans hr.2.2.1, fun j hj => (h.1 _ _ (by omega) (by omega)).trans (hr.2.2.2 j hj)⟩
/-- what is as a point leads to where that leads, and is an end as that -/
theorem tw_go (hM : md_ok M) {y l : Nat} (hy : y < M.1) (hl : l < 3) : tw M M.1 (M.2.2.2 (3 * y + l)) = lnx M (tw M M.1 y) l := by
  unfold lnx
  apply tw_eq
  intro z
  have hty : tw M M.1 y < M.1 := Nat.lt_of_le_of_lt (tw_le _ _) hy
  refine tw_al (M := M) M.1 y (dA_all hM.1 (md_mv hM) hty hy (j := M.1 + 1) ?_)
  rw [dA_s]
  exact Or.inr ⟨l, hl, dA_sy _ _ _ z⟩
theorem tw_end (M : md_T) (y : Nat) : M.2.2.1.testBit (tw M M.1 y) = M.2.2.1.testBit y := by
  have h := tw_al (M := M) M.1 y
  have h0 : ¬ dA M 0 (tw M M.1 y) y = true := fun z => h (dA_le (Nat.zero_le _) z)
  have h0 : ¬ (M.2.2.1.testBit (tw M M.1 y) != M.2.2.1.testBit y) = true := h0
  cases e1 : M.2.2.1.testBit (tw M M.1 y) <;> cases e2 : M.2.2.1.testBit y <;> rw [e1, e2] at h0 <;> first | rfl | exact absurd rfl h0
theorem srt_tw (hM : md_ok M) (x : Nat) : srt M M.1 x = tw M M.1 x := by
  obtain ⟨m, hm⟩ : ∃ m, M.1 = m + 1 := ⟨M.1 - 1, by have := hM.1; omega⟩
  rw [hm]
  rfl
theorem r_flL {p : Nat} (hk : k < 3) (hM : md_ok M) (hr : rf_M σ 62 k M) (hp : p < 4) {E : Nat}
    (hK : ∀ τ, nmR M (lS M (3 * p + 3)) τ → τ.1 61 8 = nI E → soI M M.1 τ → frQ σ τ → (∀ s, s < 3 * p + 3 → τ.1 65 s = nI (lT M (s / 3) (s % 3))) → τ.1 61 23 = -1 → mv_wf X (mv_wp X (d + 2)) m_Ref_findsLeast Q 70 [.ref 61, .int (nI k), .int (nI (p + 1)), .retAddr 0, .retAddr 0] [] τ) :
    ∀ r l (τ : mv_S), l + r = 3 → p < (lS M (3 * p + l)).1 → nmR M (lS M (3 * p + l)) τ → τ.1 61 8 = nI E → soI M M.1 τ → frQ σ τ → (∀ s, s < 3 * p + l → τ.1 65 s = nI (lT M (s / 3) (s % 3))) → τ.1 61 23 = -1 → mv_wf X (mv_wp X (d + 2)) m_Ref_findsLeast Q 105 [.ref 61, .int (nI k), .int (nI p), .int (nI l), .retAddr 0] [] τ := by
  intro r
  have h4 := md_4 hM
  induction r with
  | zero =>
    intro l τ hl hlt hn h8 hs hf hm h23
    obtain rfl : l = 3 := by omega
    refine h_Ref_findsLeast_105 ⟨fun _ => ?_, fun z => absurd (show (3 : Int32) ≤ nI 3 by decide) z⟩
    rw [nI_1]
    exact hK τ hn h8 hs hf hm h23
  | succ r ih =>
    intro l τ hl hlt hn h8 hs hf hm h23
    obtain ⟨y, hy, h69, hty⟩ := hn.2.2 p hlt
    have hs1 : (3 * p + l) / 3 = p := by omega
    have hs2 : (3 * p + l) % 3 = l := by omega
    have up := lS_up M (s := 3 * p + l) (by rw [hs1]; exact hlt)
    rw [hs1, hs2, ← hty, ← tw_go hM hy (show l < 3 by omega)] at up
    have pre := lS_pre (M := M) (s := 3 * p + l) (k := p) (by omega) hlt
    have mv := md_mv hM y l hy (by omega)
    have m1 := bf_mono1 (nx := lnx M) (q0 := tw M M.1 M.2.1) (J := 3) (3 * p + l)
    rw [← lS_eq, ← lS_eq] at m1
    have hle := lS_le hM (3 * p + l)
    have hle1 := lS_le hM (3 * p + l + 1)
    generalize hx : M.2.2.2 (3 * y + l) = x at *
    have hxs : τ.1 66 x = nI (tw M M.1 x) := by rw [hs x mv, srt_tw hM]
    have hc4 : tw M M.1 x < 4 := by have := tw_le (M := M) M.1 x; omega
    have ix := ix_up (S := lS M (3 * p + l)) (tw M M.1 x) (3 * p + l)
    rw [← up] at ix
    have ixF := lS_ix hM (s := 3 * p + l + 1) (by omega) ix
    have val : bf_ix (lS M (3 * p + l + 1)) (tw M M.1 x) = lT M p l := by
      rw [← ixF]
      unfold lT
      rw [pre.2, ← hty, ← tw_go hM hy (show l < 3 by omega), hx]
    have h68 := hn.2.1 (tw M M.1 x) hc4
    have v3 : (3 : Int32) * nI p + nI l = nI (3 * p + l) := by rw [show (3 : Int32) = nI 3 from rfl, pk_mul, nI_add]
    refine h_Ref_findsLeast_105 ⟨fun z => absurd z (nI_ge (b := 3) (by omega) (by omega)), fun _ => ⟨rfl, ⟨rfl, vp_in_nI (N := 4) (by omega) (by omega)⟩, rfl, ?_⟩⟩
    rw [nI_clamp (by omega), h69]
    refine r_toM hk (frQ_M hf hr) (by omega) (by omega) ⟨_, rfl, rfl, rfl, ⟨rfl, vp_in_nI (N := 4) (show M.2.2.2 (3 * y + l) < 4 by omega) (by omega)⟩, ?_⟩
    rw [hx, nI_clamp (by omega), hxs, v3, nI_clamp (n := 3 * p + l) (by omega), nI_clamp (n := tw M M.1 x) (by omega)]
    refine ⟨⟨rfl, vp_in_nI (N := 4) hc4 (by omega)⟩, ?_⟩
    by_cases e : bf_ix (lS M (3 * p + l)) (tw M M.1 x) < (lS M (3 * p + l)).1
    · have eu : lS M (3 * p + l + 1) = lS M (3 * p + l) := up.trans (if_pos e)
      rw [if_pos e, ← eu, val] at h68
      have hlt2 := lT_lt hM pre.1 (show l < 3 by omega)
      have hF4 := lF_4 hM
      have hne : ¬ nI (lT M p l) = (-1 : Int32) := by rw [fa_eq, nI_toInt (by omega), nI_m1]; omega
      rw [h68]
      refine ⟨fun _ => ⟨rfl, rfl, rfl, ⟨rfl, vp_in_nI (N := 4) (by omega) (by omega)⟩, ⟨rfl, vp_in_nI (N := 4) hc4 (by omega)⟩, ⟨rfl, vp_in_nI (N := 12) (by omega) (by omega)⟩, ?_⟩, fun z => absurd z hne⟩
      rw [nI_1]
      refine ih (l + 1) _ (by omega) (by rw [← Nat.add_assoc, eu]; exact hlt) ?_ ?_ (fun x2 hx2 => ?_) ⟨fun c j q1 q2 => ?_, hf.2⟩ (fun s hs => ?_) ?_
      · rw [← Nat.add_assoc, eu]
        refine ⟨?_, fun x2 hx2 => ?_, fun i hi => ?_⟩
        · rw [mv_rn (by omega)]; exact hn.1
        · rw [mv_rn (by omega)]; exact hn.2.1 x2 hx2
        · rw [mv_rn (by omega)]; exact hn.2.2 i hi
      · rw [mv_rn (by omega)]; exact h8
      · rw [mv_rn (by omega)]; exact hs x2 hx2
      · rw [mv_rn (by omega)]; exact hf.1 c j q1 q2
      · by_cases es : s = 3 * p + l
        · subst es; rw [mv_rd, hs1, hs2]
        · rw [mv_rn (by omega)]; exact hm s (by omega)
      · rw [mv_rn (by omega)]; exact h23
    · have eu : lS M (3 * p + l + 1) = bf_add (lS M (3 * p + l)) (tw M M.1 x) (3 * p + l) := up.trans (if_neg e)
      rw [if_neg e] at h68
      rw [eu, ix_add e, if_neg e, if_pos rfl] at val
      rw [eu, add_1] at hle1
      generalize hS : lS M (3 * p + l) = S at *
      rw [h68]
      refine ⟨fun z => absurd rfl z, fun _ => ⟨rfl, rfl, ⟨rfl, vp_in_nI (N := 4) (by omega) (by omega)⟩, rfl, ⟨rfl, vp_in_nI (N := 4) hc4 (by omega)⟩, rfl, rfl, ?_⟩⟩
      rw [hn.1]
      rw [show (mv_pi τ 68 (tw M M.1 x) (nI S.1)).1 61 7 = nI S.1 from (mv_rn (by omega)).trans hn.1, nI_clamp (n := S.1) (by omega)]
      refine ⟨⟨rfl, vp_in_nI (N := 4) (by omega) (by omega)⟩, rfl, rfl, rfl, rfl, rfl, ⟨rfl, vp_in_nI (N := 4) (by omega) (by omega)⟩, ?_⟩
      generalize hυ : mv_pi (mv_pi τ 68 (tw M M.1 x) (nI S.1)) 69 S.1 (nI x) = υ
      have u0 : ∀ c j, ¬ (c = 68 ∧ j = tw M M.1 x) → ¬ (c = 69 ∧ j = S.1) → υ.1 c j = τ.1 c j := fun c j q1 q2 => by rw [← hυ, mv_rn q2, mv_rn q1]
      have u68 : υ.1 68 (tw M M.1 x) = nI S.1 := by rw [← hυ, mv_rn (by omega), mv_rd]
      have u69 : υ.1 69 S.1 = nI x := by rw [← hυ, mv_rd]
      have u2 : υ.2 = τ.2 := by rw [← hυ]; rfl
      rw [u0 61 7 (by omega) (by omega), hn.1, nI_1]
      rw [show ∀ v, (mv_pi υ 61 7 v).1 66 x = nI (tw M M.1 x) from fun v => by rw [mv_rn (by omega), u0 66 x (by omega) (by omega)]; exact hxs]
      rw [nI_clamp (n := tw M M.1 x) (by omega)]
      rw [show ∀ v, (mv_pi υ 61 7 v).1 68 (tw M M.1 x) = nI S.1 from fun v => by rw [mv_rn (by omega)]; exact u68]
      refine ⟨⟨rfl, vp_in_nI (N := 4) hc4 (by omega)⟩, ⟨rfl, vp_in_nI (N := 12) (by omega) (by omega)⟩, ?_⟩
      rw [nI_1]
      refine ih (l + 1) _ (by omega) (by rw [← Nat.add_assoc, eu, add_1]; omega) ?_ ?_ (fun x2 hx2 => ?_) ⟨fun c j q1 q2 => ?_, u2.trans hf.2⟩ (fun s hs => ?_) ?_
      · rw [← Nat.add_assoc, eu]
        refine ⟨?_, fun x2 hx2 => ?_, fun i hi => ?_⟩
        · rw [mv_rn (by omega), mv_rd]; rfl
        · rw [mv_rn (by omega), mv_rn (by omega), ix_add e, add_1]
          by_cases ex : x2 = tw M M.1 x
          · rw [ex, u68, if_neg e, if_pos rfl, if_pos (by omega)]
          · rw [u0 68 x2 (by omega) (by omega), hn.2.1 x2 hx2]
            by_cases e2 : bf_ix S x2 < S.1
            · rw [if_pos e2, if_pos e2, if_pos (by omega)]
            · rw [if_neg e2, if_neg e2, if_neg ex, if_neg (by omega)]
        · rw [add_1] at hi
          rw [mv_rn (by omega), mv_rn (by omega)]
          by_cases ei : i = S.1
          · subst ei
            exact ⟨x, mv, u69, ((add_n S _ _).1).symm⟩
          · rw [u0 69 i (by omega) (by omega), (add_o S _ _ ei).1]
            exact hn.2.2 i (by omega)
      · rw [mv_rn (by omega), mv_rn (by omega), u0 _ _ (by omega) (by omega)]; exact h8
      · rw [mv_rn (by omega), mv_rn (by omega), u0 _ _ (by omega) (by omega)]; exact hs x2 hx2
      · rw [mv_rn (by omega), mv_rn (by omega), u0 _ _ (by omega) (by omega)]; exact hf.1 c j q1 q2
      · by_cases es : s = 3 * p + l
        · subst es; rw [mv_rd, hs1, hs2, val]
        · rw [mv_rn (by omega), mv_rn (by omega), u0 _ _ (by omega) (by omega)]; exact hm s (by omega)
      · rw [mv_rn (by omega), mv_rn (by omega), u0 _ _ (by omega) (by omega)]; exact h23
theorem r_findsLeast (hk : k < 3) (hM : md_ok M) (hr : rf_M σ 62 k M) (hQ : ∀ τ, lpR M τ → frQ σ τ → τ.1 61 23 = -1 → Q none τ) : mv_wp X (d + 4) 172 [.ref 61, .int (nI k)] σ Q := by
  have h4 := md_4 hM
  have outer : ∀ r p (τ : mv_S), p + r = 4 → p ≤ (lS M (3 * p)).1 → nmR M (lS M (3 * p)) τ → τ.1 61 8 = nI (bs (fun i => M.2.2.1.testBit ((lF M).2.1 i)) p) → soI M M.1 τ → frQ σ τ → (∀ s, s < 3 * p → τ.1 65 s = nI (lT M (s / 3) (s % 3))) → τ.1 61 23 = -1 → mv_wf X (mv_wp X (d + 3)) m_Ref_findsLeast Q 70 [.ref 61, .int (nI k), .int (nI p), .retAddr 0, .retAddr 0] [] τ := by
    intro r
    have fin : ∀ p (τ : mv_S), (lS M (3 * p)).1 = p → nmR M (lS M (3 * p)) τ → τ.1 61 8 = nI (bs (fun i => M.2.2.1.testBit ((lF M).2.1 i)) p) → frQ σ τ → (∀ s, s < 3 * p → τ.1 65 s = nI (lT M (s / 3) (s % 3))) → τ.1 61 23 = -1 → Q none τ := by
      intro p τ e hn h8 hf hm h23
      have eF := lS_end hM e
      rw [eF] at hn e
      refine hQ τ ⟨hn.1, ?_, fun i l hi hl => ?_⟩ hf h23
      · rw [h8]; unfold lE; rw [e]
      · have := hm (3 * i + l) (by omega)
        rw [show (3 * i + l) / 3 = i by omega, show (3 * i + l) % 3 = l by omega] at this
        exact this
    induction r with
    | zero =>
      intro p τ hp hle hn h8 hs hf hm h23
      have h5 := lS_le hM (3 * p)
      have e : (lS M (3 * p)).1 = p := by omega
      refine h_Ref_findsLeast_70 ⟨rfl, ?_⟩
      rw [hn.1, e]
      exact ⟨fun _ => fin p τ e hn h8 hf hm h23, fun z => absurd (nI_le (Nat.le_refl _) (by omega)) z⟩
    | succ r ih =>
      intro p τ hp hle hn h8 hs hf hm h23
      have h5 := lS_le hM (3 * p)
      refine h_Ref_findsLeast_70 ⟨rfl, ?_⟩
      rw [hn.1]
      by_cases e : (lS M (3 * p)).1 = p
      · rw [e]
        exact ⟨fun _ => fin p τ e hn h8 hf hm h23, fun z => absurd (nI_le (Nat.le_refl _) (by omega)) z⟩
      · have hlt : p < (lS M (3 * p)).1 := by omega
        have pre := lS_pre (M := M) (s := 3 * p) (k := p) (by omega) hlt
        obtain ⟨y, hy, h69, hty⟩ := hn.2.2 p hlt
        refine ⟨fun z => absurd z (nI_ge hlt (by omega)), fun _ => ⟨rfl, rfl, ⟨rfl, vp_in_nI (N := 4) (by omega) (by omega)⟩, rfl, ?_⟩⟩
        rw [nI_clamp (by omega), h69]
        refine r_isEndM hk hM (frQ_M hf hr) (by omega) ⟨_, rfl, ?_⟩
        refine r_bit.mpr ⟨_, rfl, rfl, ?_⟩
        have m3 := bf_mono (nx := lnx M) (q0 := tw M M.1 M.2.1) (J := 3) (3 * p) 3
        rw [← lS_eq, ← lS_eq] at m3
        have hb := bs_lt (fun i => M.2.2.1.testBit ((lF M).2.1 i)) p
        have hp2 : (2 : Nat) ^ p ≤ 2 ^ 4 := Nat.pow_le_pow_right (by decide) (by omega)
        have eE : (nI (bs (fun i => M.2.2.1.testBit ((lF M).2.1 i)) p) ||| ((if M.2.2.1.testBit y = true then (1 : Int32) else 0) <<< (nI p &&& 31))) = nI (bs (fun i => M.2.2.1.testBit ((lF M).2.1 i)) (p + 1)) := by
          show _ = nI (bs (fun i => M.2.2.1.testBit ((lF M).2.1 i)) p + if M.2.2.1.testBit ((lF M).2.1 p) = true then 2 ^ p else 0)
          rw [pre.2, ← hty, tw_end]
          by_cases eb : M.2.2.1.testBit y = true
          · rw [if_pos eb, if_pos eb, tb_set (by omega), Nat.add_comm, show 2 ^ p + bs (fun i => M.2.2.1.testBit ((lF M).2.1 i)) p = 2 ^ p * 1 + bs (fun i => M.2.2.1.testBit ((lF M).2.1 i)) p by omega, Nat.two_pow_add_eq_or_of_lt hb, Nat.mul_one, Nat.or_comm]
          · rw [if_neg eb, if_neg eb, Nat.add_zero, show (0 : Int32) = nI 0 from rfl, q_shl (by omega) (by rw [Nat.zero_mul]; omega), Nat.zero_mul, fa_or, Nat.or_zero]
        rw [h8, eE]
        refine r_flL (σ := σ) (d := d + 1) hk hM hr (by omega) (fun τ2 q1 q2 q3 q4 q5 q6 => ih (p + 1) τ2 (by omega) (Nat.le_trans hlt m3.1) q1 q2 q3 q4 q5 q6) 3 0 _ rfl hlt ⟨?_, fun x hx => ?_, fun i hi => ?_⟩ mv_rd (fun x hx => ?_) ⟨fun c j q1 q2 => ?_, hf.2⟩ (fun s hs => ?_) ?_
        · rw [mv_rn (by omega)]; exact hn.1
        · rw [mv_rn (by omega)]; exact hn.2.1 x hx
        · rw [mv_rn (by omega)]; exact hn.2.2 i hi
        · rw [mv_rn (by omega)]; exact hs x hx
        · rw [mv_rn (by omega)]; exact hf.1 c j q1 q2
        · rw [mv_rn (by omega)]; exact hm s (by omega)
        · rw [mv_rn (by omega)]; exact h23
  have fill : ∀ r x (τ : mv_S), x + r = 4 → (∀ y, y < x → τ.1 68 y = -1) → soI M M.1 τ → frQ σ τ → τ.1 61 23 = -1 → mv_wf X (mv_wp X (d + 3)) m_Ref_findsLeast Q 12 [.ref 61, .int (nI k), .int (nI x), .retAddr 0, .retAddr 0] [] τ := by
    intro r
    induction r with
    | zero =>
      intro x τ hx h68 hs hf h23
      obtain rfl : x = 4 := by omega
      have hst := hM.2.2.1
      have hxs : τ.1 66 M.2.1 = nI (tw M M.1 M.2.1) := by rw [hs _ hst, srt_tw hM]
      have hc4 : tw M M.1 M.2.1 < 4 := by have := tw_le (M := M) M.1 M.2.1; omega
      have v00 : vp_in 0 (mv_ln 69) := vp_in_nI (n := 0) (N := 4) (by decide) (by decide)
      refine h_Ref_findsLeast_12 ⟨fun _ => ⟨rfl, rfl, ?_⟩, fun z => absurd (show (4 : Int32) ≤ nI 4 by decide) z⟩
      refine r_startM hk (frQ_M hf hr) ⟨_, rfl, ⟨rfl, v00⟩, rfl, rfl, rfl, ⟨rfl, v00⟩, ?_⟩
      rw [show (0 : Int32).toNatClampNeg = 0 from rfl, mv_rd, nI_clamp (n := M.2.1) (by omega), show (mv_pi τ 69 0 (nI M.2.1)).1 66 M.2.1 = nI (tw M M.1 M.2.1) from (mv_rn (by omega)).trans hxs, nI_clamp (n := tw M M.1 M.2.1) (by omega)]
      refine ⟨⟨rfl, vp_in_nI (N := 4) (by omega) (by omega)⟩, ⟨rfl, vp_in_nI (N := 4) hc4 (by omega)⟩, rfl, rfl, ?_⟩
      refine outer 4 0 _ rfl (Nat.zero_le _) ⟨?_, fun x hx => ?_, fun i hi => ?_⟩ mv_rd (fun x hx => ?_) ⟨fun c j q1 q2 => ?_, hf.2⟩ (fun s hs => absurd hs (Nat.not_lt_zero _)) ?_
      · rw [mv_rn (by omega), mv_rd]; rfl
      · rw [mv_rn (by omega), mv_rn (by omega)]
        have e0 : ¬ bf_ix ((0, fun _ => tw M M.1 M.2.1, fun _ => 0) : bf_T) (tw M M.1 M.2.1) < 0 := Nat.not_lt_zero _
        have e1 : lS M (3 * 0) = bf_add (0, fun _ => tw M M.1 M.2.1, fun _ => 0) (tw M M.1 M.2.1) 0 := by rw [Nat.mul_zero, ← lS_0 M id]; exact if_neg e0
        rw [e1, ix_add e0, add_1]
        by_cases ex : x = tw M M.1 M.2.1
        · rw [ex, mv_rd, if_neg (Nat.not_lt_zero _), if_pos rfl, if_pos (show (0 : Nat) < 0 + 1 by decide)]; rfl
        · rw [mv_rn (by omega), mv_rn (by omega), h68 x hx, if_neg (Nat.not_lt_zero _), if_neg ex, if_neg (show ¬ (0 : Nat) + 1 < 0 + 1 by decide)]
      · have hi : i < 1 := hi
        obtain rfl : i = 0 := by omega
        exact ⟨M.2.1, hst, by rw [mv_rn (by omega), mv_rn (by omega), mv_rn (by omega), mv_rd], rfl⟩
      · rw [mv_rn (by omega), mv_rn (by omega), mv_rn (by omega), mv_rn (by omega)]; exact hs x hx
      · rw [mv_rn (by omega), mv_rn (by omega), mv_rn (by omega), mv_rn (by omega)]; exact hf.1 c j q1 q2
      · rw [mv_rn (by omega), mv_rn (by omega), mv_rn (by omega), mv_rn (by omega)]; exact h23
    | succ r ih =>
      intro x τ hx h68 hs hf h23
      refine h_Ref_findsLeast_12 ⟨fun z => absurd z (nI_ge (b := 4) (by omega) (by omega)), fun _ => ⟨rfl, ⟨rfl, vp_in_nI (N := 4) (by omega) (by omega)⟩, ?_⟩⟩
      rw [nI_clamp (by omega), nI_1]
      refine ih (x + 1) _ (by omega) (fun y hy => ?_) (fun y hy => ?_) ⟨fun c j q1 q2 => ?_, hf.2⟩ ?_
      · by_cases e : y = x
        · subst e; exact mv_rd
        · rw [mv_rn (by omega)]; exact h68 y (by omega)
      · rw [mv_rn (by omega)]; exact hs y hy
      · rw [mv_rn (by omega)]; exact hf.1 c j q1 q2
      · rw [mv_rn (by omega)]; exact h23
  refine w_Ref_findsLeast ⟨rfl, rfl, ?_⟩
  have f0 : frQ σ (mv_pi σ 61 23 (-1)) := ⟨fun c j q1 q2 => mv_rn (by omega), rfl⟩
  refine r_partsPoints hk hM (frQ_M f0 hr) (fun τ p1 p2 => ⟨rfl, ?_⟩)
  refine fill 4 0 τ rfl (fun y hy => absurd hy (Nat.not_lt_zero _)) p1 ⟨fun c j q1 q2 => (p2.1 c j (by omega) (by omega)).trans (mv_rn (by omega)), p2.2⟩ ?_
  rw [p2.1 61 23 (by omega) (by omega), mv_rd]
end RLEAST2
