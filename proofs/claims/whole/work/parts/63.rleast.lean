/-! ===== the reference finds THE LEAST ===== -/
def srt (M : md_T) : Nat → Nat → Nat
  | 0, p => if M.2.2.1.testBit p = true then 1 else 0
  | r + 1, p => tw M (r + 1) p
theorem srt_iff {M : md_T} : ∀ r p q, srt M r p = srt M r q ↔ ¬ dA M r p q = true
  | 0, p, q => by
    show ((if M.2.2.1.testBit p = true then 1 else 0) = if M.2.2.1.testBit q = true then 1 else 0) ↔ ¬ (M.2.2.1.testBit p != M.2.2.1.testBit q) = true
    cases M.2.2.1.testBit p <;> cases M.2.2.1.testBit q <;> decide
  | r + 1, p, q => tw_iff
theorem srt_lt {M : md_T} (r p : Nat) (hp : p < 4) : srt M r p < 4 := by
  cases r with
  | zero => show (if M.2.2.1.testBit p = true then 1 else 0) < 4; split <;> decide
  | succ r => exact Nat.lt_of_le_of_lt (tw_le _ _) hp
def alf (M : md_T) (r p q : Nat) : Nat → Nat → Bool → Bool
  | 0, _, b => b
  | n + 1, l, b => alf M r p q n (l + 1) (b && !dA M r (M.2.2.2 (3 * p + l)) (M.2.2.2 (3 * q + l)))
theorem alf_eq {M : md_T} (r p q : Nat) : alf M r p q 3 0 (!dA M r p q) = !dA M (r + 1) p q := by
  rw [Bool.eq_iff_iff]
  show ((((!dA M r p q) && !dA M r (M.2.2.2 (3 * p + 0)) (M.2.2.2 (3 * q + 0))) && !dA M r (M.2.2.2 (3 * p + 1)) (M.2.2.2 (3 * q + 1))) && !dA M r (M.2.2.2 (3 * p + 2)) (M.2.2.2 (3 * q + 2))) = true ↔ _
  have hs := dA_s (M := M) r p q
  have hm := dA_mo (M := M) r p q
  have h0 : dA M 0 p q = true → dA M r p q = true := fun z => dA_le (Nat.zero_le _) z
  cases e : dA M (r + 1) p q
  · have n1 : ¬ dA M (r + 1) p q = true := by rw [e]; decide
    have n2 : dA M r p q = false := Bool.eq_false_iff.mpr (fun z => n1 (hm z))
    have n3 : ∀ l, l < 3 → dA M r (M.2.2.2 (3 * p + l)) (M.2.2.2 (3 * q + l)) = false := fun l hl => Bool.eq_false_iff.mpr (fun z => n1 (hs.mpr (Or.inr ⟨l, hl, z⟩)))
    rw [n2, n3 0 (by decide), n3 1 (by decide), n3 2 (by decide)]
    decide
  · rcases hs.mp e with z | ⟨l, hl, z⟩
    · rw [h0 z]
      simp
    · rcases l3_cs hl with rfl | rfl | rfl <;> rw [z] <;> simp
def lw (P : Nat → Bool) (p : Nat) : Nat → Nat
  | 0 => p
  | i + 1 => if P (p - 1 - i) = true then p - 1 - i else lw P p i
theorem lw_ok (P : Nat → Bool) (p : Nat) : ∀ i, i ≤ p → p - i ≤ lw P p i ∧ lw P p i ≤ p ∧ (∀ x, p - i ≤ x → x < lw P p i → P x = false) ∧ (lw P p i < p → P (lw P p i) = true)
  | 0, _ => ⟨by show p - 0 ≤ p; omega, Nat.le_refl _, fun x h1 h2 => absurd (show x < p from h2) (by omega), fun h => absurd h (Nat.lt_irrefl _)⟩
  | i + 1, hi => by
    obtain ⟨a, b, c, e⟩ := lw_ok P p i (by omega)
    show p - (i + 1) ≤ (if P (p - 1 - i) = true then p - 1 - i else lw P p i) ∧ (if P (p - 1 - i) = true then p - 1 - i else lw P p i) ≤ p ∧ (∀ x, p - (i + 1) ≤ x → x < (if P (p - 1 - i) = true then p - 1 - i else lw P p i) → P x = false) ∧ ((if P (p - 1 - i) = true then p - 1 - i else lw P p i) < p → P (if P (p - 1 - i) = true then p - 1 - i else lw P p i) = true)
    by_cases h : P (p - 1 - i) = true
    · rw [if_pos h]
      exact ⟨by omega, by omega, fun x h1 h2 => by omega, fun _ => h⟩
    · rw [if_neg h]
      refine ⟨by omega, b, fun x h1 h2 => ?_, e⟩
      by_cases ex : x = p - 1 - i
      · rw [ex]; exact Bool.eq_false_iff.mpr h
      · exact c x (by omega) h2
theorem lw_all (P : Nat → Bool) (p : Nat) : lw P p p = fa_first P p := by
  obtain ⟨a, b, c, e⟩ := lw_ok P p p (Nat.le_refl _)
  by_cases h : lw P p p < p
  · exact (ff_eq (fun k hk => c k (by omega) hk) h (e h)).symm
  · have h1 : lw P p p = p := by omega
    have h2 : ¬ fa_first P p < p := ff_none (fun k hk => c k (by omega) (by omega))
    have h3 := fa_first_le P p
    omega
section RLEAST
variable {X : mv_X} {d : Nat} {σ : mv_S} {Q : mv_Q} {M : md_T} {k : Nat}
def soI (M : md_T) (r : Nat) (σ : mv_S) : Prop := ∀ p, p < M.1 → σ.1 66 p = nI (srt M r p)
theorem r_areAlike {r p q : Nat} (hk : k < 3) (hM : md_ok M) (hr : rf_M σ 62 k M) (hs : soI M r σ) (hp : p < M.1) (hq : q < M.1) (hQ : Q (some (.int (if (!dA M (r + 1) p q) = true then 1 else 0))) σ) : mv_wp X (d + 2) 171 [.ref 61, .int (nI k), .int (nI p), .int (nI q)] σ Q := by
  have h4 := md_4 hM
  have cmp : ∀ x y, x < M.1 → y < M.1 → (nI (srt M r x) = nI (srt M r y) ↔ ¬ dA M r x y = true) := fun x y hx hy => by
    have h1 := srt_lt (M := M) r x (by omega)
    have h2 := srt_lt (M := M) r y (by omega)
    rw [nI_eq (by omega) (by omega), srt_iff]
  have loop : ∀ n l b, l + n = 3 → (!dA M (r + 1) p q) = alf M r p q n l b → mv_wf X (mv_wp X (d + 1)) m_Ref_areAlike Q 25 [.ref 61, .int (nI k), .int (nI p), .int (nI q), .int (if b = true then 1 else 0), .int (nI l)] [] σ := by
    intro n
    induction n with
    | zero =>
      intro l b hl he
      obtain rfl : l = 3 := by omega
      have he : (!dA M (r + 1) p q) = b := he
      rw [he] at hQ
      exact h_Ref_areAlike_25 ⟨fun _ => ⟨bI_01 _, hQ⟩, fun z => absurd (show (3 : Int32) ≤ nI 3 by decide) z⟩
    | succ n ih =>
      intro l b hl he
      have he : (!dA M (r + 1) p q) = alf M r p q n (l + 1) (b && !dA M r (M.2.2.2 (3 * p + l)) (M.2.2.2 (3 * q + l))) := he
      refine h_Ref_areAlike_25 ⟨fun z => absurd z (nI_ge (b := 3) (by omega) (by omega)), fun _ => ?_⟩
      rw [nI_1]
      cases b with
      | false =>
        refine ⟨fun _ => ?_, fun z => absurd rfl z⟩
        rw [Bool.false_and] at he
        exact ih (l + 1) false (by omega) he
      | true =>
        rw [Bool.true_and] at he
        refine ⟨fun z => absurd z (by decide), fun _ => ⟨rfl, rfl, ?_⟩⟩
        have mp := md_mv hM p l hp (by omega)
        have mq := md_mv hM q l hq (by omega)
        refine r_toM hk hr (by omega) (by omega) ⟨_, rfl, ⟨rfl, vp_in_nI (N := 4) (by omega) (by omega)⟩, rfl, rfl, ?_⟩
        refine r_toM hk hr (by omega) (by omega) ⟨_, rfl, ⟨rfl, vp_in_nI (N := 4) (by omega) (by omega)⟩, ?_⟩
        rw [nI_clamp (by omega), nI_clamp (by omega), hs _ mp, hs _ mq]
        have c := cmp _ _ mp mq
        by_cases e : dA M r (M.2.2.2 (3 * p + l)) (M.2.2.2 (3 * q + l)) = true
        · rw [e] at he
          exact ⟨fun _ => ih (l + 1) false (by omega) he, fun z => absurd e (c.mp z)⟩
        · rw [Bool.eq_false_iff.mpr e] at he
          exact ⟨fun z => absurd (c.mpr e) z, fun _ => ih (l + 1) true (by omega) he⟩
  refine w_Ref_areAlike ⟨rfl, ⟨rfl, vp_in_nI (N := 4) (by omega) (by omega)⟩, rfl, ⟨rfl, vp_in_nI (N := 4) (by omega) (by omega)⟩, ?_⟩
  rw [nI_clamp (by omega), nI_clamp (by omega), hs _ hp, hs _ hq]
  have c := cmp _ _ hp hq
  have ae := (alf_eq (M := M) r p q).symm
  by_cases e : dA M r p q = true
  · rw [e] at ae
    exact ⟨fun _ => loop 3 0 false rfl ae, fun z => absurd e (c.mp z)⟩
  · rw [Bool.eq_false_iff.mpr e] at ae
    exact ⟨fun z => absurd (c.mpr e) z, fun _ => loop 3 0 true rfl ae⟩
def frP (σ τ : mv_S) : Prop := (∀ c j, ¬ c = 66 → ¬ c = 67 → τ.1 c j = σ.1 c j) ∧ τ.2 = σ.2
theorem frP_M {τ : mv_S} (h : frP σ τ) (hr : rf_M σ 62 k M) : rf_M τ 62 k M := ⟨(h.1 _ _ (by omega) (by omega)).trans hr.1, (h.1 _ _ (by omega) (by omega)).trans hr.2.1, (h.1 _ _ (by omega) (by omega)).trans hr.2.2.1, fun j hj => (h.1 _ _ (by omega) (by omega)).trans (hr.2.2.2 j hj)⟩
theorem r_ppQ {r p : Nat} (hk : k < 3) (hM : md_ok M) (hr : rf_M σ 62 k M) (hp : p < M.1)
    (hK : ∀ τ, soI M r τ → frP σ τ → (∀ x, x ≤ p → τ.1 67 x = nI (tw M (r + 1) x)) → mv_wf X (mv_wp X (d + 2)) m_Ref_partsPoints Q 44 [.ref 61, .int (nI k), .int (nI M.1), .int (nI r), .int (nI (p + 1)), .retAddr 0] [] τ) :
    ∀ n i (τ : mv_S), i + n = p → soI M r τ → frP σ τ → (∀ x, x < p → τ.1 67 x = nI (tw M (r + 1) x)) → τ.1 67 p = nI (lw (fun q => !dA M (r + 1) q p) p i) → mv_wf X (mv_wp X (d + 2)) m_Ref_partsPoints Q 65 [.ref 61, .int (nI k), .int (nI M.1), .int (nI r), .int (nI p), .int (nI n - 1)] [] τ := by
  intro n
  have h4 := md_4 hM
  induction n with
  | zero =>
    intro i τ hi hs hf hx h7
    obtain rfl : i = p := by omega
    refine h_Ref_partsPoints_65 ⟨fun _ => ?_, fun z => absurd (show nI 0 - 1 < (0 : Int32) by decide) z⟩
    rw [nI_1]
    refine hK τ hs hf (fun x hx2 => ?_)
    by_cases e : x = i
    · subst e; rw [h7, lw_all]; rfl
    · exact hx x (by omega)
  | succ n ih =>
    intro i τ hi hs hf hx h7
    rw [show nI (n + 1) - 1 = nI n from pk_sub (b := 1) (by omega)]
    refine h_Ref_partsPoints_65 ⟨fun z => absurd z (nI_pos (by omega)), fun _ => ⟨rfl, rfl, ?_⟩⟩
    refine r_areAlike hk hM (frP_M hf hr) hs hp (show n < M.1 by omega) ⟨_, rfl, ?_⟩
    have sy : dA M (r + 1) p n = dA M (r + 1) n p := by
      rw [Bool.eq_iff_iff]
      exact ⟨dA_sy _ _ _, dA_sy _ _ _⟩
    rw [sy, nI_clamp (by omega), show nI n + (-1) = nI n - 1 from (Int32.sub_eq_add_neg _ _).symm]
    have en : p - 1 - i = n := by omega
    have e7 : lw (fun q => !dA M (r + 1) q p) p (i + 1) = if (!dA M (r + 1) n p) = true then n else lw (fun q => !dA M (r + 1) q p) p i := by
      show (if (!dA M (r + 1) (p - 1 - i) p) = true then p - 1 - i else lw (fun q => !dA M (r + 1) q p) p i) = _
      rw [en]
    by_cases e : (!dA M (r + 1) n p) = true
    · rw [if_pos e] at e7 ⊢
      refine ⟨fun z => absurd z (by decide), fun _ => ⟨⟨rfl, vp_in_nI (N := 4) (by omega) (by omega)⟩, ?_⟩⟩
      refine ih (i + 1) _ (by omega) (fun x hx2 => ?_) ⟨fun c j q1 q2 => ?_, hf.2⟩ (fun x hx2 => ?_) ?_
      · rw [mv_rn (by omega)]; exact hs x hx2
      · rw [mv_rn (by omega)]; exact hf.1 c j q1 q2
      · rw [mv_rn (by omega)]; exact hx x hx2
      · rw [mv_rd, e7]
    · rw [if_neg e] at e7 ⊢
      refine ⟨fun _ => ⟨rfl, ⟨rfl, vp_in_nI (N := 4) (by omega) (by omega)⟩, ⟨rfl, vp_in_nI (N := 4) (by omega) (by omega)⟩, ?_⟩, fun z => absurd rfl z⟩
      refine ih (i + 1) _ (by omega) (fun x hx2 => ?_) ⟨fun c j q1 q2 => ?_, hf.2⟩ (fun x hx2 => ?_) ?_
      · rw [mv_rn (by omega)]; exact hs x hx2
      · rw [mv_rn (by omega)]; exact hf.1 c j q1 q2
      · rw [mv_rn (by omega)]; exact hx x hx2
      · rw [mv_rd, e7]; exact h7
theorem r_ppP {r : Nat} (hk : k < 3) (hM : md_ok M) (hr : rf_M σ 62 k M)
    (hK : ∀ τ, frP σ τ → (∀ x, x < M.1 → τ.1 67 x = nI (tw M (r + 1) x)) → mv_wf X (mv_wp X (d + 2)) m_Ref_partsPoints Q 116 [.ref 61, .int (nI k), .int (nI M.1), .int (nI r), .int (nI 0), .retAddr 0] [] τ) :
    ∀ n p (τ : mv_S), p + n = M.1 → soI M r τ → frP σ τ → (∀ x, x < p → τ.1 67 x = nI (tw M (r + 1) x)) → mv_wf X (mv_wp X (d + 2)) m_Ref_partsPoints Q 44 [.ref 61, .int (nI k), .int (nI M.1), .int (nI r), .int (nI p), .retAddr 0] [] τ := by
  intro n
  have h4 := md_4 hM
  induction n with
  | zero =>
    intro p τ hp hs hf hx
    exact h_Ref_partsPoints_44 ⟨fun _ => hK τ hf (fun x hx2 => hx x (by omega)), fun z => absurd (nI_le (by omega) (by omega)) z⟩
  | succ n ih =>
    intro p τ hp hs hf hx
    refine h_Ref_partsPoints_44 ⟨fun z => absurd z (nI_ge (by omega) (by omega)), fun _ => ⟨rfl, ⟨rfl, vp_in_nI (N := 4) (by omega) (by omega)⟩, ?_⟩⟩
    rw [nI_clamp (by omega)]
    refine r_ppQ (σ := σ) hk hM hr (by omega) (fun τ2 q1 q2 q3 => ih (p + 1) τ2 (by omega) q1 q2 (fun x hx2 => q3 x (by omega))) p 0 _ (by omega) (fun x hx2 => ?_) ⟨fun c j q1 q2 => ?_, hf.2⟩ (fun x hx2 => ?_) mv_rd
    · rw [mv_rn (by omega)]; exact hs x hx2
    · rw [mv_rn (by omega)]; exact hf.1 c j q1 q2
    · rw [mv_rn (by omega)]; exact hx x hx2
theorem r_ppC {r : Nat} (hM : md_ok M) (hK : ∀ τ, frP σ τ → soI M (r + 1) τ → mv_wf X (mv_wp X (d + 2)) m_Ref_partsPoints Q 36 [.ref 61, .int (nI k), .int (nI M.1), .int (nI (r + 1)), .retAddr 0, .retAddr 0] [] τ) :
    ∀ n p (τ : mv_S), p + n = M.1 → frP σ τ → (∀ x, x < M.1 → τ.1 67 x = nI (tw M (r + 1) x)) → (∀ x, x < p → τ.1 66 x = nI (tw M (r + 1) x)) → mv_wf X (mv_wp X (d + 2)) m_Ref_partsPoints Q 116 [.ref 61, .int (nI k), .int (nI M.1), .int (nI r), .int (nI p), .retAddr 0] [] τ := by
  intro n
  have h4 := md_4 hM
  induction n with
  | zero =>
    intro p τ hp hf hx hy
    refine h_Ref_partsPoints_116 ⟨fun _ => ?_, fun z => absurd (nI_le (by omega) (by omega)) z⟩
    rw [nI_1]
    exact hK τ hf (fun x hx2 => hy x (by omega))
  | succ n ih =>
    intro p τ hp hf hx hy
    refine h_Ref_partsPoints_116 ⟨fun z => absurd z (nI_ge (by omega) (by omega)), fun _ => ⟨rfl, rfl, ⟨rfl, vp_in_nI (N := 4) (by omega) (by omega)⟩, ⟨rfl, vp_in_nI (N := 4) (by omega) (by omega)⟩, ?_⟩⟩
    rw [nI_clamp (by omega), nI_1, hx p (by omega)]
    refine ih (p + 1) _ (by omega) ⟨fun c j q1 q2 => ?_, hf.2⟩ (fun x hx2 => ?_) (fun x hx2 => ?_)
    · rw [mv_rn (by omega)]; exact hf.1 c j q1 q2
    · rw [mv_rn (by omega)]; exact hx x hx2
    · by_cases e : x = p
      · subst e; exact mv_rd
      · rw [mv_rn (by omega)]; exact hy x (by omega)
theorem r_partsPoints (hk : k < 3) (hM : md_ok M) (hr : rf_M σ 62 k M) (hQ : ∀ τ, soI M M.1 τ → frP σ τ → Q none τ) : mv_wp X (d + 3) 170 [.ref 61, .int (nI k)] σ Q := by
  have h4 := md_4 hM
  have rounds : ∀ n r (τ : mv_S), r + n = M.1 → soI M r τ → frP σ τ → mv_wf X (mv_wp X (d + 2)) m_Ref_partsPoints Q 36 [.ref 61, .int (nI k), .int (nI M.1), .int (nI r), .retAddr 0, .retAddr 0] [] τ := by
    intro n
    induction n with
    | zero =>
      intro r τ hr2 hs hf
      obtain rfl : r = M.1 := by omega
      exact h_Ref_partsPoints_36 ⟨fun _ => hQ τ hs hf, fun z => absurd (nI_le (Nat.le_refl _) (by omega)) z⟩
    | succ n ih =>
      intro r τ hr2 hs hf
      refine h_Ref_partsPoints_36 ⟨fun z => absurd z (nI_ge (by omega) (by omega)), fun _ => ?_⟩
      exact r_ppP (σ := σ) hk hM hr (fun τ2 q1 q2 => r_ppC (σ := σ) hM (fun τ3 q3 q4 => ih (r + 1) τ3 (by omega) q4 q3) M.1 0 τ2 (by omega) q1 q2 (fun x hx => absurd hx (Nat.not_lt_zero _))) M.1 0 τ (by omega) hs hf (fun x hx => absurd hx (Nat.not_lt_zero _))
  have ends : ∀ n p (τ : mv_S), p + n = M.1 → (∀ x, x < p → τ.1 66 x = nI (srt M 0 x)) → frP σ τ → mv_wf X (mv_wp X (d + 2)) m_Ref_partsPoints Q 8 [.ref 61, .int (nI k), .int (nI M.1), .int (nI p), .retAddr 0, .retAddr 0] [] τ := by
    intro n
    induction n with
    | zero =>
      intro p τ hp hx hf
      exact h_Ref_partsPoints_8 ⟨fun _ => rounds M.1 0 τ (by omega) (fun x hx2 => hx x (by omega)) hf, fun z => absurd (nI_le (by omega) (by omega)) z⟩
    | succ n ih =>
      intro p τ hp hx hf
      refine h_Ref_partsPoints_8 ⟨fun z => absurd z (nI_ge (by omega) (by omega)), fun _ => ⟨rfl, rfl, ?_⟩⟩
      refine r_isEndM hk hM (frP_M hf hr) (by omega) ⟨_, rfl, ?_⟩
      refine r_bit.mpr ⟨_, rfl, ⟨rfl, vp_in_nI (N := 4) (by omega) (by omega)⟩, ?_⟩
      rw [nI_clamp (by omega), nI_1]
      refine ih (p + 1) _ (by omega) (fun x hx2 => ?_) ⟨fun c j q1 q2 => ?_, hf.2⟩
      · by_cases e : x = p
        · subst e
          rw [mv_rd]
          show _ = nI (if M.2.2.1.testBit x = true then 1 else 0)
          by_cases eb : M.2.2.1.testBit x = true
          · rw [if_pos eb, if_pos eb]; rfl
          · rw [if_neg eb, if_neg eb]; rfl
        · rw [mv_rn (by omega)]; exact hx x (by omega)
      · rw [mv_rn (by omega)]; exact hf.1 c j q1 q2
  refine w_Ref_partsPoints ⟨rfl, ?_⟩
  rw [r_pointsOf hk, hr.1]
  exact ⟨_, rfl, ends M.1 0 σ (by omega) (fun x hx => absurd hx (Nat.not_lt_zero _)) ⟨fun _ _ _ _ => rfl, rfl⟩⟩
end RLEAST
