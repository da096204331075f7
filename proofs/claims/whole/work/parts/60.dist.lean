/-! ===== which points words tell apart ===== -/
def dA (M : md_T) : Nat → Nat → Nat → Bool
  | 0, p, q => M.2.2.1.testBit p != M.2.2.1.testBit q
  | k + 1, p, q => (M.2.2.1.testBit p != M.2.2.1.testBit q) || (dA M k (M.2.2.2 (3 * p + 0)) (M.2.2.2 (3 * q + 0)) || (dA M k (M.2.2.2 (3 * p + 1)) (M.2.2.2 (3 * q + 1)) || dA M k (M.2.2.2 (3 * p + 2)) (M.2.2.2 (3 * q + 2))))
theorem l3_cs {l : Nat} (h : l < 3) : l = 0 ∨ l = 1 ∨ l = 2 := by omega
section DIST
variable {M : md_T}
theorem dA_s (k p q : Nat) : dA M (k + 1) p q = true ↔ dA M 0 p q = true ∨ ∃ l, l < 3 ∧ dA M k (M.2.2.2 (3 * p + l)) (M.2.2.2 (3 * q + l)) = true := by
  show ((M.2.2.1.testBit p != M.2.2.1.testBit q) || _) = true ↔ (M.2.2.1.testBit p != M.2.2.1.testBit q) = true ∨ _
  rw [Bool.or_eq_true, Bool.or_eq_true, Bool.or_eq_true]
  constructor
  · rintro (h | h | h | h)
    · exact Or.inl h
    · exact Or.inr ⟨0, by decide, h⟩
    · exact Or.inr ⟨1, by decide, h⟩
    · exact Or.inr ⟨2, by decide, h⟩
  · rintro (h | ⟨l, hl, h⟩)
    · exact Or.inl h
    · rcases l3_cs hl with rfl | rfl | rfl
      · exact Or.inr (Or.inl h)
      · exact Or.inr (Or.inr (Or.inl h))
      · exact Or.inr (Or.inr (Or.inr h))
theorem dA_rf : ∀ k p, ¬ dA M k p p = true
  | 0, p => by show ¬ (M.2.2.1.testBit p != M.2.2.1.testBit p) = true; simp
  | k + 1, p => by
    rw [dA_s]
    rintro (h | ⟨l, _, h⟩)
    · exact dA_rf 0 p h
    · exact dA_rf k _ h
theorem dA_sy : ∀ k p q, dA M k p q = true → dA M k q p = true
  | 0, p, q, h => by
    have h : (M.2.2.1.testBit p != M.2.2.1.testBit q) = true := h
    show (M.2.2.1.testBit q != M.2.2.1.testBit p) = true
    cases e1 : M.2.2.1.testBit p <;> cases e2 : M.2.2.1.testBit q <;> rw [e1, e2] at h <;> first | rfl | exact absurd h (by decide)
  | k + 1, p, q, h => by
    rw [dA_s] at h ⊢
    rcases h with h | ⟨l, hl, h⟩
    · exact Or.inl (dA_sy 0 p q h)
    · exact Or.inr ⟨l, hl, dA_sy k _ _ h⟩
theorem dA_tr : ∀ k p q r, dA M k p r = true → dA M k p q = true ∨ dA M k q r = true
  | 0, p, q, r, h => by
    have h : (M.2.2.1.testBit p != M.2.2.1.testBit r) = true := h
    show (M.2.2.1.testBit p != M.2.2.1.testBit q) = true ∨ (M.2.2.1.testBit q != M.2.2.1.testBit r) = true
    cases e1 : M.2.2.1.testBit p <;> cases e2 : M.2.2.1.testBit q <;> cases e3 : M.2.2.1.testBit r <;> rw [e1, e3] at h <;> first | exact Or.inl rfl | exact Or.inr rfl | exact absurd h (by decide)
  | k + 1, p, q, r, h => by
    rw [dA_s] at h
    rw [dA_s, dA_s]
    rcases h with h | ⟨l, hl, h⟩
    · rcases dA_tr 0 p q r h with g | g
      · exact Or.inl (Or.inl g)
      · exact Or.inr (Or.inl g)
    · rcases dA_tr k _ (M.2.2.2 (3 * q + l)) _ h with g | g
      · exact Or.inl (Or.inr ⟨l, hl, g⟩)
      · exact Or.inr (Or.inr ⟨l, hl, g⟩)
theorem dA_mo : ∀ k p q, dA M k p q = true → dA M (k + 1) p q = true
  | 0, p, q, h => (dA_s 0 p q).mpr (Or.inl h)
  | k + 1, p, q, h => by
    rw [dA_s] at h ⊢
    rcases h with h | ⟨l, hl, h⟩
    · exact Or.inl h
    · exact Or.inr ⟨l, hl, dA_mo k _ _ h⟩
theorem dA_le {j k : Nat} (h : j ≤ k) {p q : Nat} (g : dA M j p q = true) : dA M k p q = true := by
  obtain ⟨i, rfl⟩ : ∃ i, k = j + i := ⟨k - j, by omega⟩
  clear h
  induction i with
  | zero => exact g
  | succ i ih => exact dA_mo _ _ _ ih
theorem dA_eq_tr {k p q r : Nat} (h1 : ¬ dA M k p q = true) (h2 : ¬ dA M k q r = true) : ¬ dA M k p r = true := fun z => (dA_tr k p q r z).elim h1 h2
/-- the first point that isn't told apart -/
def tw (M : md_T) (k p : Nat) : Nat := fa_first (fun q => !dA M k q p) p
theorem tw_le (k p : Nat) : tw M k p ≤ p := fa_first_le _ _
theorem tw_al (k p : Nat) : ¬ dA M k (tw M k p) p = true := by
  by_cases h : tw M k p < p
  · have := fa_first_yes (fun q => !dA M k q p) p h
    show ¬ dA M k (fa_first (fun q => !dA M k q p) p) p = true
    intro z
    rw [z] at this
    exact absurd this (by decide)
  · have : tw M k p = p := by have := tw_le (M := M) k p; omega
    rw [this]
    exact dA_rf k p
theorem tw_no {k p a : Nat} (h : a < tw M k p) : dA M k a p = true := by
  have := fa_first_no (fun q => !dA M k q p) p a h
  cases e : dA M k a p
  · rw [e] at this; exact absurd this (by decide)
  · rfl
theorem tw_eq {k p q : Nat} (h : ¬ dA M k p q = true) : tw M k p = tw M k q := by
  have key : ∀ p q, ¬ dA M k p q = true → ¬ tw M k p < tw M k q := by
    intro p q h z
    exact dA_eq_tr (tw_al k p) h (tw_no z)
  have h1 := key p q h
  have h2 := key q p (fun z => h (dA_sy k q p z))
  omega
theorem tw_iff {k p q : Nat} : tw M k p = tw M k q ↔ ¬ dA M k p q = true := by
  refine ⟨fun h => ?_, tw_eq⟩
  have h1 := tw_al (M := M) k p
  have h2 := tw_al (M := M) k q
  rw [h] at h1
  exact dA_eq_tr (fun z => h1 (dA_sy _ _ _ z)) h2
theorem tw_tw (k p : Nat) : tw M k (tw M k p) = tw M k p := tw_eq (tw_al k p)
theorem cnt_lt {P P' : Nat → Bool} : ∀ n, (∀ p, p < n → P p = true → P' p = true) → (∃ b, b < n ∧ P' b = true ∧ ¬ P b = true) → fa_cnt P n < fa_cnt P' n
  | 0, _, h => by obtain ⟨b, hb, _⟩ := h; omega
  | n + 1, h1, h2 => by
    have le : ∀ m, m ≤ n → fa_cnt P m ≤ fa_cnt P' m := by
      intro m
      induction m with
      | zero => intro _; exact Nat.le_refl _
      | succ m ih =>
        intro hm
        have := ih (by omega)
        by_cases e : P m = true
        · rw [fa_cnt_yes e, fa_cnt_yes (h1 m (by omega) e)]; omega
        · rw [fa_cnt_no (Bool.eq_false_iff.mpr e)]
          have : fa_cnt P' m ≤ fa_cnt P' (m + 1) := Nat.le_add_right _ _
          omega
    obtain ⟨b, hb, b1, b2⟩ := h2
    by_cases e : b = n
    · subst e
      rw [fa_cnt_no (Bool.eq_false_iff.mpr b2), fa_cnt_yes b1]
      have := le b (Nat.le_refl _)
      omega
    · have := cnt_lt n (fun p hp => h1 p (by omega)) ⟨b, by omega, b1, b2⟩
      by_cases e : P n = true
      · rw [fa_cnt_yes e, fa_cnt_yes (h1 n (by omega) e)]; omega
      · rw [fa_cnt_no (Bool.eq_false_iff.mpr e)]
        have : fa_cnt P' n ≤ fa_cnt P' (n + 1) := Nat.le_add_right _ _
        omega
/-- a round more tells nothing new: no later one does -/
theorem dA_st {n k : Nat} (hm : ∀ p l, p < n → l < 3 → M.2.2.2 (3 * p + l) < n) (h : ∀ p q, p < n → q < n → dA M (k + 1) p q = true → dA M k p q = true) : ∀ j p q, p < n → q < n → dA M j p q = true → dA M k p q = true
  | 0, p, q, _, _, g => dA_le (Nat.zero_le _) g
  | j + 1, p, q, hp, hq, g => by
    apply h p q hp hq
    rw [dA_s] at g ⊢
    rcases g with g | ⟨l, hl, g⟩
    · exact Or.inl g
    · exact Or.inr ⟨l, hl, dA_st hm h j _ _ (hm p l hp hl) (hm q l hq hl) g⟩
def cl_n (M : md_T) (n k : Nat) : Nat := fa_cnt (fun p => decide (tw M k p = p)) n
theorem cl_up {n k : Nat} (h : ∃ p q, p < n ∧ q < n ∧ dA M (k + 1) p q = true ∧ ¬ dA M k p q = true) : cl_n M n k < cl_n M n (k + 1) := by
  have mono : ∀ p, tw M k p = p → tw M (k + 1) p = p := by
    intro p e
    have h1 := tw_le (M := M) (k + 1) p
    rcases Nat.lt_or_ge (tw M (k + 1) p) p with z | z
    · exfalso
      have h2 := tw_al (M := M) (k + 1) p
      have h3 := tw_no (M := M) (k := k) (p := p) (a := tw M (k + 1) p) (by omega)
      exact h2 (dA_mo _ _ _ h3)
    · omega
  refine cnt_lt n (fun p _ e => decide_eq_true (mono p (of_decide_eq_true e))) ?_
  obtain ⟨p, q, hp, hq, h1, h2⟩ := h
  have key : ∀ r, r < n → dA M (k + 1) (tw M k r) r = true → ∃ b, b < n ∧ decide (tw M (k + 1) b = b) = true ∧ ¬ decide (tw M k b = b) = true := by
    intro r hr hd
    have l1 := tw_le (M := M) (k + 1) r
    refine ⟨tw M (k + 1) r, by omega, decide_eq_true (tw_tw _ _), fun z => ?_⟩
    have z := of_decide_eq_true z
    have a1 := tw_al (M := M) (k + 1) r
    have a2 : ¬ dA M k (tw M (k + 1) r) r = true := fun y => a1 (dA_mo _ _ _ y)
    have a3 := tw_eq a2
    rw [z] at a3
    rw [← a3] at hd
    exact a1 hd
  have e := tw_eq h2
  rcases dA_tr (k + 1) p (tw M k p) q h1 with g | g
  · exact key p hp (dA_sy _ _ _ g)
  · rw [e] at g
    exact key q hq g
theorem dA_all {n : Nat} (hn : 1 ≤ n) (hm : ∀ p l, p < n → l < 3 → M.2.2.2 (3 * p + l) < n) {j p q : Nat} (hp : p < n) (hq : q < n) (h : dA M j p q = true) : dA M n p q = true := by
  apply Decidable.byContradiction
  intro hn2
  have up : ∀ k, k ≤ n → cl_n M n k < cl_n M n (k + 1) := by
    intro k hk
    apply cl_up
    apply Classical.byContradiction
    intro z
    have st : ∀ p q, p < n → q < n → dA M (k + 1) p q = true → dA M k p q = true := by
      intro p q hp hq g
      apply Decidable.byContradiction
      intro y
      exact z ⟨p, q, hp, hq, g, y⟩
    exact hn2 (dA_le hk (dA_st hm st j p q hp hq h))
  have cnt : ∀ k, k ≤ n + 1 → k ≤ cl_n M n k := by
    intro k
    induction k with
    | zero => intro _; exact Nat.zero_le _
    | succ k ih =>
      intro hk
      have := ih (by omega)
      have := up k (by omega)
      omega
  have := cnt (n + 1) (Nat.le_refl _)
  have : cl_n M n (n + 1) ≤ n := fa_cnt_le _ _
  omega
end DIST
theorem md_mv {M : md_T} (h : md_ok M) : ∀ p l, p < M.1 → l < 3 → M.2.2.2 (3 * p + l) < M.1 := fun p l hp hl => h.2.2.2.2.2 _ (by omega)
theorem md_4 {M : md_T} (h : md_ok M) : M.1 ≤ 4 := h.2.1
/-! the least machine -/
def lnx (M : md_T) (t l : Nat) : Nat := tw M M.1 (M.2.2.2 (3 * t + l))
def lS (M : md_T) (s : Nat) : bf_T := bf (lnx M) (tw M M.1 M.2.1) 3 s
def lF (M : md_T) : bf_T := lS M (3 * 4)
def lT (M : md_T) (i l : Nat) : Nat := bf_ix (lF M) (lnx M ((lF M).2.1 i) l)
def bs (f : Nat → Bool) : Nat → Nat
  | 0 => 0
  | i + 1 => bs f i + if f i = true then 2 ^ i else 0
theorem bs_lt (f : Nat → Bool) : ∀ i, bs f i < 2 ^ i
  | 0 => by show 0 < 1; decide
  | i + 1 => by
    have := bs_lt f i
    show bs f i + (if f i = true then 2 ^ i else 0) < 2 ^ (i + 1)
    rw [Nat.pow_succ]
    split <;> omega
theorem bs_cg {f g : Nat → Bool} : ∀ i, (∀ j, j < i → f j = g j) → bs f i = bs g i
  | 0, _ => rfl
  | i + 1, h => by
    show bs f i + (if f i = true then 2 ^ i else 0) = bs g i + (if g i = true then 2 ^ i else 0)
    rw [bs_cg i (fun j hj => h j (by omega)), h i (by omega)]
theorem bs_tb (f : Nat → Bool) : ∀ i j, (bs f i).testBit j = (decide (j < i) && f j)
  | 0, j => by rw [show bs f 0 = 0 from rfl, Nat.zero_testBit, decide_eq_false (Nat.not_lt_zero _), Bool.false_and]
  | i + 1, j => by
    have hl := bs_lt f i
    show (bs f i + (if f i = true then 2 ^ i else 0)).testBit j = _
    by_cases e : f i = true
    · rw [if_pos e, Nat.add_comm, show 2 ^ i + bs f i = 2 ^ i * 1 + bs f i by omega, Nat.two_pow_add_eq_or_of_lt hl, Nat.testBit_or, Nat.mul_one, Nat.testBit_two_pow, bs_tb f i j]
      by_cases ej : i = j
      · subst ej
        rw [decide_eq_true rfl, Bool.true_or, decide_eq_true (Nat.lt_succ_self i), e]; rfl
      · rw [decide_eq_false ej, Bool.false_or]
        by_cases el : j < i
        · rw [decide_eq_true el, decide_eq_true (show j < i + 1 by omega)]
        · rw [decide_eq_false el, decide_eq_false (show ¬ j < i + 1 by omega)]
    · rw [if_neg e, Nat.add_zero, bs_tb f i j]
      by_cases ej : i = j
      · subst ej
        rw [Bool.eq_false_iff.mpr e, Bool.and_false, Bool.and_false]
      · by_cases el : j < i
        · rw [decide_eq_true el, decide_eq_true (show j < i + 1 by omega)]
        · rw [decide_eq_false el, decide_eq_false (show ¬ j < i + 1 by omega)]
def lE (M : md_T) : Nat := bs (fun i => M.2.2.1.testBit ((lF M).2.1 i)) (lF M).1
section LEASTM
variable {M : md_T}
theorem lnx_lt (h : md_ok M) (x j : Nat) (hx : x < M.1) (hj : j < 3) : lnx M x j < M.1 := Nat.lt_of_le_of_lt (tw_le _ _) (md_mv h x j hx hj)
theorem lq0_lt (h : md_ok M) : tw M M.1 M.2.1 < M.1 := Nat.lt_of_le_of_lt (tw_le _ _) h.2.2.1
theorem lS_le (h : md_ok M) (s : Nat) : (lS M s).1 ≤ M.1 := bf_le (by decide) (lq0_lt h) (lnx_lt h) s
theorem lS_q (h : md_ok M) (s k : Nat) (hk : k < (lS M s).1) : (lS M s).2.1 k < M.1 := bf_all (P := fun x => x < M.1) (by decide) (lq0_lt h) (lnx_lt h) s k hk
theorem lS_tw (h : md_ok M) (s k : Nat) (hk : k < (lS M s).1) : tw M M.1 ((lS M s).2.1 k) = (lS M s).2.1 k := bf_all (P := fun x => tw M M.1 x = x) (by decide) (tw_tw _ _) (fun x j _ _ => tw_tw _ _) s k hk
theorem lS_eq (s : Nat) : lS M s = bf (lnx M) (tw M M.1 M.2.1) 3 s := by unfold lS; rfl
theorem lF_eq : lF M = bf (lnx M) (tw M M.1 M.2.1) 3 (3 * 4) := by unfold lF lS; rfl
theorem lS_pre {s k : Nat} (hs : s ≤ 12) (hk : k < (lS M s).1) : k < (lF M).1 ∧ (lF M).2.1 k = (lS M s).2.1 k := by
  have m := bf_mono (nx := lnx M) (q0 := tw M M.1 M.2.1) (J := 3) s (12 - s)
  rw [show s + (12 - s) = 3 * 4 by omega, ← lF_eq, ← lS_eq] at m
  exact ⟨Nat.lt_of_lt_of_le hk m.1, (m.2 k hk).1⟩
theorem lF_4 (h : md_ok M) : (lF M).1 ≤ 4 := Nat.le_trans (lS_le h _) (md_4 h)
theorem lnx_lt4 (h : md_ok M) (x j : Nat) (hx : x < 4) (hj : j < 3) : lnx M x j < 4 := Nat.lt_of_le_of_lt (tw_le _ _) (h.2.2.2.2.1 _ (by omega))
theorem lS_end (h : md_ok M) {k : Nat} (e : (lS M (3 * k)).1 = k) : lS M (3 * k) = lF M := by
  have h4 := Nat.le_trans (lS_le h (3 * k)) (md_4 h)
  have q4 : tw M M.1 M.2.1 < 4 := Nat.lt_of_lt_of_le (lq0_lt h) (md_4 h)
  exact bf_last (N := 4) (by decide) q4 (lnx_lt4 h) (Nat.le_of_eq (by show 3 * (lS M (3 * k)).1 = _; rw [e])) (by omega)
/-- the number by a step is the number in the end -/
theorem lS_ix (h : md_ok M) {s c : Nat} (hs : s ≤ 12) (hc : bf_ix (lS M s) c < (lS M s).1) : bf_ix (lF M) c = bf_ix (lS M s) c := by
  have p := lS_pre hs hc
  exact bf_ix_eq (bf_inj _) p.1 (p.2.trans (bf_ix_at hc))
theorem lT_lt (h : md_ok M) {i l : Nat} (hi : i < (lF M).1) (hl : l < 3) : lT M i l < (lF M).1 := by
  have q4 : tw M M.1 M.2.1 < 4 := Nat.lt_of_lt_of_le (lq0_lt h) (md_4 h)
  unfold lT
  rw [lF_eq] at hi ⊢
  exact (bf_ix_iff _ _).mpr (bf_closed (N := 4) (by decide) q4 (lnx_lt4 h) hi hl)
end LEASTM
