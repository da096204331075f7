/-! ===== a search by breadth, for all of both sides' searches ===== -/
/-- distinct numbers below N that have P are no more than those that have it -/
theorem pg_cnt (P : Nat → Bool) : ∀ (N c : Nat) (f : Nat → Nat), (∀ i, i < c → f i < N ∧ P (f i) = true) → (∀ i j, i < j → j < c → f i ≠ f j) → c ≤ fa_cnt P N
  | 0, c, f, h, _ => by
    rcases Nat.eq_zero_or_pos c with z | z
    · omega
    · exact absurd (h 0 z).1 (Nat.not_lt_zero _)
  | N + 1, c, f, h, hi => by
    by_cases e : ∃ k, k < c ∧ f k = N
    · obtain ⟨k, hk, ek⟩ := e
      have a1 : ∀ i, i < c - 1 → (if i < k then f i else f (i + 1)) < N ∧ P (if i < k then f i else f (i + 1)) = true := by
        intro i hi'
        by_cases e : i < k
        · rw [if_pos e]
          have b1 := h i (by omega)
          have b2 := hi i k e hk
          exact ⟨by omega, b1.2⟩
        · rw [if_neg e]
          have b1 := h (i + 1) (by omega)
          have b2 := hi k (i + 1) (by omega) (by omega)
          exact ⟨by omega, b1.2⟩
      have a2 : ∀ i j, i < j → j < c - 1 → (if i < k then f i else f (i + 1)) ≠ (if j < k then f j else f (j + 1)) := by
        intro i j hij hj
        by_cases e1 : i < k
        · by_cases e2 : j < k
          · rw [if_pos e1, if_pos e2]; exact hi i j hij (by omega)
          · rw [if_pos e1, if_neg e2]; exact hi i (j + 1) (by omega) (by omega)
        · rw [if_neg e1, if_neg (by omega)]; exact hi (i + 1) (j + 1) (by omega) (by omega)
      have a3 := pg_cnt P N (c - 1) (fun i => if i < k then f i else f (i + 1)) a1 a2
      have a4 : P N = true := by rw [← ek]; exact (h k hk).2
      rw [fa_cnt_yes a4]
      omega
    · have a1 : ∀ i, i < c → f i < N ∧ P (f i) = true := by
        intro i hi'
        have b1 := h i hi'
        have b2 : f i ≠ N := fun z => e ⟨i, hi', z⟩
        exact ⟨by omega, b1.2⟩
      have a3 := pg_cnt P N c f a1 hi
      have a4 : fa_cnt P N ≤ fa_cnt P (N + 1) := Nat.le_add_right _ _
      omega
theorem pg_le (N c : Nat) (f : Nat → Nat) (h : ∀ i, i < c → f i < N) (hi : ∀ i j, i < j → j < c → f i ≠ f j) : c ≤ N :=
  Nat.le_trans (pg_cnt (fun _ => true) N c f (fun i hi' => ⟨h i hi', rfl⟩) hi) (fa_cnt_le _ N)
/-- how many came, which, by which step -/
abbrev bf_T : Type := Nat × (Nat → Nat) × (Nat → Nat)
def bf_ix (S : bf_T) (c : Nat) : Nat := fa_first (fun i => decide (S.2.1 i = c)) S.1
def bf_add (S : bf_T) (c s : Nat) : bf_T := (S.1 + 1, fun k => if k = S.1 then c else S.2.1 k, fun k => if k = S.1 then s else S.2.2 k)
def bf_st (nx : Nat → Nat → Nat) (J s : Nat) (S : bf_T) : bf_T := if s / J < S.1 then (if bf_ix S (nx (S.2.1 (s / J)) (s % J)) < S.1 then S else bf_add S (nx (S.2.1 (s / J)) (s % J)) s) else S
def bf (nx : Nat → Nat → Nat) (q0 J : Nat) : Nat → bf_T
  | 0 => (1, fun _ => q0, fun _ => 0)
  | s + 1 => bf_st nx J s (bf nx q0 J s)
theorem bf_ix_iff (S : bf_T) (c : Nat) : bf_ix S c < S.1 ↔ ∃ i, i < S.1 ∧ S.2.1 i = c := by
  constructor
  · intro h
    have := fa_first_yes _ _ h
    exact ⟨_, h, of_decide_eq_true this⟩
  · rintro ⟨i, hi, e⟩
    apply Decidable.byContradiction
    intro h
    have h2 := fa_first_no (fun i => decide (S.2.1 i = c)) S.1 i (Nat.lt_of_lt_of_le hi (Nat.le_of_not_lt h))
    exact absurd e (of_decide_eq_false h2)
theorem bf_ix_at {S : bf_T} {c : Nat} (h : bf_ix S c < S.1) : S.2.1 (bf_ix S c) = c := of_decide_eq_true (fa_first_yes _ _ h)
def bf_In (S : bf_T) : Prop := ∀ i j, i < j → j < S.1 → S.2.1 i ≠ S.2.1 j
theorem bf_ix_eq {S : bf_T} {c i : Nat} (hn : bf_In S) (hi : i < S.1) (e : S.2.1 i = c) : bf_ix S c = i := by
  have h := (bf_ix_iff S c).mpr ⟨i, hi, e⟩
  have h2 := bf_ix_at h
  rcases Nat.lt_trichotomy (bf_ix S c) i with z | z | z
  · exact absurd (h2.trans e.symm) (hn _ _ z hi)
  · exact z
  · exact absurd (e.trans h2.symm) (hn _ _ z h)
section BFS
variable {nx : Nat → Nat → Nat} {q0 J : Nat}
theorem bf_s (s : Nat) : bf nx q0 J (s + 1) = bf_st nx J s (bf nx q0 J s) := rfl
theorem bf_has {s : Nat} (h : s / J < (bf nx q0 J s).1) (h2 : bf_ix (bf nx q0 J s) (nx ((bf nx q0 J s).2.1 (s / J)) (s % J)) < (bf nx q0 J s).1) : bf nx q0 J (s + 1) = bf nx q0 J s := by rw [bf_s]; unfold bf_st; rw [if_pos h, if_pos h2]
theorem bf_new {s : Nat} (h : s / J < (bf nx q0 J s).1) (h2 : ¬ bf_ix (bf nx q0 J s) (nx ((bf nx q0 J s).2.1 (s / J)) (s % J)) < (bf nx q0 J s).1) : bf nx q0 J (s + 1) = bf_add (bf nx q0 J s) (nx ((bf nx q0 J s).2.1 (s / J)) (s % J)) s := by rw [bf_s]; unfold bf_st; rw [if_pos h, if_neg h2]
theorem bf_end {s : Nat} (h : ¬ s / J < (bf nx q0 J s).1) : bf nx q0 J (s + 1) = bf nx q0 J s := by rw [bf_s]; unfold bf_st; rw [if_neg h]
/-- a step leaves all as it is, or adds what is new -/
theorem bf_cs (s : Nat) : bf nx q0 J (s + 1) = bf nx q0 J s ∨ (s / J < (bf nx q0 J s).1 ∧ (∀ i, i < (bf nx q0 J s).1 → (bf nx q0 J s).2.1 i ≠ nx ((bf nx q0 J s).2.1 (s / J)) (s % J)) ∧ bf nx q0 J (s + 1) = bf_add (bf nx q0 J s) (nx ((bf nx q0 J s).2.1 (s / J)) (s % J)) s) := by
  by_cases h : s / J < (bf nx q0 J s).1
  · by_cases h2 : bf_ix (bf nx q0 J s) (nx ((bf nx q0 J s).2.1 (s / J)) (s % J)) < (bf nx q0 J s).1
    · exact Or.inl (bf_has h h2)
    · refine Or.inr ⟨h, fun i hi e => h2 ((bf_ix_iff _ _).mpr ⟨i, hi, e⟩), bf_new h h2⟩
  · exact Or.inl (bf_end h)
theorem add_1 (S : bf_T) (c s : Nat) : (bf_add S c s).1 = S.1 + 1 := rfl
theorem add_o (S : bf_T) (c s : Nat) {k : Nat} (h : ¬ k = S.1) : (bf_add S c s).2.1 k = S.2.1 k ∧ (bf_add S c s).2.2 k = S.2.2 k := ⟨if_neg h, if_neg h⟩
theorem add_n (S : bf_T) (c s : Nat) : (bf_add S c s).2.1 S.1 = c ∧ (bf_add S c s).2.2 S.1 = s := ⟨if_pos rfl, if_pos rfl⟩
theorem bf_pos (s : Nat) : 1 ≤ (bf nx q0 J s).1 := by
  induction s with
  | zero => exact Nat.le_refl 1
  | succ s ih =>
    rcases bf_cs (nx := nx) (q0 := q0) (J := J) s with e | ⟨_, _, e⟩
    · rw [e]; exact ih
    · rw [e, add_1]; omega
theorem bf_q0 (s : Nat) : (bf nx q0 J s).2.1 0 = q0 ∧ (bf nx q0 J s).2.2 0 = 0 := by
  induction s with
  | zero => exact ⟨rfl, rfl⟩
  | succ s ih =>
    have := bf_pos (nx := nx) (q0 := q0) (J := J) s
    rcases bf_cs (nx := nx) (q0 := q0) (J := J) s with e | ⟨_, _, e⟩
    · rw [e]; exact ih
    · rw [e, (add_o _ _ _ (by omega)).1, (add_o _ _ _ (by omega)).2]; exact ih
theorem bf_inj (s : Nat) : bf_In (bf nx q0 J s) := by
  induction s with
  | zero =>
    intro i j h1 h2
    have : j < 1 := h2
    omega
  | succ s ih =>
    rcases bf_cs (nx := nx) (q0 := q0) (J := J) s with e | ⟨_, hn, e⟩
    · rw [e]; exact ih
    · rw [e]
      intro i j h1 h2
      rw [add_1] at h2
      rw [(add_o _ _ _ (by omega)).1]
      by_cases ej : j = (bf nx q0 J s).1
      · rw [ej, (add_n _ _ _).1]; exact hn i (by omega)
      · rw [(add_o _ _ _ ej).1]; exact ih i j h1 (by omega)
theorem bf_all {P : Nat → Prop} (hJ : 0 < J) (h0 : P q0) (hs : ∀ x j, P x → j < J → P (nx x j)) (s : Nat) : ∀ k, k < (bf nx q0 J s).1 → P ((bf nx q0 J s).2.1 k) := by
  induction s with
  | zero => intro k _; exact h0
  | succ s ih =>
    rcases bf_cs (nx := nx) (q0 := q0) (J := J) s with e | ⟨h1, hn, e⟩
    · rw [e]; exact ih
    · rw [e]
      intro k hk
      rw [add_1] at hk
      by_cases ek : k = (bf nx q0 J s).1
      · rw [ek, (add_n _ _ _).1]; exact hs _ _ (ih _ h1) (Nat.mod_lt _ hJ)
      · rw [(add_o _ _ _ ek).1]; exact ih k (by omega)
theorem bf_mono1 (s : Nat) : (bf nx q0 J s).1 ≤ (bf nx q0 J (s + 1)).1 ∧ ∀ k, k < (bf nx q0 J s).1 → (bf nx q0 J (s + 1)).2.1 k = (bf nx q0 J s).2.1 k ∧ (bf nx q0 J (s + 1)).2.2 k = (bf nx q0 J s).2.2 k := by
  rcases bf_cs (nx := nx) (q0 := q0) (J := J) s with e | ⟨h1, hn, e⟩
  · rw [e]; exact ⟨Nat.le_refl _, fun _ _ => ⟨rfl, rfl⟩⟩
  · rw [e]; exact ⟨by rw [add_1]; omega, fun k hk => add_o _ _ _ (by omega)⟩
theorem bf_mono (s t : Nat) : (bf nx q0 J s).1 ≤ (bf nx q0 J (s + t)).1 ∧ ∀ k, k < (bf nx q0 J s).1 → (bf nx q0 J (s + t)).2.1 k = (bf nx q0 J s).2.1 k ∧ (bf nx q0 J (s + t)).2.2 k = (bf nx q0 J s).2.2 k := by
  induction t with
  | zero => exact ⟨Nat.le_refl _, fun _ _ => ⟨rfl, rfl⟩⟩
  | succ t ih =>
    have h := bf_mono1 (nx := nx) (q0 := q0) (J := J) (s + t)
    refine ⟨Nat.le_trans ih.1 h.1, fun k hk => ?_⟩
    have a := ih.2 k hk
    have b := h.2 k (Nat.lt_of_lt_of_le hk ih.1)
    exact ⟨b.1.trans a.1, b.2.trans a.2⟩
theorem bf_done {s : Nat} (hJ : 0 < J) (h : J * (bf nx q0 J s).1 ≤ s) (t : Nat) : bf nx q0 J (s + t) = bf nx q0 J s := by
  induction t with
  | zero => rfl
  | succ t ih =>
    rw [← Nat.add_assoc, bf_end, ih]
    rw [ih]
    intro z
    rw [Nat.div_lt_iff_lt_mul hJ, Nat.mul_comm] at z
    omega
/-- where each came from -/
theorem bf_src (s : Nat) : ∀ k, 0 < k → k < (bf nx q0 J s).1 → (bf nx q0 J s).2.2 k < s ∧ (bf nx q0 J s).2.2 k / J < k ∧ (bf nx q0 J s).2.1 k = nx ((bf nx q0 J s).2.1 ((bf nx q0 J s).2.2 k / J)) ((bf nx q0 J s).2.2 k % J) := by
  induction s with
  | zero =>
    intro k h0 hk
    have : k < 1 := hk
    omega
  | succ s ih =>
    rcases bf_cs (nx := nx) (q0 := q0) (J := J) s with e | ⟨h1, hn, e⟩
    · rw [e]
      intro k h0 hk
      obtain ⟨a, b, c⟩ := ih k h0 hk
      exact ⟨by omega, b, c⟩
    · rw [e]
      intro k h0 hk
      rw [add_1] at hk
      by_cases ek : k = (bf nx q0 J s).1
      · subst ek
        rw [(add_n _ _ _).1, (add_n _ _ _).2, (add_o _ _ _ (by omega)).1]
        exact ⟨by omega, h1, rfl⟩
      · obtain ⟨a, b, c⟩ := ih k h0 (by omega)
        rw [(add_o _ _ _ ek).1, (add_o _ _ _ ek).2, (add_o _ _ _ (by omega)).1]
        exact ⟨by omega, b, c⟩
/-- what was gone through came -/
theorem bf_came (s : Nat) : ∀ u, u < s → u / J < (bf nx q0 J s).1 → ∃ i, i < (bf nx q0 J s).1 ∧ (bf nx q0 J s).2.1 i = nx ((bf nx q0 J s).2.1 (u / J)) (u % J) := by
  induction s with
  | zero => intro u hu; omega
  | succ s ih =>
    intro u hu hc
    have m := bf_mono1 (nx := nx) (q0 := q0) (J := J) s
    by_cases e : u = s
    · subst e
      by_cases h : u / J < (bf nx q0 J u).1
      · by_cases h2 : bf_ix (bf nx q0 J u) (nx ((bf nx q0 J u).2.1 (u / J)) (u % J)) < (bf nx q0 J u).1
        · rw [bf_has h h2]
          exact ⟨_, h2, bf_ix_at h2⟩
        · rw [bf_new h h2]
          exact ⟨(bf nx q0 J u).1, by rw [add_1]; omega, by rw [(add_n _ _ _).1, (add_o _ _ _ (by omega)).1]⟩
      · rw [bf_end h] at hc
        exact absurd hc h
    · have hu2 : u / J < (bf nx q0 J s).1 := by
        rcases bf_cs (nx := nx) (q0 := q0) (J := J) s with e2 | ⟨h1, hn, e2⟩
        · rw [e2] at hc; exact hc
        · have : u / J ≤ s / J := Nat.div_le_div_right (by omega)
          omega
      obtain ⟨i, hi, ei⟩ := ih u (by omega) hu2
      exact ⟨i, by omega, by rw [(m.2 i hi).1, (m.2 _ hu2).1]; exact ei⟩
variable {N : Nat}
theorem bf_le (hJ : 0 < J) (h0 : q0 < N) (hs : ∀ x j, x < N → j < J → nx x j < N) (s : Nat) : (bf nx q0 J s).1 ≤ N :=
  pg_le N _ _ (bf_all (P := fun x => x < N) hJ h0 hs s) (bf_inj s)
/-- what is new finds room -/
theorem bf_room (hJ : 0 < J) (h0 : q0 < N) (hs : ∀ x j, x < N → j < J → nx x j < N) {s : Nat} (h : s / J < (bf nx q0 J s).1) (h2 : ¬ bf_ix (bf nx q0 J s) (nx ((bf nx q0 J s).2.1 (s / J)) (s % J)) < (bf nx q0 J s).1) : (bf nx q0 J s).1 < N := by
  have := bf_le hJ h0 hs (s + 1)
  rw [bf_new h h2, add_1] at this
  omega
theorem bf_fin (hJ : 0 < J) (h0 : q0 < N) (hs : ∀ x j, x < N → j < J → nx x j < N) : J * (bf nx q0 J (J * N)).1 ≤ J * N := Nat.mul_le_mul_left _ (bf_le hJ h0 hs _)
/-- a search that has gone through all is at its end -/
theorem bf_last (hJ : 0 < J) (h0 : q0 < N) (hs : ∀ x j, x < N → j < J → nx x j < N) {s : Nat} (h : J * (bf nx q0 J s).1 ≤ s) (h1 : s ≤ J * N) : bf nx q0 J s = bf nx q0 J (J * N) := by
  obtain ⟨t, e⟩ : ∃ t, J * N = s + t := ⟨J * N - s, by omega⟩
  rw [e]
  exact (bf_done hJ h t).symm
theorem bf_closed (hJ : 0 < J) (h0 : q0 < N) (hs : ∀ x j, x < N → j < J → nx x j < N) {i j : Nat} (hi : i < (bf nx q0 J (J * N)).1) (hj : j < J) : ∃ k, k < (bf nx q0 J (J * N)).1 ∧ (bf nx q0 J (J * N)).2.1 k = nx ((bf nx q0 J (J * N)).2.1 i) j := by
  have e1 : (J * i + j) / J = i := by rw [Nat.mul_add_div hJ, Nat.div_eq_of_lt hj, Nat.add_zero]
  have e2 : (J * i + j) % J = j := by rw [Nat.mul_add_mod, Nat.mod_eq_of_lt hj]
  have := bf_came (nx := nx) (q0 := q0) (J := J) (J * N) (J * i + j) (by
    have h1 := bf_fin (nx := nx) hJ h0 hs
    have h2 : J * (i + 1) ≤ J * (bf nx q0 J (J * N)).1 := Nat.mul_le_mul_left _ hi
    rw [Nat.mul_add, Nat.mul_one] at h2
    omega) (by rw [e1]; exact hi)
  rw [e1, e2] at this
  exact this
end BFS
