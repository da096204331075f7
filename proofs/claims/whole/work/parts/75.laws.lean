/-! ===== laws ===== -/
def lawc (law a b : Nat) (t z q : Bool) : Bool :=
  if law = 0 then decide (th (om a) a = om a) else if law = 1 then z || !decide (th a a = a) else if law = 2 then decide (th a b = th b a) else if law = 3 then decide (th a a = a)
  else if law = 4 then decide (th (om (th a b)) a = om (th a b)) else if law = 5 then decide (th b (om (th a b)) = om (th a b)) else if law = 6 then decide (th (om (th a b)) a = om (th a b)) && decide (th b (om (th a b)) = om (th a b))
  else if law = 7 then !t || (decide (th (th (th a b) a) (th (th a b) a) = th (th a b) a) && q) else if law = 8 then !t || decide (th b a = a) else if law = 9 then !t || decide (th a b = a) else if law = 10 then !t || decide (th (th a b) a = a)
  else decide (th (th (om (th a b)) (om (th b a))) (om (th a b)) = om (th a b))
def tie (g : Nat → Nat) (i : Nat) : Bool := decide (th ((eF g).2.1 i) ((eF g).2.1 i) = (eF g).2.1 i) && (!decide (i = 0) || tf g (3 * (eF g).1))
/-- x goes either way with all that are a times something times a -/
def qui (g : Nat → Nat) (a x : Nat) (n : Nat) : Bool := alb (fun k => !decide (th x (th (th a ((eF g).2.1 k)) a) = th (th (th a ((eF g).2.1 k)) a) x)) n
def lawb (g : Nat → Nat) (law i j : Nat) : Bool := lawc law ((eF g).2.1 i) ((eF g).2.1 j) (tie g i) (decide (i = 0)) (qui g ((eF g).2.1 i) (th (th ((eF g).2.1 i) ((eF g).2.1 j)) ((eF g).2.1 i)) (eF g).1)
theorem alb_iff {P : Nat → Bool} : ∀ n, alb P n = true ↔ ∀ k, k < n → P k = false
  | 0 => ⟨fun _ k hk => absurd hk (Nat.not_lt_zero _), fun _ => rfl⟩
  | n + 1 => by
    show (alb P n && !P n) = true ↔ _
    rw [Bool.and_eq_true, alb_iff n]
    constructor
    · rintro ⟨h1, h2⟩ k hk
      by_cases e : k = n
      · rw [e]; cases h : P n
        · rfl
        · rw [h] at h2; exact absurd h2 (by decide)
      · exact h1 k (by omega)
    · intro h
      exact ⟨fun k hk => h k (by omega), by rw [h n (by omega)]; rfl⟩
theorem qui_iff {g : Nat → Nat} {a x n : Nat} : qui g a x n = true ↔ ∀ k, k < n → th x (th (th a ((eF g).2.1 k)) a) = th (th (th a ((eF g).2.1 k)) a) x := by
  unfold qui
  rw [alb_iff]
  constructor
  · intro h k hk
    have := h k hk
    cases e : decide (th x (th (th a ((eF g).2.1 k)) a) = th (th (th a ((eF g).2.1 k)) a) x)
    · rw [e] at this; exact absurd this (by decide)
    · exact of_decide_eq_true e
  · intro h k hk
    show (!decide (th x (th (th a ((eF g).2.1 k)) a) = th (th (th a ((eF g).2.1 k)) a) x)) = false
    rw [decide_eq_true (h k hk)]; rfl
/-- what is gathered around a tie -/
def arS (g : Nat → Nat) (a : Nat) : Nat → bf_T
  | 0 => (0, fun _ => 0, fun _ => 0)
  | k + 1 => bf_up (arS g a k) (th (th a ((eF g).2.1 k)) a) k
theorem up_in {S : bf_T} {x s : Nat} (h : bf_In S) : bf_In (bf_up S x s) := by
  unfold bf_up
  by_cases e : bf_ix S x < S.1
  · rw [if_pos e]; exact h
  · rw [if_neg e]
    intro i j h1 h2
    rw [add_1] at h2
    rw [(add_o _ _ _ (by omega)).1]
    by_cases ej : j = S.1
    · rw [ej, (add_n _ _ _).1]
      exact fun z => e ((bf_ix_iff _ _).mpr ⟨i, by omega, z⟩)
    · rw [(add_o _ _ _ ej).1]; exact h i j h1 (by omega)
theorem up_mem {S : bf_T} {x s c : Nat} : (∃ i, i < (bf_up S x s).1 ∧ (bf_up S x s).2.1 i = c) ↔ (∃ i, i < S.1 ∧ S.2.1 i = c) ∨ c = x := by
  unfold bf_up
  by_cases e : bf_ix S x < S.1
  · rw [if_pos e]
    constructor
    · exact Or.inl
    · rintro (h | h)
      · exact h
      · rw [h]; exact (bf_ix_iff _ _).mp e
  · rw [if_neg e]
    constructor
    · rintro ⟨i, hi, ei⟩
      rw [add_1] at hi
      by_cases e2 : i = S.1
      · rw [e2, (add_n _ _ _).1] at ei; exact Or.inr ei.symm
      · rw [(add_o _ _ _ e2).1] at ei; exact Or.inl ⟨i, by omega, ei⟩
    · rintro (⟨i, hi, ei⟩ | h)
      · exact ⟨i, by rw [add_1]; omega, by rw [(add_o _ _ _ (by omega)).1]; exact ei⟩
      · exact ⟨S.1, by rw [add_1]; omega, by rw [(add_n _ _ _).1, h]⟩
theorem ar_in (g : Nat → Nat) (a : Nat) : ∀ k, bf_In (arS g a k)
  | 0 => fun i j _ h2 => absurd h2 (Nat.not_lt_zero _)
  | k + 1 => up_in (ar_in g a k)
theorem ar_mem {g : Nat → Nat} {a c : Nat} : ∀ n, (∃ i, i < (arS g a n).1 ∧ (arS g a n).2.1 i = c) ↔ ∃ k, k < n ∧ th (th a ((eF g).2.1 k)) a = c
  | 0 => ⟨fun ⟨i, hi, _⟩ => absurd hi (Nat.not_lt_zero _), fun ⟨k, hk, _⟩ => absurd hk (Nat.not_lt_zero _)⟩
  | n + 1 => by
    have ih := ar_mem (g := g) (a := a) (c := c) n
    show (∃ i, i < (bf_up (arS g a n) (th (th a ((eF g).2.1 n)) a) n).1 ∧ (bf_up (arS g a n) (th (th a ((eF g).2.1 n)) a) n).2.1 i = c) ↔ _
    rw [up_mem, ih]
    constructor
    · rintro (⟨k, hk, ek⟩ | h)
      · exact ⟨k, by omega, ek⟩
      · exact ⟨n, by omega, h.symm⟩
    · rintro ⟨k, hk, ek⟩
      by_cases e : k = n
      · subst e; exact Or.inr ek.symm
      · exact Or.inl ⟨k, by omega, ek⟩
theorem ar_256 {g : Nat → Nat} {a k i : Nat} (hi : i < (arS g a k).1) : (arS g a k).2.1 i < 256 := by
  obtain ⟨j, _, e⟩ := (ar_mem k).mp ⟨i, hi, rfl⟩
  rw [← e]
  exact th_lt _ _
theorem ar_le (g : Nat → Nat) (a k : Nat) : (arS g a k).1 ≤ 256 := pg_le 256 _ _ (fun _ hi => ar_256 hi) (ar_in g a k)
theorem ar_room {g : Nat → Nat} {a k : Nat} (h : ¬ bf_ix (arS g a k) (th (th a ((eF g).2.1 k)) a) < (arS g a k).1) : (arS g a k).1 < 256 := by
  have := ar_le g a (k + 1)
  have e : arS g a (k + 1) = bf_add (arS g a k) (th (th a ((eF g).2.1 k)) a) k := if_neg h
  rw [e, add_1] at this
  omega
section LAWSC
variable {X : mv_X} {d : Nat} {σ : mv_S} {Q : mv_Q} {M : md_T}
theorem cmp_fin {x y : Nat} (hx : x < 256) (hy : y < 256) (hQ : Q (some (.int (if decide (x = y) = true then 1 else 0))) σ) : (¬ nI x = nI y → ((0 : Int32) = (0 : Int32) ∨ (0 : Int32) = (1 : Int32)) ∧ Q (some (.int 0)) σ) ∧ (nI x = nI y → ((1 : Int32) = (0 : Int32) ∨ (1 : Int32) = (1 : Int32)) ∧ Q (some (.int 1)) σ) := by
  by_cases e : x = y
  · rw [if_pos (decide_eq_true e)] at hQ
    rw [e]
    exact ⟨fun z => absurd rfl z, fun _ => ⟨Or.inr rfl, hQ⟩⟩
  · rw [if_neg (fun z => e (of_decide_eq_true z))] at hQ
    exact ⟨fun _ => ⟨Or.inl rfl, hQ⟩, fun z => absurd (nI_28 (by omega) (by omega) z) e⟩
theorem c_om {c : Nat} (m : moC M σ) (hc : inm (gL M) c) (hQ : Q (some (.int (nI (om c)))) σ) : mv_wp X (d + 1) 59 [.ref 12, .int (nI c)] σ Q := by
  obtain ⟨k, hk, e⟩ := hc
  rw [← e] at hQ ⊢
  exact c_omega m hk hQ
theorem c_isTie {i : Nat} (m : moC M σ) (hi : i < (eF (gL M)).1) (hQ : Q (some (.int (if tie (gL M) i = true then 1 else 0))) σ) : mv_wp X (d + 3) 64 [.ref 12, .int (nI i)] σ Q := by
  have hle := eF_le (g := gL M)
  refine (w_Monoid_isTie _ _ _ _ _).mpr ⟨rfl, ?_⟩
  refine c_code m hi ⟨_, rfl, ?_⟩
  refine s_isIdem (eF_q hi) ⟨_, rfl, ?_⟩
  unfold tie at hQ
  by_cases e : th ((eF (gL M)).2.1 i) ((eF (gL M)).2.1 i) = (eF (gL M)).2.1 i
  · rw [if_pos e]
    rw [decide_eq_true e, Bool.true_and] at hQ
    refine ⟨fun z => absurd z (by decide), fun _ => ?_⟩
    by_cases e0 : i = 0
    · rw [decide_eq_true e0, Bool.not_true, Bool.false_or] at hQ
      rw [e0]
      refine ⟨fun z => absurd rfl z, fun _ => ⟨rfl, ?_⟩⟩
      rw [m.2.2.1.2.1]
      by_cases et : tf (gL M) (3 * (eF (gL M)).1) = true
      · rw [if_pos et] at hQ ⊢
        exact ⟨fun z => absurd z (by decide), fun _ => ⟨Or.inr rfl, hQ⟩⟩
      · rw [if_neg et] at hQ ⊢
        exact ⟨fun _ => ⟨Or.inl rfl, hQ⟩, fun z => absurd rfl z⟩
    · rw [decide_eq_false e0, Bool.not_false, Bool.true_or, if_pos rfl] at hQ
      exact ⟨fun _ => ⟨Or.inr rfl, hQ⟩, fun z => absurd z (nI_ne0 (by omega) (by omega))⟩
  · rw [if_neg e]
    rw [decide_eq_false e, Bool.false_and, if_neg (by decide)] at hQ
    exact ⟨fun _ => ⟨Or.inl rfl, hQ⟩, fun z => absurd rfl z⟩
theorem s_around {G i : Nat} (hG : G + 1 < 2 ^ 30) (m : moC M σ) (g0 : iv_G G σ) (hi : i < (eF (gL M)).1) (hQ : ∀ τ, gaC (G + 1) (arS (gL M) ((eF (gL M)).2.1 i) (eF (gL M)).1) τ → frg σ τ → Q (some (.int (nI (arS (gL M) ((eF (gL M)).2.1 i) (eF (gL M)).1).1))) τ) : mv_wp X (d + 3) 74 [.ref 12, .int (nI ((eF (gL M)).2.1 i))] σ Q := by
  have hle := eF_le (g := gL M)
  have hc := eF_q hi
  generalize (eF (gL M)).2.1 i = a at *
  refine w_Monoid_gatherAround ⟨rfl, rfl, ?_⟩
  rw [g0.1, nI_1]
  have f0 : frg σ (mv_pi σ 12 13 (nI (G + 1))) := ⟨fun c j q1 q2 q3 => mv_rn q3, rfl⟩
  have ga0 : gaC (G + 1) (0, fun _ => 0, fun _ => 0) (mv_pi σ 12 13 (nI (G + 1))) := by
    refine ⟨mv_rd, fun i hi => absurd hi (Nat.not_lt_zero _), fun c hc => ?_⟩
    obtain ⟨m, m1, m2⟩ := g0.2 c hc
    exact ⟨m, by omega, by rw [mv_rn (by omega)]; exact m2, fun z => by omega, fun z => absurd z (Nat.not_lt_zero _)⟩
  have loop : ∀ r k (τ : mv_S), k + r = (eF (gL M)).1 → gaC (G + 1) (arS (gL M) a k) τ → frg σ τ → mv_wf X (mv_wp X (d + 2)) m_Monoid_gatherAround Q 14 [.ref 12, .int (nI a), .int (nI (arS (gL M) a k).1), .int (nI k)] [] τ := by
    intro r
    induction r with
    | zero =>
      intro k τ hk ga hf
      refine h_Monoid_gatherAround_14 ⟨rfl, ?_⟩
      rw [(frg_C hf m).2.2.1.1]
      refine ⟨fun _ => ?_, fun z => absurd (nI_le (by omega) (by omega)) z⟩
      rw [show k = (eF (gL M)).1 by omega] at ga ⊢
      exact hQ τ ga hf
    | succ r ih =>
      intro k τ hk ga hf
      refine h_Monoid_gatherAround_14 ⟨rfl, ?_⟩
      rw [(frg_C hf m).2.2.1.1]
      refine ⟨fun z => absurd z (nI_ge (by omega) (by omega)), fun _ => ⟨rfl, ?_⟩⟩
      refine c_code (frg_C hf m) (by omega) ⟨_, rfl, ?_⟩
      refine (s_then hc (eF_q (by omega))).mpr ⟨_, rfl, ?_⟩
      refine (s_then (th_lt _ _) hc).mpr ⟨_, rfl, rfl, ?_⟩
      refine s_gather (s := k) hG ga (th_lt _ _) ar_room (ar_le _ _ _) (fun τ2 p1 p2 => ⟨_, rfl, ?_⟩)
      rw [nI_1]
      exact ih (k + 1) τ2 (by omega) p1 (frg_tr hf p2)
  exact loop (eF (gL M)).1 0 _ (by omega) ga0 f0
/-- what law 7 asks of the rows -/
def arI (M : md_T) (i : Nat) (σ : mv_S) : Prop := σ.1 11 1 = nI (arS (gL M) ((eF (gL M)).2.1 i) (eF (gL M)).1).1 ∧ ∀ k, k < (arS (gL M) ((eF (gL M)).2.1 i) (eF (gL M)).1).1 → σ.1 25 k = nI ((arS (gL M) ((eF (gL M)).2.1 i) (eF (gL M)).1).2.1 k)
theorem c_quiet {i x : Nat} (hx : x < 256) (ar : arI M i σ) (hQ : Q (some (.int (if (decide (th x x = x) && qui (gL M) ((eF (gL M)).2.1 i) x (eF (gL M)).1) = true then 1 else 0))) σ) : mv_wp X (d + 3) 87 [.ref 11, .int (nI x)] σ Q := by
  have q2 := qui_iff (g := gL M) (a := (eF (gL M)).2.1 i) (x := x) (n := (eF (gL M)).1)
  have am := fun c => ar_mem (g := gL M) (a := (eF (gL M)).2.1 i) (c := c) (eF (gL M)).1
  have al := ar_le (gL M) ((eF (gL M)).2.1 i) (eF (gL M)).1
  have a256 := fun k hk => ar_256 (g := gL M) (a := (eF (gL M)).2.1 i) (k := (eF (gL M)).1) (i := k) hk
  obtain ⟨ar1, ar2⟩ := ar
  generalize arS (gL M) ((eF (gL M)).2.1 i) (eF (gL M)).1 = S at *
  generalize qui (gL M) ((eF (gL M)).2.1 i) x (eF (gL M)).1 = q at *
  refine w_Laws_isQuietAround ?_
  refine s_isIdem hx ⟨_, rfl, ?_⟩
  by_cases e : th x x = x
  case neg =>
    rw [if_neg e]
    rw [decide_eq_false e, Bool.false_and, if_neg (by decide)] at hQ
    exact ⟨fun z => absurd rfl z, fun _ => ⟨Or.inl rfl, hQ⟩⟩
  rw [if_pos e]
  rw [decide_eq_true e, Bool.true_and] at hQ
  refine ⟨fun _ => ?_, fun z => absurd z (by decide)⟩
  have loop : ∀ r k, k + r = S.1 → (∀ j, j < k → th x (S.2.1 j) = th (S.2.1 j) x) → mv_wf X (mv_wp X (d + 2)) m_Laws_isQuietAround Q 11 [.ref 11, .int (nI x), .int (nI k), .retAddr 0] [] σ := by
    intro r
    induction r with
    | zero =>
      intro k hk hc
      refine h_Laws_isQuietAround_11 ⟨rfl, ?_⟩
      rw [ar1]
      refine ⟨fun _ => ⟨Or.inr rfl, ?_⟩, fun z => absurd (nI_le (by omega) (by omega)) z⟩
      have : q = true := q2.mpr (fun j hj => by
        obtain ⟨y, hy, ey⟩ := (am _).mpr ⟨j, hj, rfl⟩
        rw [← ey]
        exact hc y (by omega))
      rw [this, if_pos rfl] at hQ
      exact hQ
    | succ r ih =>
      intro k hk hc
      have h256 := a256 k (by omega)
      refine h_Laws_isQuietAround_11 ⟨rfl, ?_⟩
      rw [ar1]
      refine ⟨fun z => absurd z (nI_ge (by omega) (by omega)), fun _ => ⟨rfl, rfl, ?_⟩⟩
      refine (w_Monoid_gatheredAt _ _ _ _ _).mpr ?_
      rw [q_and255, Nat.mod_eq_of_lt (show k < 256 by omega), nI_clamp (by omega), ar2 k (by omega)]
      refine ⟨rfl, ⟨rfl, vp_in_nI (N := 256) (by omega) (by omega)⟩, _, rfl, ?_⟩
      refine (s_then hx h256).mpr ⟨_, rfl, ?_⟩
      refine (s_then h256 hx).mpr ⟨_, rfl, ?_⟩
      have t1 := th_lt x (S.2.1 k)
      have t2 := th_lt (S.2.1 k) x
      by_cases ec : th x (S.2.1 k) = th (S.2.1 k) x
      · rw [ec]
        refine ⟨fun _ => ?_, fun z => absurd rfl z⟩
        rw [nI_1]
        refine ih (k + 1) (by omega) (fun j hj => ?_)
        by_cases ej : j = k
        · rw [ej]; exact ec
        · exact hc j (by omega)
      · refine ⟨fun z => absurd (nI_28 (by omega) (by omega) z) ec, fun _ => ⟨Or.inl rfl, ?_⟩⟩
        have : ¬ q = true := fun z => by
          obtain ⟨j, hj, ej⟩ := (am _).mp ⟨k, by omega, rfl⟩
          have := q2.mp z j hj
          rw [ej] at this
          exact ec this
        rw [if_neg this] at hQ
        exact hQ
  exact loop S.1 0 (by omega) (fun j hj => absurd hj (Nat.not_lt_zero _))
theorem or_t {t : Bool} {b : Bool} {Q : mv_Q} (hQ : Q (some (.int (if (!t || b) = true then 1 else 0))) σ) : (t = false → Q (some (.int 1)) σ) ∧ (t = true → Q (some (.int (if b = true then 1 else 0))) σ) := by
  cases t with
  | false => exact ⟨fun _ => hQ, fun z => absurd z (by decide)⟩
  | true => exact ⟨fun z => absurd z (by decide), fun _ => hQ⟩
theorem c_isLawful {law i j : Nat} (hl : law < 12) (m : moC M σ) (hi : i < (eF (gL M)).1) (hj : j < (eF (gL M)).1) (har : law = 7 → tie (gL M) i = true → arI M i σ) (hQ : Q (some (.int (if lawb (gL M) law i j = true then 1 else 0))) σ) : mv_wp X (d + 6) 84 [.ref 11, .int (nI law), .int (nI i), .int (nI j)] σ Q := by
  have hle := eF_le (g := gL M)
  have ina : inm (gL M) ((eF (gL M)).2.1 i) := ⟨i, hi, rfl⟩
  have inb : inm (gL M) ((eF (gL M)).2.1 j) := ⟨j, hj, rfl⟩
  have a256 := eF_q hi
  have b256 := eF_q hj
  have cT : ∀ (Q : mv_Q), Q (some (.int (if tie (gL M) i = true then 1 else 0))) σ → mv_wp X (d + 5) 64 [.ref 12, .int (nI i)] σ Q := fun Q q => c_isTie m hi q
  have cQ : tie (gL M) i = true → law = 7 → ∀ x, x < 256 → ∀ (Q : mv_Q), Q (some (.int (if (decide (th x x = x) && qui (gL M) ((eF (gL M)).2.1 i) x (eF (gL M)).1) = true then 1 else 0))) σ → mv_wp X (d + 4) 87 [.ref 11, .int (nI x)] σ Q := fun ht h7 x hx Q q => c_quiet hx (har h7 ht) q
  refine (w_Laws_isLawful _ _ _ _ _ _ _).mpr ⟨rfl, rfl, ?_⟩
  refine c_code m hi ⟨_, rfl, rfl, rfl, ?_⟩
  refine c_code m hj ⟨_, rfl, ?_⟩
  unfold lawb at hQ
  generalize hqq : qui (gL M) ((eF (gL M)).2.1 i) (th (th ((eF (gL M)).2.1 i) ((eF (gL M)).2.1 j)) ((eF (gL M)).2.1 i)) (eF (gL M)).1 = q at hQ
  have cQ := fun ht h7 => cQ ht h7 (th (th ((eF (gL M)).2.1 i) ((eF (gL M)).2.1 j)) ((eF (gL M)).2.1 i)) (th_lt _ _)
  rw [hqq] at cQ
  generalize tie (gL M) i = t at *
  generalize (eF (gL M)).2.1 i = a at *
  generalize (eF (gL M)).2.1 j = b at *
  have inab := inm_th ina inb
  have inba := inm_th inb ina
  have e256 := inm_lt (inm_om inab)
  have f256 := inm_lt (inm_om inba)
  have hl12 : law = 0 ∨ law = 1 ∨ law = 2 ∨ law = 3 ∨ law = 4 ∨ law = 5 ∨ law = 6 ∨ law = 7 ∨ law = 8 ∨ law = 9 ∨ law = 10 ∨ law = 11 := by omega
  rcases hl12 with rfl | rfl | rfl | rfl | rfl | rfl | rfl | rfl | rfl | rfl | rfl | rfl
  · repeat (first | refine dt (by decide) ?_ | refine df (by decide) ?_)
    refine ⟨rfl, rfl, c_om m ina ⟨_, rfl, ?_⟩⟩
    refine (s_then (inm_lt (inm_om ina)) a256).mpr ⟨_, rfl, rfl, rfl, c_om m ina ⟨_, rfl, ?_⟩⟩
    exact cmp_fin (th_lt _ _) (inm_lt (inm_om ina)) hQ
  · repeat (first | refine dt (by decide) ?_ | refine df (by decide) ?_)
    have hQ : Q (some (.int (if (decide (i = 0) || !decide (th a a = a)) = true then 1 else 0))) σ := hQ
    by_cases e0 : i = 0
    · rw [decide_eq_true e0, Bool.true_or, if_pos rfl] at hQ
      rw [e0]
      exact ⟨fun _ => ⟨Or.inr rfl, hQ⟩, fun z => absurd rfl z⟩
    · rw [decide_eq_false e0, Bool.false_or] at hQ
      refine ⟨fun z => absurd z (nI_ne0 (by omega) (by omega)), fun _ => ?_⟩
      refine s_isIdem a256 ⟨_, rfl, ?_⟩
      by_cases e : th a a = a
      · rw [decide_eq_true e, if_neg (by decide)] at hQ
        rw [if_pos e]
        exact ⟨fun _ => ⟨Or.inl rfl, hQ⟩, fun z => absurd z (by decide)⟩
      · rw [decide_eq_false e, if_pos (by decide)] at hQ
        rw [if_neg e]
        exact ⟨fun z => absurd rfl z, fun _ => ⟨Or.inr rfl, hQ⟩⟩
  · repeat (first | refine dt (by decide) ?_ | refine df (by decide) ?_)
    refine (s_then a256 b256).mpr ⟨_, rfl, (s_then b256 a256).mpr ⟨_, rfl, ?_⟩⟩
    exact cmp_fin (th_lt _ _) (th_lt _ _) hQ
  · repeat (first | refine dt (by decide) ?_ | refine df (by decide) ?_)
    have hQ : Q (some (.int (if decide (th a a = a) = true then 1 else 0))) σ := hQ
    refine s_isIdem a256 ⟨_, rfl, bI_01 _, ?_⟩
    simp only [decide_eq_true_eq] at hQ
    exact hQ
  · repeat (first | refine dt (by decide) ?_ | refine df (by decide) ?_)
    refine ⟨rfl, (w_Laws_isLawfulByOmegas _ _ _ _ _ _ _).mpr ⟨rfl, (s_then a256 b256).mpr ⟨_, rfl, rfl, c_om m inab ⟨_, rfl, ?_⟩⟩⟩⟩
    repeat (first | refine dt (by decide) ?_ | refine df (by decide) ?_)
    refine (s_then e256 a256).mpr ⟨_, rfl, ?_⟩
    exact cmp_fin (Q := fun r s => ∃ v, r = some (.int v) ∧ (v = 0 ∨ v = 1) ∧ Q (some (.int v)) s) (th_lt _ _) e256 ⟨_, rfl, bI_01 _, hQ⟩
  · repeat (first | refine dt (by decide) ?_ | refine df (by decide) ?_)
    refine ⟨rfl, (w_Laws_isLawfulByOmegas _ _ _ _ _ _ _).mpr ⟨rfl, (s_then a256 b256).mpr ⟨_, rfl, rfl, c_om m inab ⟨_, rfl, ?_⟩⟩⟩⟩
    repeat (first | refine dt (by decide) ?_ | refine df (by decide) ?_)
    refine (s_then b256 e256).mpr ⟨_, rfl, ?_⟩
    exact cmp_fin (Q := fun r s => ∃ v, r = some (.int v) ∧ (v = 0 ∨ v = 1) ∧ Q (some (.int v)) s) (th_lt _ _) e256 ⟨_, rfl, bI_01 _, hQ⟩
  · repeat (first | refine dt (by decide) ?_ | refine df (by decide) ?_)
    refine ⟨rfl, (w_Laws_isLawfulByOmegas _ _ _ _ _ _ _).mpr ⟨rfl, (s_then a256 b256).mpr ⟨_, rfl, rfl, c_om m inab ⟨_, rfl, ?_⟩⟩⟩⟩
    repeat (first | refine dt (by decide) ?_ | refine df (by decide) ?_)
    have hQ : Q (some (.int (if (decide (th (om (th a b)) a = om (th a b)) && decide (th b (om (th a b)) = om (th a b))) = true then 1 else 0))) σ := hQ
    refine (s_then e256 a256).mpr ⟨_, rfl, ?_⟩
    have t1 := th_lt (om (th a b)) a
    by_cases e : th (om (th a b)) a = om (th a b)
    · rw [decide_eq_true e, Bool.true_and] at hQ
      rw [e]
      refine ⟨fun z => absurd rfl z, fun _ => (s_then b256 e256).mpr ⟨_, rfl, ?_⟩⟩
      exact cmp_fin (Q := fun r s => ∃ v, r = some (.int v) ∧ (v = 0 ∨ v = 1) ∧ Q (some (.int v)) s) (th_lt _ _) e256 ⟨_, rfl, bI_01 _, hQ⟩
    · rw [decide_eq_false e, Bool.false_and, if_neg (by decide)] at hQ
      exact ⟨fun _ => ⟨Or.inl rfl, _, rfl, Or.inl rfl, hQ⟩, fun z => absurd (nI_28 (by omega) (by omega) z) e⟩
  · repeat (first | refine dt (by decide) ?_ | refine df (by decide) ?_)
    obtain ⟨o1, o2⟩ := or_t (b := decide (th (th (th a b) a) (th (th a b) a) = th (th a b) a) && q) hQ
    refine ⟨rfl, rfl, cT _ ⟨_, rfl, ?_⟩⟩
    cases t with
    | false => exact ⟨fun _ => ⟨Or.inr rfl, o1 rfl⟩, fun z => absurd rfl z⟩
    | true =>
      refine ⟨fun z => absurd z (by decide), fun _ => ⟨rfl, (w_Laws_isLawfulOfTie _ _ _ _ _ _ _).mpr ?_⟩⟩
      repeat (first | refine dt (by decide) ?_ | refine df (by decide) ?_)
      refine (s_then a256 b256).mpr ⟨_, rfl, (s_then (th_lt _ _) a256).mpr ⟨_, rfl, rfl, cQ rfl rfl _ ⟨_, rfl, bI_01 _, _, rfl, ?_⟩⟩⟩
      have o2 := o2 rfl
      by_cases e : (decide (th (th (th a b) a) (th (th a b) a) = th (th a b) a) && q) = true
      · rw [if_pos e] at o2 ⊢
        exact ⟨fun z => absurd z (by decide), fun _ => ⟨Or.inr rfl, o2⟩⟩
      · rw [if_neg e] at o2 ⊢
        exact ⟨fun _ => ⟨Or.inl rfl, o2⟩, fun z => absurd rfl z⟩
  · repeat (first | refine dt (by decide) ?_ | refine df (by decide) ?_)
    obtain ⟨o1, o2⟩ := or_t (b := decide (th b a = a)) hQ
    refine ⟨rfl, rfl, cT _ ⟨_, rfl, ?_⟩⟩
    cases t with
    | false => exact ⟨fun _ => ⟨Or.inr rfl, o1 rfl⟩, fun z => absurd rfl z⟩
    | true =>
      refine ⟨fun z => absurd z (by decide), fun _ => ⟨rfl, (w_Laws_isLawfulOfTie _ _ _ _ _ _ _).mpr ?_⟩⟩
      repeat (first | refine dt (by decide) ?_ | refine df (by decide) ?_)
      refine (s_then b256 a256).mpr ⟨_, rfl, ?_⟩
      have o2 := o2 rfl
      refine cmp_fin (Q := fun r s => ∃ v14, r = some (.int v14) ∧ ((v14 = 0 → ((0 : Int32) = (0 : Int32) ∨ (0 : Int32) = (1 : Int32)) ∧ Q (some (.int 0)) s) ∧ (¬ v14 = 0 → ((1 : Int32) = (0 : Int32) ∨ (1 : Int32) = (1 : Int32)) ∧ Q (some (.int 1)) s))) (th_lt _ _) a256 ⟨_, rfl, ?_⟩
      by_cases e : decide (th b a = a) = true
      · rw [if_pos e] at o2 ⊢
        exact ⟨fun z => absurd z (by decide), fun _ => ⟨Or.inr rfl, o2⟩⟩
      · rw [if_neg e] at o2 ⊢
        exact ⟨fun _ => ⟨Or.inl rfl, o2⟩, fun z => absurd rfl z⟩
  · repeat (first | refine dt (by decide) ?_ | refine df (by decide) ?_)
    obtain ⟨o1, o2⟩ := or_t (b := decide (th a b = a)) hQ
    refine ⟨rfl, rfl, cT _ ⟨_, rfl, ?_⟩⟩
    cases t with
    | false => exact ⟨fun _ => ⟨Or.inr rfl, o1 rfl⟩, fun z => absurd rfl z⟩
    | true =>
      refine ⟨fun z => absurd z (by decide), fun _ => ⟨rfl, (w_Laws_isLawfulOfTie _ _ _ _ _ _ _).mpr ?_⟩⟩
      repeat (first | refine dt (by decide) ?_ | refine df (by decide) ?_)
      refine (s_then a256 b256).mpr ⟨_, rfl, ?_⟩
      have o2 := o2 rfl
      refine cmp_fin (Q := fun r s => ∃ v14, r = some (.int v14) ∧ ((v14 = 0 → ((0 : Int32) = (0 : Int32) ∨ (0 : Int32) = (1 : Int32)) ∧ Q (some (.int 0)) s) ∧ (¬ v14 = 0 → ((1 : Int32) = (0 : Int32) ∨ (1 : Int32) = (1 : Int32)) ∧ Q (some (.int 1)) s))) (th_lt _ _) a256 ⟨_, rfl, ?_⟩
      by_cases e : decide (th a b = a) = true
      · rw [if_pos e] at o2 ⊢
        exact ⟨fun z => absurd z (by decide), fun _ => ⟨Or.inr rfl, o2⟩⟩
      · rw [if_neg e] at o2 ⊢
        exact ⟨fun _ => ⟨Or.inl rfl, o2⟩, fun z => absurd rfl z⟩
  · repeat (first | refine dt (by decide) ?_ | refine df (by decide) ?_)
    obtain ⟨o1, o2⟩ := or_t (b := decide (th (th a b) a = a)) hQ
    refine ⟨rfl, rfl, cT _ ⟨_, rfl, ?_⟩⟩
    cases t with
    | false => exact ⟨fun _ => ⟨Or.inr rfl, o1 rfl⟩, fun z => absurd rfl z⟩
    | true =>
      refine ⟨fun z => absurd z (by decide), fun _ => ⟨rfl, (w_Laws_isLawfulOfTie _ _ _ _ _ _ _).mpr ?_⟩⟩
      repeat (first | refine dt (by decide) ?_ | refine df (by decide) ?_)
      refine (s_then a256 b256).mpr ⟨_, rfl, (s_then (th_lt _ _) a256).mpr ⟨_, rfl, ?_⟩⟩
      have o2 := o2 rfl
      refine cmp_fin (Q := fun r s => ∃ v14, r = some (.int v14) ∧ ((v14 = 0 → ((0 : Int32) = (0 : Int32) ∨ (0 : Int32) = (1 : Int32)) ∧ Q (some (.int 0)) s) ∧ (¬ v14 = 0 → ((1 : Int32) = (0 : Int32) ∨ (1 : Int32) = (1 : Int32)) ∧ Q (some (.int 1)) s))) (th_lt _ _) a256 ⟨_, rfl, ?_⟩
      by_cases e : decide (th (th a b) a = a) = true
      · rw [if_pos e] at o2 ⊢
        exact ⟨fun z => absurd z (by decide), fun _ => ⟨Or.inr rfl, o2⟩⟩
      · rw [if_neg e] at o2 ⊢
        exact ⟨fun _ => ⟨Or.inl rfl, o2⟩, fun z => absurd rfl z⟩
  · repeat (first | refine dt (by decide) ?_ | refine df (by decide) ?_)
    refine ⟨rfl, (w_Laws_isLawfulByOmegas _ _ _ _ _ _ _).mpr ⟨rfl, (s_then a256 b256).mpr ⟨_, rfl, rfl, c_om m inab ⟨_, rfl, ?_⟩⟩⟩⟩
    repeat (first | refine dt (by decide) ?_ | refine df (by decide) ?_)
    refine ⟨rfl, (s_then b256 a256).mpr ⟨_, rfl, rfl, c_om m inba ⟨_, rfl, (s_then e256 f256).mpr ⟨_, rfl, (s_then (th_lt _ _) e256).mpr ⟨_, rfl, ?_⟩⟩⟩⟩⟩
    exact cmp_fin (Q := fun r s => ∃ v, r = some (.int v) ∧ (v = 0 ∨ v = 1) ∧ Q (some (.int v)) s) (th_lt _ _) e256 ⟨_, rfl, bI_01 _, hQ⟩
end LAWSC
