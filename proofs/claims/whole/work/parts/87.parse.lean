/-! ===== reading a formula ===== -/
abbrev fR := Sum (Nat × List Nat) (Nat × List Nat × (Nat → Nat → Bool))
def ltq (x : Int32) : Option Nat := if x = 97 then some 0 else if x = 98 then some 1 else if x = 99 then some 2 else none
def ltr (pk : Nat → Int32) : Nat → Nat → List Nat → Nat × List Nat
  | 0, p, a => (p, a)
  | f + 1, p, a => match ltq (pk p) with
    | some l => ltr pk f (p + 1) (a ++ [l])
    | none => (p, a)
def lcode (kd : Nat) (ls : List Nat) : Nat := kd + 16 * ls.length + 256 * wb ls
def lettP (pk : Nat → Int32) (kd p : Nat) : fR := if (ltr pk 3 (p + 1) []).2 = [] then Sum.inl (p + 1, []) else Sum.inr ((ltr pk 3 (p + 1) []).1, [lcode kd (ltr pk 3 (p + 1) []).2], fun n B => atS (lcode kd (ltr pk 3 (p + 1) []).2) n B)
def dgq (x : Int32) : Option Nat := if x = 50 then some 2 else if x = 51 then some 3 else if x = 52 then some 4 else if x = 53 then some 5 else none
def multP (pk : Nat → Int32) (p : Nat) : fR := match dgq (pk (p + 1)) with
  | some k => Sum.inr (p + 2, [4 + 16 * k], fun n B => atS (4 + 16 * k) n B)
  | none => Sum.inl (p + 1, [])
def atomP (pk : Nat → Int32) (p : Nat) : fR :=
  if pk p = 35 then lettP pk 7 p else if pk p = 36 then lettP pk 6 p else if pk p = 37 then multP pk p else if pk p = 94 then lettP pk 5 p else if pk p = 101 then Sum.inr (p + 1, [3], fun n B => atS 3 n B) else if pk p = 126 then lettP pk 8 p else Sum.inl (p, [])
def lpP (sub : Nat → fR) (tok : Int32) (op : Nat) (cb : Bool → Bool → Bool) (pk : Nat → Int32) : Nat → Nat → List Nat → (Nat → Nat → Bool) → fR
  | 0, p, a, v => Sum.inr (p, a, v)
  | f + 1, p, a, v => if pk p = tok then (match sub (p + 1) with
    | Sum.inl e => Sum.inl e
    | Sum.inr (p', a', v') => lpP sub tok op cb pk f p' (a ++ a' ++ [op]) (fun n B => cb (v n B) (v' n B))) else Sum.inr (p, a, v)
def sqP (sub : Nat → fR) (tok : Int32) (op : Nat) (cb : Bool → Bool → Bool) (pk : Nat → Int32) (p : Nat) : fR := match sub p with
  | Sum.inl e => Sum.inl e
  | Sum.inr (p', a, v) => lpP sub tok op cb pk 60 p' a v
def bothP (pk : Nat → Int32) (sub : Nat → fR) : Nat → fR := sqP sub 38 0 and pk
def eithP (pk : Nat → Int32) (sub : Nat → fR) : Nat → fR := sqP (bothP pk sub) 124 1 or pk
def oneP (pk : Nat → Int32) : Nat → Nat → fR
  | 0, p => if pk p = 33 then Sum.inl (p, []) else if pk p = 40 then Sum.inl (p, []) else atomP pk p
  | d + 1, p => if pk p = 33 then (match oneP pk d (p + 1) with
      | Sum.inl (f, os) => Sum.inl (f, p :: os)
      | Sum.inr (p', a, v) => Sum.inr (p', a ++ [2], fun n B => !v n B))
    else if pk p = 40 then (match eithP pk (oneP pk d) (p + 1) with
      | Sum.inl (f, os) => Sum.inl (f, p :: os)
      | Sum.inr (p', a, v) => if pk p' = 41 then Sum.inr (p' + 1, a, v) else Sum.inl (p', [p]))
    else atomP pk p
/-- what the ops do to the stack -/
def good (H : Nat) (a : List Nat) (v : Nat → Nat → Bool) : Prop := ∀ n B t h, t < 2 ^ h → a.foldl (st1 n B) t = 2 * t + (if v n B = true then 1 else 0) ∧ ∀ u w, a = u ++ w → u.foldl (st1 n B) t < 2 ^ (h + H)
def okR (N d H p : Nat) : fR → Prop
  | Sum.inl (f, os) => p ≤ f ∧ f ≤ N ∧ os.length ≤ d ∧ ∀ x, x ∈ os → x ≤ N
  | Sum.inr (p', a, v) => p < p' ∧ p' ≤ N ∧ a.length + p ≤ p' ∧ (∀ x, x ∈ a → opk x) ∧ good H a v
theorem sp_app {α : Type} : ∀ {a b u w : List α}, a ++ b = u ++ w → (∃ a', a = u ++ a' ∧ w = a' ++ b) ∨ ∃ b', u = a ++ b' ∧ b = b' ++ w
  | [], b, u, w, h => Or.inr ⟨u, rfl, h⟩
  | x :: a, b, [], w, h => Or.inl ⟨x :: a, rfl, h.symm⟩
  | x :: a, b, y :: u, w, h => by
    have h : x :: (a ++ b) = y :: (u ++ w) := h
    injection h with h1 h2
    subst h1
    rcases sp_app h2 with ⟨a', e1, e2⟩ | ⟨b', e1, e2⟩
    · exact Or.inl ⟨a', by rw [e1]; rfl, e2⟩
    · exact Or.inr ⟨b', by rw [e1]; rfl, e2⟩
theorem pw_le {a b : Nat} (h : a ≤ b) : 2 ^ a ≤ 2 ^ b := Nat.pow_le_pow_right (by decide) h
theorem good_mono {H H' : Nat} {a : List Nat} {v : Nat → Nat → Bool} (h : good H a v) (hh : H ≤ H') : good H' a v := fun n B t k hk => ⟨(h n B t k hk).1, fun u w e => Nat.lt_of_lt_of_le ((h n B t k hk).2 u w e) (pw_le (by omega))⟩
theorem good_at {x : Nat} (hx : atk x) : good 1 [x] (fun n B => atS x n B) := by
  intro n B t h ht
  have e : st1 n B t x = 2 * t + (if atS x n B = true then 1 else 0) := by
    unfold st1
    have := hx.2.1
    rw [if_neg (by omega), if_neg (by omega), if_neg (by omega)]
  refine ⟨e, fun u w hu => ?_⟩
  have p2 : 2 ^ (h + 1) = 2 * 2 ^ h := by rw [Nat.pow_succ, Nat.mul_comm]
  cases u with
  | nil => show t < _; omega
  | cons y u =>
    have hu : x :: [] = y :: (u ++ w) := hu
    injection hu with h1 h2
    subst h1
    have : u = [] := (List.append_eq_nil_iff.mp h2.symm).1
    subst this
    show st1 n B t x < _
    rw [e]
    split <;> omega
theorem good_not {H : Nat} {a : List Nat} {v : Nat → Nat → Bool} (h : good H a v) (hH : 1 ≤ H) : good H (a ++ [2]) (fun n B => !v n B) := by
  intro n B t k hk
  obtain ⟨h1, h2⟩ := h n B t k hk
  have p2 : 2 ^ (k + 1) = 2 * 2 ^ k := by rw [Nat.pow_succ, Nat.mul_comm]
  have p3 := pw_le (show k + 1 ≤ k + H by omega)
  have e : (a ++ [2]).foldl (st1 n B) t = 2 * t + (if (!v n B) = true then 1 else 0) := by
    rw [List.foldl_append, h1]
    show (if (2 * t + (if v n B = true then 1 else 0)) % 2 = 0 then (2 * t + (if v n B = true then 1 else 0)) + 1 else (2 * t + (if v n B = true then 1 else 0)) - 1) = _
    cases v n B
    · show (if (2 * t + 0) % 2 = 0 then 2 * t + 0 + 1 else 2 * t + 0 - 1) = 2 * t + 1
      rw [if_pos (by omega)]
    · show (if (2 * t + 1) % 2 = 0 then 2 * t + 1 + 1 else 2 * t + 1 - 1) = 2 * t + 0
      rw [if_neg (by omega)]; omega
  refine ⟨e, fun u w hu => ?_⟩
  rcases sp_app hu with ⟨a', e1, e2⟩ | ⟨b', e1, e2⟩
  · exact h2 u a' e1
  · cases b' with
    | nil => rw [e1, List.append_nil]; exact h2 a [] (List.append_nil _).symm
    | cons y b' =>
      have e2 : (2 : Nat) :: [] = y :: (b' ++ w) := e2
      injection e2 with h3 h4
      have : b' = [] := (List.append_eq_nil_iff.mp h4.symm).1
      subst this
      subst h3
      rw [e1, e]
      split <;> omega
theorem good_two {H op : Nat} {cb : Bool → Bool → Bool} {a a' : List Nat} {v v' : Nat → Nat → Bool} (hc : ∀ n B t x y, st1 n B (2 * (2 * t + (if x = true then 1 else 0)) + (if y = true then 1 else 0)) op = 2 * t + (if cb x y = true then 1 else 0)) (h : good (H + 1) a v) (h' : good H a' v') (hH : 1 ≤ H) : good (H + 1) (a ++ a' ++ [op]) (fun n B => cb (v n B) (v' n B)) := by
  intro n B t k hk
  obtain ⟨h1, h2⟩ := h n B t k hk
  have p2 : 2 ^ (k + 1) = 2 * 2 ^ k := by rw [Nat.pow_succ, Nat.mul_comm]
  have p3 := pw_le (show k + 1 ≤ k + (H + 1) by omega)
  have ht1 : a.foldl (st1 n B) t < 2 ^ (k + 1) := by rw [h1]; split <;> omega
  obtain ⟨h3, h4⟩ := h' n B (a.foldl (st1 n B) t) (k + 1) ht1
  have e : (a ++ a' ++ [op]).foldl (st1 n B) t = 2 * t + (if cb (v n B) (v' n B) = true then 1 else 0) := by
    rw [List.foldl_append, List.foldl_append, h3, h1]
    exact hc n B t _ _
  refine ⟨e, fun u w hu => ?_⟩
  have ex : k + 1 + H = k + (H + 1) := by omega
  rcases sp_app hu with ⟨c, e1, e2⟩ | ⟨c, e1, e2⟩
  · rcases sp_app e1 with ⟨c', e3, e4⟩ | ⟨c', e3, e4⟩
    · exact h2 u c' e3
    · have := h4 c' c e4
      rw [e3, List.foldl_append, ← ex]
      exact this
  · cases c with
    | nil =>
      have := h4 a' [] (List.append_nil _).symm
      rw [e1, List.append_nil, List.foldl_append, ← ex]
      exact this
    | cons y c =>
      have e2 : op :: [] = y :: (c ++ w) := e2
      injection e2 with h5 h6
      have : c = [] := (List.append_eq_nil_iff.mp h6.symm).1
      subst this
      subst h5
      rw [e1, e]
      split <;> omega
theorem c_and (n B t : Nat) (x y : Bool) : st1 n B (2 * (2 * t + (if x = true then 1 else 0)) + (if y = true then 1 else 0)) 0 = 2 * t + (if (x && y) = true then 1 else 0) := by
  unfold st1
  rw [if_pos (by decide)]
  cases x <;> cases y <;> simp only [Bool.and_self, Bool.and_false, Bool.and_true, Bool.false_eq_true, if_true, if_false] <;> split <;> omega
theorem c_or (n B t : Nat) (x y : Bool) : st1 n B (2 * (2 * t + (if x = true then 1 else 0)) + (if y = true then 1 else 0)) 1 = 2 * t + (if (x || y) = true then 1 else 0) := by
  unfold st1
  rw [if_neg (by decide), if_pos (by decide)]
  cases x <;> cases y <;> simp only [Bool.or_self, Bool.or_false, Bool.or_true, Bool.false_eq_true, if_true, if_false] <;> split <;> omega
section PARSE
variable {N : Nat} {pk : Nat → Int32}
/-- what stands behind the tape's end is no sign -/
def pkk (N : Nat) (pk : Nat → Int32) : Prop := ∀ p, N ≤ p → pk p = -1
theorem pq_in (h : pkk N pk) {p : Nat} {x : Int32} (e : pk p = x) (hx : ¬ (-1 : Int32) = x) : p < N := by
  refine Nat.lt_of_not_le (fun z => hx ?_)
  rw [← h p z, e]
theorem ltq_s {x : Int32} {l : Nat} (h : ltq x = some l) : l < 3 ∧ x = nI (97 + l) := by
  unfold ltq at h
  split at h
  · injection h with h; subst h; rename_i e; exact ⟨by decide, e⟩
  · split at h
    · injection h with h; subst h; rename_i e; exact ⟨by decide, e⟩
    · split at h
      · injection h with h; subst h; rename_i e; exact ⟨by decide, e⟩
      · cases h
theorem dgq_s {x : Int32} {k : Nat} (h : dgq x = some k) : 2 ≤ k ∧ k ≤ 5 ∧ x = nI (48 + k) := by
  unfold dgq at h
  split at h
  · injection h with h; subst h; rename_i e; exact ⟨by decide, by decide, e⟩
  · split at h
    · injection h with h; subst h; rename_i e; exact ⟨by decide, by decide, e⟩
    · split at h
      · injection h with h; subst h; rename_i e; exact ⟨by decide, by decide, e⟩
      · split at h
        · injection h with h; subst h; rename_i e; exact ⟨by decide, by decide, e⟩
        · cases h
theorem ltr_ok (h : pkk N pk) : ∀ f p a, p ≤ N → (∀ l, l ∈ a → l < 3) → p ≤ (ltr pk f p a).1 ∧ (ltr pk f p a).1 ≤ N ∧ (ltr pk f p a).2.length + p = a.length + (ltr pk f p a).1 ∧ (ltr pk f p a).2.length ≤ a.length + f ∧ ∀ l, l ∈ (ltr pk f p a).2 → l < 3
  | 0, p, a, hp, ha => ⟨Nat.le_refl _, hp, rfl, Nat.le_refl _, ha⟩
  | f + 1, p, a, hp, ha => by
    unfold ltr
    cases e : ltq (pk p) with
    | none => exact ⟨Nat.le_refl _, hp, rfl, Nat.le_add_right _ _, ha⟩
    | some l =>
      obtain ⟨l1, l2⟩ := ltq_s e
      have hpN : p < N := pq_in h l2 (by
        intro z
        have : (nI (97 + l)).toInt = -1 := by rw [← z]; decide
        rw [nI_toInt (by omega)] at this
        omega)
      have ih := ltr_ok h f (p + 1) (a ++ [l]) (by omega) (fun x hx => by
        rcases List.mem_append.mp hx with hx | hx
        · exact ha x hx
        · rw [List.mem_singleton.mp hx]; exact l1)
      rw [List.length_append] at ih
      have e1 : ([l] : List Nat).length = 1 := rfl
      rw [e1] at ih
      obtain ⟨i1, i2, i3, i4, i5⟩ := ih
      dsimp only
      exact ⟨by omega, i2, by omega, by omega, i5⟩
theorem atk_l {kd : Nat} {ls : List Nat} (hk : 5 ≤ kd ∧ kd ≤ 8) (h1 : ls.length ≤ 3) (h0 : ¬ ls = []) (h3 : ∀ l, l ∈ ls → l < 3) : atk (lcode kd ls) ∧ lcode kd ls % 16 = kd ∧ lcode kd ls / 16 % 16 = ls.length ∧ lcode kd ls / 256 = wb ls := by
  have hl : 1 ≤ ls.length := by
    cases ls with
    | nil => exact absurd rfl h0
    | cons a b => exact Nat.succ_le_succ (Nat.zero_le _)
  have hw : wb ls < 64 := Nat.lt_of_lt_of_le (wb_lt ls h3) (Nat.pow_le_pow_right (n := 4) (by decide) h1)
  unfold atk lcode
  omega
theorem lett_ok {kd p : Nat} (h : pkk N pk) (hk : 5 ≤ kd ∧ kd ≤ 8) (hp : p < N) : okR N 0 1 p (lettP pk kd p) := by
  have lo := ltr_ok h 3 (p + 1) [] (by omega) (fun l hl => absurd hl (List.not_mem_nil))
  unfold lettP
  generalize ltr pk 3 (p + 1) [] = r at *
  obtain ⟨r1, r2⟩ := r
  obtain ⟨i1, i2, i3, i4, i5⟩ := lo
  have z0 : ([] : List Nat).length = 0 := rfl
  rw [z0] at i3 i4
  by_cases e : r2 = []
  · rw [if_pos e]
    exact ⟨by omega, by omega, Nat.le_refl _, fun x hx => absurd hx (List.not_mem_nil)⟩
  · rw [if_neg e]
    have ak := (atk_l (kd := kd) hk (by dsimp only at i4; omega) e i5).1
    refine ⟨by dsimp only at i1 ⊢; omega, i2, ?_, fun x hx => ?_, good_at ak⟩
    · show 1 + p ≤ r1
      dsimp only at i1
      omega
    · rw [List.mem_singleton.mp hx]; exact Or.inr (Or.inr (Or.inr ak))
theorem atom_ok {p : Nat} (h : pkk N pk) (hp : p ≤ N) : okR N 0 1 p (atomP pk p) := by
  unfold atomP
  by_cases e1 : pk p = 35
  · rw [if_pos e1]; exact lett_ok h (by decide) (pq_in h e1 (by decide))
  rw [if_neg e1]
  by_cases e2 : pk p = 36
  · rw [if_pos e2]; exact lett_ok h (by decide) (pq_in h e2 (by decide))
  rw [if_neg e2]
  by_cases e3 : pk p = 37
  · rw [if_pos e3]
    have hpN := pq_in h e3 (by decide)
    unfold multP
    cases e : dgq (pk (p + 1)) with
    | none => exact ⟨by omega, by omega, Nat.le_refl _, fun x hx => absurd hx (List.not_mem_nil)⟩
    | some k =>
      obtain ⟨k1, k2, k3⟩ := dgq_s e
      have hp2 : p + 1 < N := pq_in h k3 (by
        intro z
        have : (nI (48 + k)).toInt = -1 := by rw [← z]; decide
        rw [nI_toInt (by omega)] at this
        omega)
      have ak : atk (4 + 16 * k) := by unfold atk; omega
      exact ⟨by omega, by omega, by show 1 + p ≤ p + 2; omega, fun x hx => by rw [List.mem_singleton.mp hx]; exact Or.inr (Or.inr (Or.inr ak)), good_at ak⟩
  rw [if_neg e3]
  by_cases e4 : pk p = 94
  · rw [if_pos e4]; exact lett_ok h (by decide) (pq_in h e4 (by decide))
  rw [if_neg e4]
  by_cases e5 : pk p = 101
  · rw [if_pos e5]
    have hpN := pq_in h e5 (by decide)
    have ak : atk 3 := by unfold atk; omega
    exact ⟨by omega, by omega, by show 1 + p ≤ p + 1; omega, fun x hx => by rw [List.mem_singleton.mp hx]; exact Or.inr (Or.inr (Or.inr ak)), good_at ak⟩
  rw [if_neg e5]
  by_cases e6 : pk p = 126
  · rw [if_pos e6]; exact lett_ok h (by decide) (pq_in h e6 (by decide))
  rw [if_neg e6]
  exact ⟨Nat.le_refl _, hp, Nat.le_refl _, fun x hx => absurd hx (List.not_mem_nil)⟩
theorem lp_ok {sub : Nat → fR} {tok : Int32} {op d H p0 : Nat} {cb : Bool → Bool → Bool} (h : pkk N pk) (ht : ¬ (-1 : Int32) = tok) (ho : opk op) (hH : 1 ≤ H) (hc : ∀ n B t x y, st1 n B (2 * (2 * t + (if x = true then 1 else 0)) + (if y = true then 1 else 0)) op = 2 * t + (if cb x y = true then 1 else 0))
    (hs : ∀ p, p ≤ N → okR N d H p (sub p)) : ∀ f p a v, okR N d (H + 1) p0 (Sum.inr (p, a, v)) → okR N d (H + 1) p0 (lpP sub tok op cb pk f p a v)
  | 0, p, a, v, ha => ha
  | f + 1, p, a, v, ha => by
    unfold lpP
    by_cases e : pk p = tok
    · rw [if_pos e]
      have hpN := pq_in h e ht
      have hsub := hs (p + 1) (by omega)
      obtain ⟨a1, a2, a3, a4, a5⟩ := ha
      cases es : sub (p + 1) with
      | inl r =>
        rw [es] at hsub
        obtain ⟨r1, r2⟩ := r
        obtain ⟨s1, s2, s3, s4⟩ := hsub
        exact ⟨by omega, s2, s3, s4⟩
      | inr r =>
        rw [es] at hsub
        obtain ⟨p', a', v'⟩ := r
        obtain ⟨s1, s2, s3, s4, s5⟩ := hsub
        refine lp_ok h ht ho hH hc hs f p' _ _ ⟨by omega, s2, ?_, fun x hx => ?_, good_two hc a5 s5 hH⟩
        · rw [List.length_append, List.length_append]
          have : ([op] : List Nat).length = 1 := rfl
          omega
        · rcases List.mem_append.mp hx with hx | hx
          · rcases List.mem_append.mp hx with hx | hx
            · exact a4 x hx
            · exact s4 x hx
          · rw [List.mem_singleton.mp hx]; exact ho
    · rw [if_neg e]
      exact ha
theorem sq_ok {sub : Nat → fR} {tok : Int32} {op d H : Nat} {cb : Bool → Bool → Bool} (h : pkk N pk) (ht : ¬ (-1 : Int32) = tok) (ho : opk op) (hH : 1 ≤ H) (hc : ∀ n B t x y, st1 n B (2 * (2 * t + (if x = true then 1 else 0)) + (if y = true then 1 else 0)) op = 2 * t + (if cb x y = true then 1 else 0))
    (hs : ∀ p, p ≤ N → okR N d H p (sub p)) (p : Nat) (hp : p ≤ N) : okR N d (H + 1) p (sqP sub tok op cb pk p) := by
  unfold sqP
  have hsub := hs p hp
  cases es : sub p with
  | inl r =>
    rw [es] at hsub
    exact hsub
  | inr r =>
    rw [es] at hsub
    obtain ⟨p', a', v'⟩ := r
    obtain ⟨s1, s2, s3, s4, s5⟩ := hsub
    exact lp_ok h ht ho hH hc hs 60 p' a' v' ⟨s1, s2, s3, s4, good_mono s5 (Nat.le_succ _)⟩
theorem both_ok {sub : Nat → fR} {d H : Nat} (h : pkk N pk) (hH : 1 ≤ H) (hs : ∀ p, p ≤ N → okR N d H p (sub p)) : ∀ p, p ≤ N → okR N d (H + 1) p (bothP pk sub p) := sq_ok h (by decide) (Or.inl rfl) hH c_and hs
theorem eith_ok {sub : Nat → fR} {d H : Nat} (h : pkk N pk) (hH : 1 ≤ H) (hs : ∀ p, p ≤ N → okR N d H p (sub p)) : ∀ p, p ≤ N → okR N d (H + 1 + 1) p (eithP pk sub p) := sq_ok h (by decide) (Or.inr (Or.inl rfl)) (by omega) c_or (both_ok h hH hs)
theorem okR_up {d H d' H' p : Nat} {r : fR} (h : okR N d H p r) (hd : d ≤ d') (hH : H ≤ H') : okR N d' H' p r := by
  rcases r with ⟨f, os⟩ | ⟨p', a, v⟩
  · obtain ⟨s1, s2, s3, s4⟩ := h; exact ⟨s1, s2, by omega, s4⟩
  · obtain ⟨s1, s2, s3, s4, s5⟩ := h; exact ⟨s1, s2, s3, s4, good_mono s5 hH⟩
theorem one_ok (h : pkk N pk) : ∀ d p, p ≤ N → okR N d (2 * d + 1) p (oneP pk d p)
  | 0, p, hp => by
    unfold oneP
    have f0 : okR N 0 (2 * 0 + 1) p (Sum.inl (p, [])) := ⟨Nat.le_refl _, hp, Nat.le_refl _, fun x hx => absurd hx (List.not_mem_nil)⟩
    split
    · exact f0
    · split
      · exact f0
      · exact atom_ok h hp
  | d + 1, p, hp => by
    unfold oneP
    by_cases e1 : pk p = 33
    · rw [if_pos e1]
      have hpN := pq_in h e1 (by decide)
      have ih := one_ok h d (p + 1) (by omega)
      cases es : oneP pk d (p + 1) with
      | inl r =>
        rw [es] at ih
        obtain ⟨f, os⟩ := r
        obtain ⟨s1, s2, s3, s4⟩ := ih
        refine ⟨by omega, s2, Nat.succ_le_succ s3, fun x hx => ?_⟩
        rcases List.mem_cons.mp hx with hx | hx
        · rw [hx]; exact hp
        · exact s4 x hx
      | inr r =>
        rw [es] at ih
        obtain ⟨p', a, v⟩ := r
        obtain ⟨s1, s2, s3, s4, s5⟩ := ih
        refine ⟨by omega, s2, ?_, fun x hx => ?_, good_mono (good_not s5 (by omega)) (by omega)⟩
        · rw [List.length_append]
          have : ([2] : List Nat).length = 1 := rfl
          omega
        · rcases List.mem_append.mp hx with hx | hx
          · exact s4 x hx
          · rw [List.mem_singleton.mp hx]; exact Or.inr (Or.inr (Or.inl rfl))
    rw [if_neg e1]
    by_cases e2 : pk p = 40
    · rw [if_pos e2]
      have hpN := pq_in h e2 (by decide)
      have ih := eith_ok h (by omega) (one_ok h d) (p + 1) (by omega)
      cases es : eithP pk (oneP pk d) (p + 1) with
      | inl r =>
        rw [es] at ih
        obtain ⟨f, os⟩ := r
        obtain ⟨s1, s2, s3, s4⟩ := ih
        refine ⟨by omega, s2, Nat.succ_le_succ s3, fun x hx => ?_⟩
        rcases List.mem_cons.mp hx with hx | hx
        · rw [hx]; exact hp
        · exact s4 x hx
      | inr r =>
        rw [es] at ih
        obtain ⟨p', a, v⟩ := r
        obtain ⟨s1, s2, s3, s4, s5⟩ := ih
        by_cases e3 : pk p' = 41
        · have hp' := pq_in h e3 (by decide)
          show okR N (d + 1) (2 * (d + 1) + 1) p (if pk p' = 41 then Sum.inr (p' + 1, a, v) else Sum.inl (p', [p]))
          rw [if_pos e3]
          exact ⟨by omega, by omega, by omega, s4, good_mono s5 (by omega)⟩
        · show okR N (d + 1) (2 * (d + 1) + 1) p (if pk p' = 41 then Sum.inr (p' + 1, a, v) else Sum.inl (p', [p]))
          rw [if_neg e3]
          exact ⟨by omega, s2, by show 1 ≤ d + 1; omega, fun x hx => by rw [List.mem_singleton.mp hx]; exact hp⟩
    rw [if_neg e2]
    exact okR_up (atom_ok h hp) (by omega) (by omega)
end PARSE
