/-! ===== reading, the class ===== -/
def pkb (N : Nat) (b : Nat → Int32) (p : Nat) : Int32 := if p < N then b p else -1
theorem pkb_k (N : Nat) (b : Nat → Int32) : pkk N (pkb N b) := fun p hp => if_neg (by omega)
def cst (N : Nat) (b : Nat → Int32) (σ : mv_S) : Prop := N ≤ 60 ∧ σ.1 5 4 = nI N ∧ ∀ j, j < N → σ.1 6 j = b j
def cPos (p c o : Nat) (σ : mv_S) : Prop := σ.1 5 8 = nI p ∧ σ.1 5 5 = nI c ∧ σ.1 5 6 = nI o
def rdF (c o : Nat) (σ τ : mv_S) : Prop := (∀ x j, ¬ (x = 5 ∧ (j = 5 ∨ j = 6 ∨ j = 8 ∨ j = 9)) → ¬ (x = 7 ∧ c ≤ j) → ¬ (x = 8 ∧ o ≤ j) → τ.1 x j = σ.1 x j) ∧ τ.2 = σ.2
theorem rdF_rf (c o : Nat) (σ : mv_S) : rdF c o σ σ := ⟨fun _ _ _ _ _ => rfl, rfl⟩
theorem rdF_tr {c o c' o' : Nat} {σ τ υ : mv_S} (h : rdF c o σ τ) (g : rdF c' o' τ υ) (hc : c ≤ c') (ho : o ≤ o') : rdF c o σ υ := ⟨fun x j q1 q2 q3 => (g.1 x j q1 (by omega) (by omega)).trans (h.1 x j q1 q2 q3), g.2.trans h.2⟩
theorem cst_P {N : Nat} {b : Nat → Int32} {c o : Nat} {σ τ : mv_S} (h : cst N b σ) (f : rdF c o σ τ) : cst N b τ := ⟨h.1, (f.1 _ _ (by omega) (by omega) (by omega)).trans h.2.1, fun j hj => (f.1 _ _ (by omega) (by omega) (by omega)).trans (h.2.2 j hj)⟩
theorem P_5 {c o j : Nat} {σ : mv_S} {x : Int32} (h : j = 5 ∨ j = 6 ∨ j = 8 ∨ j = 9) : rdF c o σ (mv_pi σ 5 j x) := ⟨fun y i q1 q2 q3 => mv_rn (by omega), rfl⟩
def cR (Q : mv_Q) (c o : Nat) (σ : mv_S) : fR → Prop
  | Sum.inl (f, os) => ∀ τ, rdF c o σ τ → τ.1 5 9 = nI f → τ.1 5 6 = nI (o + os.length) → (∀ i, i < os.length → τ.1 8 (o + i) = nI (os.getD i 0)) → Q (some (.int 0)) τ
  | Sum.inr (p', a, v) => ∀ τ, rdF c o σ τ → τ.1 5 8 = nI p' → τ.1 5 5 = nI (c + a.length) → τ.1 5 6 = nI o → (∀ i, i < a.length → τ.1 7 (c + i) = nI (a.getD i 0)) → Q (some (.int 1)) τ
def spC (X : mv_X) (N : Nat) (b : Nat → Int32) (D m o : Nat) (sub : Nat → fR) : Prop := ∀ (σ : mv_S) (Q : mv_Q) (p c : Nat), cst N b σ → cPos p c o σ → c ≤ p → p ≤ N → cR Q c o σ (sub p) → mv_wp X D m [.ref 5] σ Q
theorem gd_l {u v : List Nat} {i : Nat} (h : i < u.length) : (u ++ v).getD i 0 = u.getD i 0 := by rw [List.getD_eq_getElem?_getD, List.getD_eq_getElem?_getD, List.getElem?_append_left h]
theorem gd_r {u v : List Nat} {i : Nat} (h : u.length ≤ i) : (u ++ v).getD i 0 = v.getD (i - u.length) 0 := by rw [List.getD_eq_getElem?_getD, List.getD_eq_getElem?_getD, List.getElem?_append_right h]
section READC
variable {X : mv_X} {d : Nat} {σ : mv_S} {Q : mv_Q} {N : Nat} {b : Nat → Int32}
theorem c_peek {p : Nat} (h : cst N b σ) (hp : σ.1 5 8 = nI p) (hN : p ≤ N) (hQ : Q (some (.int (pkb N b p))) σ) : mv_wp X (d + 1) 42 [.ref 5] σ Q := by
  obtain ⟨h1, h2, h3⟩ := h
  refine (w_Reader_peek _ _ _ _).mpr ⟨rfl, ?_⟩
  rw [hp, h2]
  refine ⟨fun z => absurd z (nI_pos (by omega)), fun _ => ⟨rfl, rfl, ?_⟩⟩
  unfold pkb at hQ
  by_cases e : p < N
  · rw [if_pos e] at hQ
    refine ⟨fun z => absurd z (nI_ge e (by omega)), fun _ => ⟨rfl, fun z => absurd z (nI_ge (b := 60) (by omega) (by omega)), fun _ => ⟨rfl, rfl, ⟨rfl, vp_in_nI (N := 60) (by omega) (by omega)⟩, ?_⟩⟩⟩
    rw [nI_clamp (by omega), h3 p e]
    exact hQ
  · rw [if_neg e] at hQ
    exact ⟨fun _ => hQ, fun z => absurd (nI_le (by omega) (by omega)) z⟩
theorem c_emit {c : Nat} {x : Int32} (hc : σ.1 5 5 = nI c) (h60 : c < 60) (hQ : Q none (mv_pi (mv_pi σ 7 c x) 5 5 (nI (c + 1)))) : mv_wp X (d + 1) 43 [.ref 5, .int x] σ Q := by
  refine (w_Reader_emit _ _ _ _ _).mpr ⟨rfl, ?_⟩
  rw [hc]
  refine ⟨fun z => absurd z (nI_pos (by omega)), fun _ => ⟨rfl, rfl, by decide, fun z => absurd z (nI_ge (b := 60) (by omega) (by omega)), fun _ => ⟨rfl, rfl, ⟨rfl, vp_in_nI (N := 60) (by omega) (by omega)⟩, rfl, rfl, ?_⟩⟩⟩
  rw [nI_clamp (by omega), mv_rn (by omega), hc, nI_1]
  exact hQ
theorem c_refuse (hQ : Q (some (.int 0)) (mv_pi σ 5 9 (σ.1 5 8))) : mv_wp X (d + 1) 44 [.ref 5] σ Q := (w_Reader_refuse _ _ _ _).mpr ⟨rfl, rfl, Or.inl rfl, hQ⟩
theorem c_lpboth {sub : Nat → fR} {D dd H o c : Nat} (hok : ∀ p, p ≤ N → okR N dd H p (sub p)) (hs : spC X N b (D + 1) 36 o sub) (hN : cst N b σ) :
    ∀ f k (τ : mv_S) p a v, k + f = 60 → k ≤ p → p ≤ N → c + a.length ≤ p → rdF c o σ τ → cPos p (c + a.length) o τ → (∀ i, i < a.length → τ.1 7 (c + i) = nI (a.getD i 0)) → cR Q c o σ (lpP sub 38 0 and (pkb N b) f p a v) → mv_wf X (mv_wp X (D + 1)) m_Reader_readBoth Q 11 [.ref 5, .int (nI k)] [] τ := by
  intro f
  induction f with
  | zero =>
    intro k τ p a v hk kp pN ca fr ps ha hr
    exact h_Reader_readBoth_11 ⟨fun _ => ⟨Or.inr rfl, hr τ fr ps.1 ps.2.1 ps.2.2 ha⟩, fun z => absurd (nI_le (a := 60) (by omega) (by omega)) z⟩
  | succ f ih =>
    intro k τ p a v hk kp pN ca fr ps ha hr
    have h60 := hN.1
    have hT := cst_P hN fr
    refine h_Reader_readBoth_11 ⟨fun z => absurd z (nI_ge (b := 60) (by omega) (by omega)), fun _ => ⟨rfl, c_peek hT ps.1 pN ⟨_, rfl, ?_⟩⟩⟩
    unfold lpP at hr
    by_cases e : pkb N b p = 38
    case neg =>
      rw [if_neg e] at hr
      exact ⟨fun _ => ⟨Or.inr rfl, hr τ fr ps.1 ps.2.1 ps.2.2 ha⟩, fun z => absurd z e⟩
    rw [if_pos e] at hr
    have hpN : p < N := pq_in (pkb_k N b) e (by decide)
    refine ⟨fun z => absurd e z, fun _ => ⟨rfl, rfl, rfl, ?_⟩⟩
    rw [ps.1, nI_1]
    have fr1 : rdF c o σ (mv_pi τ 5 8 (nI (p + 1))) := rdF_tr fr (P_5 (by omega)) (Nat.le_refl _) (Nat.le_refl _)
    have hsub := hok (p + 1) (by omega)
    refine hs _ _ (p + 1) (c + a.length) (cst_P hN fr1) ⟨mv_rd, by rw [mv_rn (by omega)]; exact ps.2.1, by rw [mv_rn (by omega)]; exact ps.2.2⟩ (by omega) (by omega) ?_
    cases es : sub (p + 1) with
    | inl r =>
      rw [es] at hr
      obtain ⟨g, os⟩ := r
      intro τ2 f2 t1 t2 t3
      exact ⟨_, rfl, fun z => absurd rfl z, fun _ => ⟨Or.inl rfl, hr τ2 (rdF_tr fr1 f2 (by omega) (Nat.le_refl _)) t1 t2 t3⟩⟩
    | inr r =>
      rw [es] at hr hsub
      obtain ⟨p', a', v'⟩ := r
      obtain ⟨s1, s2, s3, s4, s5⟩ := hsub
      intro τ2 f2 t1 t2 t3 t4
      refine ⟨_, rfl, fun _ => ⟨rfl, c_emit (c := c + a.length + a'.length) t2 (by omega) ⟨rfl, ?_⟩⟩, fun z => absurd z (by decide)⟩
      rw [nI_1]
      have fr2 := rdF_tr fr1 f2 (show c ≤ c + a.length by omega) (Nat.le_refl _)
      have fr3 : rdF c o σ (mv_pi (mv_pi τ2 7 (c + a.length + a'.length) 0) 5 5 (nI (c + a.length + a'.length + 1))) := ⟨fun x j q1 q2 q3 => by rw [mv_rn (by omega), mv_rn (by omega)]; exact fr2.1 x j q1 q2 q3, fr2.2⟩
      have l1 : ([0] : List Nat).length = 1 := rfl
      have l3 : (a ++ a' ++ [0]).length = a.length + a'.length + 1 := by rw [List.length_append, List.length_append, l1]
      refine ih (k + 1) _ p' _ _ (by omega) (by omega) s2 (by rw [l3]; omega) fr3 ⟨?_, ?_, ?_⟩ (fun i hi => ?_) hr
      · rw [mv_rn (by omega), mv_rn (by omega)]; exact t1
      · rw [mv_rd, l3]; congr 1; omega
      · rw [mv_rn (by omega), mv_rn (by omega)]; exact t3
      · rw [l3] at hi
        rw [mv_rn (by omega)]
        by_cases i1 : i < a.length + a'.length
        · rw [mv_rn (by omega), gd_l (by rw [List.length_append]; exact i1)]
          by_cases i2 : i < a.length
          · rw [gd_l i2, f2.1 7 (c + i) (by omega) (by omega) (by omega), mv_rn (by omega)]; exact ha i i2
          · rw [gd_r (by omega)]
            have := t4 (i - a.length) (by omega)
            rw [show c + a.length + (i - a.length) = c + i by omega] at this
            exact this
        · rw [show c + i = c + a.length + a'.length by omega, mv_rd, gd_r (by rw [List.length_append]; omega), List.length_append, show i - (a.length + a'.length) = 0 by omega]
          rfl
theorem c_both {sub : Nat → fR} {D dd H o : Nat} (hok : ∀ p, p ≤ N → okR N dd H p (sub p)) (hs : spC X N b (D + 1) 36 o sub) : spC X N b (D + 2) 35 o (bothP (pkb N b) sub) := by
  intro σ Q p c hN ps cp pN hr
  have hsub := hok p pN
  refine w_Reader_readBoth ⟨rfl, hs σ _ p c hN ps cp pN ?_⟩
  unfold bothP sqP at hr
  cases es : sub p with
  | inl r =>
    rw [es] at hr
    obtain ⟨g, os⟩ := r
    intro τ2 f2 t1 t2 t3
    exact ⟨_, rfl, fun z => absurd rfl z, fun _ => ⟨Or.inl rfl, hr τ2 f2 t1 t2 t3⟩⟩
  | inr r =>
    rw [es] at hr
    rw [es] at hsub
    obtain ⟨p', a', v'⟩ := r
    obtain ⟨s1, s2, s3, s4, s5⟩ := hsub
    intro τ2 f2 t1 t2 t3 t4
    refine ⟨_, rfl, fun _ => ?_, fun z => absurd z (by decide)⟩
    exact c_lpboth (c := c) hok hs hN 60 0 τ2 p' a' v' (by omega) (by omega) s2 (by omega) f2 ⟨t1, t2, t3⟩ t4 hr
theorem c_lpeith {sub : Nat → fR} {D dd H o c : Nat} (hok : ∀ p, p ≤ N → okR N dd H p (sub p)) (hs : spC X N b (D + 1) 35 o sub) (hN : cst N b σ) :
    ∀ f k (τ : mv_S) p a v, k + f = 60 → k ≤ p → p ≤ N → c + a.length ≤ p → rdF c o σ τ → cPos p (c + a.length) o τ → (∀ i, i < a.length → τ.1 7 (c + i) = nI (a.getD i 0)) → cR Q c o σ (lpP sub 124 1 or (pkb N b) f p a v) → mv_wf X (mv_wp X (D + 1)) m_Reader_readEither Q 11 [.ref 5, .int (nI k)] [] τ := by
  intro f
  induction f with
  | zero =>
    intro k τ p a v hk kp pN ca fr ps ha hr
    exact h_Reader_readEither_11 ⟨fun _ => ⟨Or.inr rfl, hr τ fr ps.1 ps.2.1 ps.2.2 ha⟩, fun z => absurd (nI_le (a := 60) (by omega) (by omega)) z⟩
  | succ f ih =>
    intro k τ p a v hk kp pN ca fr ps ha hr
    have h60 := hN.1
    have hT := cst_P hN fr
    refine h_Reader_readEither_11 ⟨fun z => absurd z (nI_ge (b := 60) (by omega) (by omega)), fun _ => ⟨rfl, c_peek hT ps.1 pN ⟨_, rfl, ?_⟩⟩⟩
    unfold lpP at hr
    by_cases e : pkb N b p = 124
    case neg =>
      rw [if_neg e] at hr
      exact ⟨fun _ => ⟨Or.inr rfl, hr τ fr ps.1 ps.2.1 ps.2.2 ha⟩, fun z => absurd z e⟩
    rw [if_pos e] at hr
    have hpN : p < N := pq_in (pkb_k N b) e (by decide)
    refine ⟨fun z => absurd e z, fun _ => ⟨rfl, rfl, rfl, ?_⟩⟩
    rw [ps.1, nI_1]
    have fr1 : rdF c o σ (mv_pi τ 5 8 (nI (p + 1))) := rdF_tr fr (P_5 (by omega)) (Nat.le_refl _) (Nat.le_refl _)
    have hsub := hok (p + 1) (by omega)
    refine hs _ _ (p + 1) (c + a.length) (cst_P hN fr1) ⟨mv_rd, by rw [mv_rn (by omega)]; exact ps.2.1, by rw [mv_rn (by omega)]; exact ps.2.2⟩ (by omega) (by omega) ?_
    cases es : sub (p + 1) with
    | inl r =>
      rw [es] at hr
      obtain ⟨g, os⟩ := r
      intro τ2 f2 t1 t2 t3
      exact ⟨_, rfl, fun z => absurd rfl z, fun _ => ⟨Or.inl rfl, hr τ2 (rdF_tr fr1 f2 (by omega) (Nat.le_refl _)) t1 t2 t3⟩⟩
    | inr r =>
      rw [es] at hr hsub
      obtain ⟨p', a', v'⟩ := r
      obtain ⟨s1, s2, s3, s4, s5⟩ := hsub
      intro τ2 f2 t1 t2 t3 t4
      refine ⟨_, rfl, fun _ => ⟨rfl, c_emit (c := c + a.length + a'.length) t2 (by omega) ⟨rfl, ?_⟩⟩, fun z => absurd z (by decide)⟩
      rw [nI_1]
      have fr2 := rdF_tr fr1 f2 (show c ≤ c + a.length by omega) (Nat.le_refl _)
      have fr3 : rdF c o σ (mv_pi (mv_pi τ2 7 (c + a.length + a'.length) 1) 5 5 (nI (c + a.length + a'.length + 1))) := ⟨fun x j q1 q2 q3 => by rw [mv_rn (by omega), mv_rn (by omega)]; exact fr2.1 x j q1 q2 q3, fr2.2⟩
      have l1 : ([1] : List Nat).length = 1 := rfl
      have l3 : (a ++ a' ++ [1]).length = a.length + a'.length + 1 := by rw [List.length_append, List.length_append, l1]
      refine ih (k + 1) _ p' _ _ (by omega) (by omega) s2 (by rw [l3]; omega) fr3 ⟨?_, ?_, ?_⟩ (fun i hi => ?_) hr
      · rw [mv_rn (by omega), mv_rn (by omega)]; exact t1
      · rw [mv_rd, l3]; congr 1; omega
      · rw [mv_rn (by omega), mv_rn (by omega)]; exact t3
      · rw [l3] at hi
        rw [mv_rn (by omega)]
        by_cases i1 : i < a.length + a'.length
        · rw [mv_rn (by omega), gd_l (by rw [List.length_append]; exact i1)]
          by_cases i2 : i < a.length
          · rw [gd_l i2, f2.1 7 (c + i) (by omega) (by omega) (by omega), mv_rn (by omega)]; exact ha i i2
          · rw [gd_r (by omega)]
            have := t4 (i - a.length) (by omega)
            rw [show c + a.length + (i - a.length) = c + i by omega] at this
            exact this
        · rw [show c + i = c + a.length + a'.length by omega, mv_rd, gd_r (by rw [List.length_append]; omega), List.length_append, show i - (a.length + a'.length) = 0 by omega]
          rfl
theorem c_eith {sub : Nat → fR} {D dd H o : Nat} (hok : ∀ p, p ≤ N → okR N dd H p (sub p)) (hs : spC X N b (D + 1) 35 o sub) : spC X N b (D + 2) 34 o (sqP sub 124 1 or (pkb N b)) := by
  intro σ Q p c hN ps cp pN hr
  have hsub := hok p pN
  refine w_Reader_readEither ⟨rfl, hs σ _ p c hN ps cp pN ?_⟩
  unfold sqP at hr
  cases es : sub p with
  | inl r =>
    rw [es] at hr
    obtain ⟨g, os⟩ := r
    intro τ2 f2 t1 t2 t3
    exact ⟨_, rfl, fun z => absurd rfl z, fun _ => ⟨Or.inl rfl, hr τ2 f2 t1 t2 t3⟩⟩
  | inr r =>
    rw [es] at hr
    rw [es] at hsub
    obtain ⟨p', a', v'⟩ := r
    obtain ⟨s1, s2, s3, s4, s5⟩ := hsub
    intro τ2 f2 t1 t2 t3 t4
    refine ⟨_, rfl, fun _ => ?_, fun z => absurd z (by decide)⟩
    exact c_lpeith (c := c) hok hs hN 60 0 τ2 p' a' v' (by omega) (by omega) s2 (by omega) f2 ⟨t1, t2, t3⟩ t4 hr
end READC
