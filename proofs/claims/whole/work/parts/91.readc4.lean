/-! ===== reading the tape, the class ===== -/
def topP (N : Nat) (pk : Nat → Int32) : fR := match eithP pk (oneP pk 6) 0 with
  | Sum.inl e => Sum.inl e
  | Sum.inr (p', a, v) => if p' < N then Sum.inl (p', []) else Sum.inr (p', a, v)
theorem top_ok {N : Nat} {pk : Nat → Int32} (h : pkk N pk) : (∀ f os, topP N pk = Sum.inl (f, os) → f ≤ N ∧ os.length ≤ 6 ∧ ∀ x, x ∈ os → x ≤ N) ∧ ∀ p a v, topP N pk = Sum.inr (p, a, v) → a.length ≤ N ∧ (∀ x, x ∈ a → opk x) ∧ good 15 a v := by
  have ok := eith_ok h (by omega) (one_ok h 6) 0 (Nat.zero_le _)
  unfold topP
  cases es : eithP pk (oneP pk 6) 0 with
  | inl r =>
    obtain ⟨f0, os0⟩ := r
    rw [es] at ok
    obtain ⟨s1, s2, s3, s4⟩ := ok
    refine ⟨fun f os e => ?_, fun p a v e => ?_⟩
    · injection e with e
      injection e with e1 e2
      subst e1 e2
      exact ⟨s2, s3, s4⟩
    · cases e
  | inr r =>
    obtain ⟨p0, a0, v0⟩ := r
    rw [es] at ok
    obtain ⟨s1, s2, s3, s4, s5⟩ := ok
    dsimp only
    by_cases e : p0 < N
    · rw [if_pos e]
      refine ⟨fun f os e => ?_, fun p a v e => ?_⟩
      · injection e with e
        injection e with e1 e2
        subst e1 e2
        exact ⟨s2, Nat.zero_le _, fun x hx => absurd hx (List.not_mem_nil)⟩
      · cases e
    · rw [if_neg e]
      refine ⟨fun f os e => ?_, fun p a v e => ?_⟩
      · cases e
      · injection e with e
        injection e with e1 e2
        injection e2 with e2 e3
        subst e1 e2 e3
        exact ⟨by omega, s4, s5⟩
def frT (σ τ : mv_S) : Prop := (∀ x j, ¬ x = 5 → ¬ x = 7 → ¬ x = 8 → ¬ x = 9 → τ.1 x j = σ.1 x j) ∧ τ.2 = σ.2
theorem T_P {c o : Nat} {σ τ : mv_S} (h : rdF c o σ τ) : frT σ τ := ⟨fun x j q1 q2 q3 q4 => h.1 x j (by omega) (by omega) (by omega), h.2⟩
theorem frT_tr {a b c : mv_S} (h : frT a b) (g : frT b c) : frT a c := ⟨fun x j q1 q2 q3 q4 => (g.1 x j q1 q2 q3 q4).trans (h.1 x j q1 q2 q3 q4), g.2.trans h.2⟩
theorem T_5 {σ : mv_S} {j : Nat} {x : Int32} : frT σ (mv_pi σ 5 j x) := ⟨fun y i q1 q2 q3 q4 => mv_rn (by omega), rfl⟩
section READC4
variable {X : mv_X} {d : Nat} {σ : mv_S} {Q : mv_Q} {N : Nat} {b : Nat → Int32}
theorem c_keepC {f : Nat} {os : List Nat} (h6 : os.length ≤ 6) (ho : σ.1 5 6 = nI os.length) (h8 : ∀ i, i < os.length → σ.1 8 i = nI (os.getD i 0)) (h9 : σ.1 5 9 = nI f) (hQ : ∀ τ, (∀ x j, ¬ (x = 5 ∧ j = 7) → ¬ x = 9 → τ.1 x j = σ.1 x j) → τ.2 = σ.2 → τ.1 5 7 = nI (os.length + 2) → (∀ i, i < os.length + 2 → τ.1 9 i = nI ((0 :: os ++ [f]).getD i 0)) → Q none τ) : mv_wp X (d + 1) 45 [.ref 5] σ Q := by
  have loop : ∀ r k (τ : mv_S), k + r = os.length → (∀ x j, ¬ x = 9 → τ.1 x j = σ.1 x j) → τ.2 = σ.2 → (∀ i, i < k + 1 → τ.1 9 i = nI ((0 :: os).getD i 0)) → mv_wf X (mv_wp X d) m_Reader_keepCauses Q 9 [.ref 5, .int (nI k)] [] τ := by
    intro r
    induction r with
    | zero =>
      intro k τ hk t1 t2 t3
      refine h_Reader_keepCauses_9 ⟨rfl, ?_⟩
      rw [t1 5 6 (by omega), ho]
      refine ⟨fun _ => ⟨rfl, rfl, rfl, rfl, rfl, ?_⟩, fun z => absurd (nI_le (by omega) (by omega)) z⟩
      have e1 : (if (6 : Int32) < nI os.length then 6 else nI os.length) + 2 = nI (os.length + 2) := by
        rw [if_neg (show ¬ (6 : Int32) < nI os.length from nI_nlt (a := 6) (by omega) (by omega)), show (2 : Int32) = nI 2 from rfl, nI_add]
      rw [e1, mv_rd, mv_rn (by omega), t1 5 9 (by omega), h9, show nI (os.length + 2) - 1 = nI (os.length + 1) from pk_sub (b := 1) (by omega), nI_clamp (by omega)]
      refine ⟨⟨rfl, vp_in_nI (N := 8) (by omega) (by omega)⟩, hQ _ (fun x j q1 q2 => by rw [mv_rn (by omega), mv_rn (by omega)]; exact t1 x j q2) t2 ?_ (fun i hi => ?_)⟩
      · rw [mv_rn (by omega), mv_rd]
      · have l1 : (0 :: os).length = os.length + 1 := rfl
        by_cases e : i < os.length + 1
        · rw [mv_rn (by omega), mv_rn (by omega), gd_l (by rw [l1]; exact e)]; exact t3 i (by omega)
        · rw [show i = os.length + 1 by omega, mv_rd, gd_r (by rw [l1]; omega), l1, Nat.sub_self]; rfl
    | succ r ih =>
      intro k τ hk t1 t2 t3
      refine h_Reader_keepCauses_9 ⟨rfl, ?_⟩
      rw [t1 5 6 (by omega), ho]
      refine ⟨fun z => absurd z (nI_ge (by omega) (by omega)), fun _ => ⟨fun z => absurd z (nI_ge (b := 6) (by omega) (by omega)), fun _ => ⟨rfl, rfl, ⟨rfl, vp_in_nI (N := 6) (by omega) (by omega)⟩, ?_⟩⟩⟩
      rw [nI_1, nI_clamp (by omega), nI_clamp (by omega), t1 8 k (by omega), h8 k (by omega)]
      refine ⟨⟨rfl, vp_in_nI (N := 8) (by omega) (by omega)⟩, ih (k + 1) _ (by omega) (fun x j q => by rw [mv_rn (by omega)]; exact t1 x j q) t2 (fun i hi => ?_)⟩
      by_cases e : i = k + 1
      · rw [e, mv_rd]; rfl
      · rw [mv_rn (by omega)]; exact t3 i (by omega)
  refine w_Reader_keepCauses ⟨rfl, ⟨rfl, vp_in_nI (N := 8) (n := 0) (by omega) (by omega)⟩, ?_⟩
  rw [show (0 : Int32).toNatClampNeg = 0 from rfl]
  refine loop os.length 0 _ (by omega) (fun x j q => mv_rn (by omega)) rfl (fun i hi => ?_)
  obtain rfl : i = 0 := by omega
  rw [mv_rd]; rfl
theorem c_readTape (hN : cst N b σ)
    (hy : ∀ p a v, topP N (pkb N b) = Sum.inr (p, a, v) → ∀ τ, frT σ τ → τ.1 5 4 = 0 → τ.1 5 7 = 0 → τ.1 5 5 = nI a.length → (∀ i, i < a.length → τ.1 7 i = nI (a.getD i 0)) → Q (some (.int 1)) τ)
    (hn : ∀ f os, topP N (pkb N b) = Sum.inl (f, os) → ∀ τ, frT σ τ → τ.1 5 4 = 0 → τ.1 5 9 = nI f → τ.1 5 7 = nI (os.length + 2) → (∀ i, i < os.length + 2 → τ.1 9 i = nI ((0 :: os ++ [f]).getD i 0)) → Q (some (.int 0)) τ) : mv_wp X (d + 40) 33 [.ref 5] σ Q := by
  have tok := top_ok (pkb_k N b)
  have h60 := hN.1
  refine (w_Reader_readTape _ _ _ _).mpr ⟨rfl, rfl, rfl, rfl, rfl, rfl, ?_⟩
  have f0 : frT σ (mv_pi (mv_pi (mv_pi (mv_pi (mv_pi σ 5 8 0) 5 5 0) 5 6 0) 5 7 0) 5 9 (-1)) := frT_tr T_5 (frT_tr T_5 (frT_tr T_5 (frT_tr T_5 T_5)))
  have g8 : (mv_pi (mv_pi (mv_pi (mv_pi (mv_pi σ 5 8 0) 5 5 0) 5 6 0) 5 7 0) 5 9 (-1)).1 5 8 = nI 0 := by rw [mv_rn (by omega), mv_rn (by omega), mv_rn (by omega), mv_rn (by omega), mv_rd]; rfl
  have g5 : (mv_pi (mv_pi (mv_pi (mv_pi (mv_pi σ 5 8 0) 5 5 0) 5 6 0) 5 7 0) 5 9 (-1)).1 5 5 = nI 0 := by rw [mv_rn (by omega), mv_rn (by omega), mv_rn (by omega), mv_rd]; rfl
  have g6 : (mv_pi (mv_pi (mv_pi (mv_pi (mv_pi σ 5 8 0) 5 5 0) 5 6 0) 5 7 0) 5 9 (-1)).1 5 6 = nI 0 := by rw [mv_rn (by omega), mv_rn (by omega), mv_rd]; rfl
  have g7 : (mv_pi (mv_pi (mv_pi (mv_pi (mv_pi σ 5 8 0) 5 5 0) 5 6 0) 5 7 0) 5 9 (-1)).1 5 7 = 0 := by rw [mv_rn (by omega), mv_rd]
  have g4 : cst N b (mv_pi (mv_pi (mv_pi (mv_pi (mv_pi σ 5 8 0) 5 5 0) 5 6 0) 5 7 0) 5 9 (-1)) := ⟨hN.1, by rw [mv_rn (by omega), mv_rn (by omega), mv_rn (by omega), mv_rn (by omega), mv_rn (by omega)]; exact hN.2.1, fun j hj => by rw [mv_rn (by omega), mv_rn (by omega), mv_rn (by omega), mv_rn (by omega), mv_rn (by omega)]; exact hN.2.2 j hj⟩
  generalize mv_pi (mv_pi (mv_pi (mv_pi (mv_pi σ 5 8 0) 5 5 0) 5 6 0) 5 7 0) 5 9 (-1) = σ0 at *
  have h1 : spC X N b (d + 36 + 1) 36 0 (oneP (pkb N b) 6) := c_one 6 0 (d + 37) (by omega) (by omega)
  have o1 := one_ok (pkb_k N b) 6
  have h2 : spC X N b (d + 37 + 1) 35 0 (bothP (pkb N b) (oneP (pkb N b) 6)) := c_both o1 h1
  have h3 : spC X N b (d + 37 + 2) 34 0 (eithP (pkb N b) (oneP (pkb N b) 6)) := c_eith (both_ok (pkb_k N b) (by omega) o1) h2
  have eok := eith_ok (pkb_k N b) (by omega) o1 0 (Nat.zero_le _)
  have fail : ∀ f os (τ : mv_S), topP N (pkb N b) = Sum.inl (f, os) → frT σ τ → τ.1 5 9 = nI f → τ.1 5 6 = nI os.length → (∀ i, i < os.length → τ.1 8 i = nI (os.getD i 0)) → mv_wp X (d + 39) 45 [.ref 5] τ (fun r2 σ2 => r2 = none ∧ (mv_sh 5 = 7 ∧ (((0 : Int32) = (0 : Int32) ∨ (0 : Int32) = (1 : Int32)) ∧ Q (some (.int 0)) (mv_pi σ2 5 4 0)))) := by
    intro f os τ e fr t1 t2 t3
    refine c_keepC ((tok.1 f os e).2.1) t2 t3 t1 (fun τ2 k1 k2 k3 k4 => ⟨rfl, rfl, Or.inl rfl, hn f os e _ ?_ mv_rd ?_ ?_ (fun i hi => ?_)⟩)
    · exact ⟨fun x j q1 q2 q3 q4 => by rw [mv_rn (by omega), k1 x j (by omega) q4]; exact fr.1 x j q1 q2 q3 q4, k2.trans fr.2⟩
    · rw [mv_rn (by omega), k1 5 9 (by omega) (by omega)]; exact t1
    · rw [mv_rn (by omega)]; exact k3
    · rw [mv_rn (by omega)]; exact k4 i hi
  refine h3 σ0 _ 0 0 g4 ⟨g8, g5, g6⟩ (Nat.le_refl _) (Nat.zero_le _) ?_
  unfold topP at hy fail
  cases es : eithP (pkb N b) (oneP (pkb N b) 6) 0 with
  | inl r =>
    obtain ⟨f, os⟩ := r
    rw [es] at fail
    intro τ t1 t2 t3 t4
    rw [Nat.zero_add] at t3
    refine ⟨_, rfl, fun _ => ⟨fun z => absurd rfl z, fun _ => ⟨rfl, fail f os τ rfl (frT_tr f0 (T_P t1)) t2 t3 (fun i hi => by have := t4 i hi; rw [Nat.zero_add] at this; exact this)⟩⟩, fun z => absurd rfl z⟩
  | inr r =>
    obtain ⟨p, a, v⟩ := r
    rw [es] at fail hy eok
    dsimp only at fail hy
    obtain ⟨s1, s2, s3, s4, s5⟩ := eok
    intro τ t1 t2 t3 t4 t5
    rw [Nat.zero_add] at t3
    refine ⟨_, rfl, fun z => absurd z (by decide), fun _ => ⟨rfl, rfl, ?_⟩⟩
    rw [(cst_P g4 t1).2.1, t2]
    by_cases e : p < N
    · rw [if_pos e] at fail
      refine ⟨fun z => absurd z (nI_ge e (by omega)), fun _ => ⟨rfl, c_refuse ⟨_, rfl, fun z => absurd rfl z, fun _ => ⟨rfl, ?_⟩⟩⟩⟩
      refine fail p [] _ rfl (frT_tr f0 (frT_tr (T_P t1) T_5)) ?_ ?_ (fun i hi => absurd hi (Nat.not_lt_zero _))
      · rw [mv_rd]; exact t2
      · rw [mv_rn (by omega)]; exact t4
    · rw [if_neg e] at hy
      refine ⟨fun _ => ⟨fun _ => ⟨rfl, Or.inr rfl, ?_⟩, fun z => absurd z (by decide)⟩, fun z => absurd (nI_le (by omega) (by omega)) z⟩
      refine hy p a v rfl _ (frT_tr f0 (frT_tr (T_P t1) T_5)) mv_rd ?_ ?_ (fun i hi => ?_)
      · rw [mv_rn (by omega), t1.1 5 7 (by omega) (by omega) (by omega)]; exact g7
      · rw [mv_rn (by omega)]; exact t3
      · rw [mv_rn (by omega)]
        have := t5 i hi
        rw [Nat.zero_add] at this
        exact this
end READC4
