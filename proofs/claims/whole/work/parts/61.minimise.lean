/-! ===== the class finds THE LEAST ===== -/
theorem tb_1 {a k : Nat} (ha : a < 2 ^ 31) (hk : k < 32) : (nI a >>> (nI k &&& (31 : Int32))) &&& (1 : Int32) = 1 ↔ a.testBit k = true := by
  rw [q_shr ha hk, q_and1, Nat.testBit_eq_decide_div_mod_eq, show (1 : Int32) = nI 1 from rfl, nI_eq (by omega) (by omega), decide_eq_true_eq]
/-- pairs that are marked -/
def ldF (M : md_T) (a p q : Nat) : Nat → Nat → Bool
  | 0, _ => false
  | r + 1, l => a.testBit (4 * M.2.2.2 (3 * p + l) + M.2.2.2 (3 * q + l)) || ldF M a p q r (l + 1)
def stc (M : md_T) (a p q : Nat) : Bool := (M.2.2.1.testBit p != M.2.2.1.testBit q) || ldF M a p q 3 0
def stp (M : md_T) (a p q : Nat) : Nat := if stc M a p q = true then a ||| 2 ^ (4 * p + q) else a
def fq (M : md_T) (p : Nat) : Nat → Nat → Nat → Nat
  | 0, _, a => a
  | r + 1, q, a => fq M p r (q + 1) (stp M a p q)
def fp (M : md_T) : Nat → Nat → Nat → Nat
  | 0, _, a => a
  | r + 1, p, a => fp M r (p + 1) (fq M p M.1 0 a)
def frr (M : md_T) : Nat → Nat → Nat
  | 0, a => a
  | r + 1, a => frr M r (fp M M.1 0 a)
section APARTP
variable {M : md_T}
theorem ldF_iff (a p q : Nat) : ldF M a p q 3 0 = true ↔ ∃ l, l < 3 ∧ a.testBit (4 * M.2.2.2 (3 * p + l) + M.2.2.2 (3 * q + l)) = true := by
  show (_ || (_ || (_ || false))) = true ↔ _
  rw [Bool.or_eq_true, Bool.or_eq_true, Bool.or_false]
  constructor
  · rintro (h | h | h)
    · exact ⟨0, by decide, h⟩
    · exact ⟨1, by decide, h⟩
    · exact ⟨2, by decide, h⟩
  · rintro ⟨l, hl, h⟩
    rcases l3_cs hl with rfl | rfl | rfl
    · exact Or.inl h
    · exact Or.inr (Or.inl h)
    · exact Or.inr (Or.inr h)
theorem stc_iff (a p q : Nat) : stc M a p q = true ↔ dA M 0 p q = true ∨ ∃ l, l < 3 ∧ a.testBit (4 * M.2.2.2 (3 * p + l) + M.2.2.2 (3 * q + l)) = true := by
  unfold stc
  rw [Bool.or_eq_true, ldF_iff]
  exact Iff.rfl
def sub_b (a b : Nat) : Prop := ∀ i, a.testBit i = true → b.testBit i = true
theorem stp_up (a p q : Nat) : sub_b a (stp M a p q) := by
  intro i h
  unfold stp
  split
  · exact tb_or.mpr (Or.inl h)
  · exact h
theorem stc_up {a b p q : Nat} (h : sub_b a b) (g : stc M a p q = true) : stc M b p q = true := by
  rw [stc_iff] at g ⊢
  rcases g with g | ⟨l, hl, g⟩
  · exact Or.inl g
  · exact Or.inr ⟨l, hl, h _ g⟩
theorem fq_up (p : Nat) : ∀ r q a, sub_b a (fq M p r q a)
  | 0, _, _ => fun _ h => h
  | r + 1, q, a => fun i h => fq_up p r (q + 1) _ i (stp_up a p q i h)
theorem fp_up : ∀ r p a, sub_b a (fp M r p a)
  | 0, _, _ => fun _ h => h
  | r + 1, p, a => fun i h => fp_up r (p + 1) _ i (fq_up p _ 0 a i h)
theorem fq_hit (p : Nat) : ∀ r q a q', q ≤ q' → q' < q + r → stc M a p q' = true → (fq M p r q a).testBit (4 * p + q') = true
  | 0, q, a, q', h1, h2, _ => by omega
  | r + 1, q, a, q', h1, h2, h => by
    show (fq M p r (q + 1) (stp M a p q)).testBit _ = true
    by_cases e : q' = q
    · subst e
      apply fq_up
      unfold stp
      rw [if_pos h]
      exact tb_or.mpr (Or.inr rfl)
    · exact fq_hit p r (q + 1) _ q' (by omega) (by omega) (stc_up (stp_up a p q) h)
theorem fp_hit : ∀ r p a p' q', p ≤ p' → p' < p + r → q' < M.1 → stc M a p' q' = true → (fp M r p a).testBit (4 * p' + q') = true
  | 0, p, a, p', q', h1, h2, _, _ => by omega
  | r + 1, p, a, p', q', h1, h2, h3, h => by
    show (fp M r (p + 1) (fq M p M.1 0 a)).testBit _ = true
    by_cases e : p' = p
    · subst e
      exact fp_up r (p' + 1) _ _ (fq_hit p' M.1 0 a q' (Nat.zero_le _) (by omega) h)
    · exact fp_hit r (p + 1) _ p' q' (by omega) (by omega) h3 (stc_up (fq_up p _ 0 a) h)
/-- what is marked is told apart -/
def Snd (M : md_T) (a : Nat) : Prop := a < 2 ^ 16 ∧ ∀ p q, p < 4 → q < 4 → a.testBit (4 * p + q) = true → p < M.1 ∧ q < M.1 ∧ dA M M.1 p q = true
theorem stp_snd (hM : md_ok M) {a p q : Nat} (h : Snd M a) (hp : p < M.1) (hq : q < M.1) : Snd M (stp M a p q) := by
  have h4 := md_4 hM
  unfold stp
  by_cases e : stc M a p q = true
  · rw [if_pos e]
    refine ⟨Nat.or_lt_two_pow h.1 (Nat.pow_lt_pow_right (by decide) (by omega)), fun p' q' hp' hq' g => ?_⟩
    rcases tb_or.mp g with g | g
    · exact h.2 p' q' hp' hq' g
    · obtain rfl : p' = p := by omega
      obtain rfl : q' = q := by omega
      refine ⟨hp, hq, ?_⟩
      refine dA_all hM.1 (md_mv hM) hp hq (j := M.1 + 1) ?_
      rw [dA_s]
      rcases (stc_iff a p' q').mp e with g | ⟨l, hl, g⟩
      · exact Or.inl g
      · refine Or.inr ⟨l, hl, (h.2 _ _ ?_ ?_ g).2.2⟩
        · exact hM.2.2.2.2.1 _ (by omega)
        · exact hM.2.2.2.2.1 _ (by omega)
  · rw [if_neg e]; exact h
theorem fq_snd (hM : md_ok M) {p : Nat} (hp : p < M.1) : ∀ r q a, q + r ≤ M.1 → Snd M a → Snd M (fq M p r q a)
  | 0, _, _, _, h => h
  | r + 1, q, a, hq, h => fq_snd hM hp r (q + 1) _ (by omega) (stp_snd hM h hp (by omega))
theorem fp_snd (hM : md_ok M) : ∀ r p a, p + r ≤ M.1 → Snd M a → Snd M (fp M r p a)
  | 0, _, _, _, h => h
  | r + 1, p, a, hp, h => fp_snd hM r (p + 1) _ (by omega) (fq_snd hM (by omega) M.1 0 a (by omega) h)
theorem frr_snd (hM : md_ok M) : ∀ r a, Snd M a → Snd M (frr M r a)
  | 0, _, h => h
  | r + 1, a, h => frr_snd hM r _ (fp_snd hM M.1 0 a (by omega) h)
def Cpl (M : md_T) (k a : Nat) : Prop := ∀ p q, p < M.1 → q < M.1 → dA M k p q = true → a.testBit (4 * p + q) = true
theorem fp_cpl (hM : md_ok M) {k a : Nat} (h : Cpl M k a) : Cpl M (k + 1) (fp M M.1 0 a) := by
  intro p q hp hq g
  refine fp_hit M.1 0 a p q (Nat.zero_le _) (by omega) hq ?_
  rw [stc_iff]
  rcases (dA_s k p q).mp g with g | ⟨l, hl, g⟩
  · exact Or.inl g
  · exact Or.inr ⟨l, hl, h _ _ (md_mv hM p l hp hl) (md_mv hM q l hq hl) g⟩
theorem fp_cpl0 (a : Nat) : Cpl M 0 (fp M M.1 0 a) := by
  intro p q hp hq g
  exact fp_hit M.1 0 a p q (Nat.zero_le _) (by omega) hq ((stc_iff a p q).mpr (Or.inl g))
theorem frr_cpl (hM : md_ok M) : ∀ r k a, Cpl M k a → Cpl M (k + r) (frr M r a)
  | 0, _, _, h => h
  | r + 1, k, a, h => by
    have := frr_cpl hM r (k + 1) _ (fp_cpl hM h)
    rw [show k + (r + 1) = k + 1 + r by omega]
    exact this
def apF (M : md_T) : Nat := frr M (M.1 + 1) 0
theorem apF_ok (hM : md_ok M) : apF M < 2 ^ 16 ∧ ∀ p q, p < M.1 → q < M.1 → ((apF M).testBit (4 * p + q) = true ↔ dA M M.1 p q = true) := by
  have s0 : Snd M 0 := ⟨by decide, fun p q _ _ g => absurd g (by rw [Nat.zero_testBit]; decide)⟩
  have h1 := frr_snd hM (M.1 + 1) 0 s0
  have h4 := md_4 hM
  refine ⟨h1.1, fun p q hp hq => ⟨fun g => (h1.2 p q (by omega) (by omega) g).2.2, fun g => ?_⟩⟩
  have := frr_cpl hM M.1 0 (fp M M.1 0 0) (fp_cpl0 0)
  rw [Nat.zero_add] at this
  exact this p q hp hq g
end APARTP
section APARTC
variable {X : mv_X} {d : Nat} {σ : mv_S} {Q : mv_Q} {M : md_T} {t : Nat}
theorem s_areApart {a p q : Nat} (ha : σ.1 13 5 = nI a) (ha2 : a < 2 ^ 16) (hp : p < 4) (hq : q < 4) (hQ : Q (some (.int (if a.testBit (4 * p + q) = true then 1 else 0))) σ) : mv_wp X (d + 1) 50 [.ref 13, .int (nI p), .int (nI q)] σ Q := by
  refine (w_Least_areApart _ _ _ _ _ _).mpr ⟨rfl, ?_⟩
  rw [ha, show (4 : Int32) = nI 4 from rfl, pk_mul, nI_add]
  have e := tb_1 (a := a) (k := 4 * p + q) (by omega) (by omega)
  by_cases h : a.testBit (4 * p + q) = true
  · rw [if_pos h] at hQ
    exact ⟨fun z => absurd (e.mpr h) z, fun _ => ⟨Or.inr rfl, hQ⟩⟩
  · rw [if_neg h] at hQ
    exact ⟨fun _ => ⟨Or.inl rfl, hQ⟩, fun z => absurd (e.mp z) h⟩
theorem s_leadApart {a p q : Nat} (ht : mc_at t) (hM : md_ok M) (hc : cl_M σ t M) (ha : σ.1 13 5 = nI a) (ha2 : a < 2 ^ 16) (hp : p < 4) (hq : q < 4) (hQ : Q (some (.int (if ldF M a p q 3 0 = true then 1 else 0))) σ) : mv_wp X (d + 2) 52 [.ref 13, .ref t, .int (nI p), .int (nI q)] σ Q := by
  have loop : ∀ r l, l + r = 3 → ldF M a p q 3 0 = ldF M a p q r l → mv_wf X (mv_wp X (d + 1)) m_Least_leadApart Q 3 [.ref 13, .ref t, .int (nI p), .int (nI q), .int (nI l)] [] σ := by
    intro r
    induction r with
    | zero =>
      intro l hl he
      obtain rfl : l = 3 := by omega
      rw [he] at hQ
      exact h_Least_leadApart_3 ⟨fun _ => ⟨Or.inl rfl, hQ⟩, fun z => absurd (show (3 : Int32) ≤ nI 3 by decide) z⟩
    | succ r ih =>
      intro l hl he
      refine h_Least_leadApart_3 ⟨fun z => absurd z (nI_ge (b := 3) (by omega) (by omega)), fun _ => ⟨ht.1, ?_⟩⟩
      refine s_nextM ht hc hp (by omega) ⟨_, rfl, ht.1, ?_⟩
      refine s_nextM ht hc hq (by omega) ⟨_, rfl, rfl, ?_⟩
      refine s_areApart ha ha2 (hM.2.2.2.2.1 _ (by omega)) (hM.2.2.2.2.1 _ (by omega)) ⟨_, rfl, ?_⟩
      have e : ldF M a p q (r + 1) l = (a.testBit (4 * M.2.2.2 (3 * p + l) + M.2.2.2 (3 * q + l)) || ldF M a p q r (l + 1)) := rfl
      by_cases h : a.testBit (4 * M.2.2.2 (3 * p + l) + M.2.2.2 (3 * q + l)) = true
      · rw [if_pos h]
        rw [h, Bool.true_or] at e
        rw [he, e] at hQ
        exact ⟨fun z => absurd z (by decide), fun _ => ⟨Or.inr rfl, hQ⟩⟩
      · rw [if_neg h]
        rw [Bool.eq_false_iff.mpr h, Bool.false_or] at e
        refine ⟨fun _ => ?_, fun z => absurd rfl z⟩
        rw [nI_1]
        exact ih (l + 1) (by omega) (he.trans e)
  exact w_Least_leadApart (loop 3 0 rfl rfl)
def frA (σ τ : mv_S) : Prop := (∀ c j, ¬ (c = 13 ∧ j = 5) → τ.1 c j = σ.1 c j) ∧ τ.2 = σ.2
theorem frA_cl {τ : mv_S} (h : frA σ τ) (ht : 33 ≤ t) (hc : cl_M σ t M) : cl_M τ t M := ⟨(h.1 _ _ (by omega)).trans hc.1, (h.1 _ _ (by omega)).trans hc.2.1, (h.1 _ _ (by omega)).trans hc.2.2.1, fun j hj => (h.1 _ _ (by omega)).trans (hc.2.2.2 j hj)⟩
theorem s_fq {p i : Nat} (ht : mc_at t) (ht3 : 33 ≤ t) (hM : md_ok M) (hc : cl_M σ t M) (hp : p < M.1) {E : Nat}
    (hK : ∀ τ, Snd M E → τ.1 13 5 = nI E → frA σ τ → mv_wf X (mv_wp X (d + 2)) m_Least_findApart Q 17 [.ref 13, .ref t, .int (nI i), .int (nI (p + 1)), .retAddr 0] [] τ) :
    ∀ r q a (τ : mv_S), q + r = M.1 → E = fq M p r q a → Snd M a → τ.1 13 5 = nI a → frA σ τ → mv_wf X (mv_wp X (d + 2)) m_Least_findApart Q 28 [.ref 13, .ref t, .int (nI i), .int (nI p), .int (nI q)] [] τ := by
  intro r
  have h4 := md_4 hM
  induction r with
  | zero =>
    intro q a τ hq he hs ha hf
    have he : E = a := he
    subst he
    have cM := frA_cl hf ht3 hc
    refine h_Least_findApart_28 ⟨ht.1, ?_⟩
    rw [cM.1]
    refine ⟨fun _ => ?_, fun z => absurd (nI_le (by omega) (by omega)) z⟩
    rw [nI_1]
    exact hK τ hs ha hf
  | succ r ih =>
    intro q a τ hq he hs ha hf
    have cM := frA_cl hf ht3 hc
    have he : E = fq M p r (q + 1) (stp M a p q) := he
    have hs2 := stp_snd hM hs hp (show q < M.1 by omega)
    refine h_Least_findApart_28 ⟨ht.1, ?_⟩
    rw [cM.1]
    refine ⟨fun z => absurd z (nI_ge (by omega) (by omega)), fun _ => ⟨ht.1, ?_⟩⟩
    refine s_isEndM ht cM hM (by omega) ⟨_, rfl, ht.1, ?_⟩
    refine s_isEndM ht cM hM (by omega) ⟨_, rfl, ?_⟩
    have set : stc M a p q = true → mv_wf X (mv_wp X (d + 2)) m_Least_findApart Q 28 [.ref 13, .ref t, .int (nI i), .int (nI p), .int (nI q + 1)] [] (mv_pi τ 13 5 ((τ.1 13 5) ||| ((1 : Int32) <<< (((4 * nI p) + nI q) &&& 31)))) := by
      intro g
      rw [nI_1, ha, show (4 : Int32) = nI 4 from rfl, pk_mul, nI_add, tb_set (by omega)]
      have e : stp M a p q = a ||| 2 ^ (4 * p + q) := if_pos g
      rw [e] at he hs2
      exact ih (q + 1) _ _ (by omega) he hs2 mv_rd ⟨fun c j q1 => (mv_rn q1).trans (hf.1 c j q1), hf.2⟩
    by_cases e1 : (M.2.2.1.testBit p != M.2.2.1.testBit q) = true
    · refine ⟨fun _ => ⟨rfl, rfl, set (by unfold stc; rw [e1, Bool.true_or])⟩, fun z => absurd (bI_ne.mp z) (by rw [e1]; decide)⟩
    · refine ⟨fun z => absurd (bI_ne.mpr (Bool.eq_false_iff.mpr e1)) z, fun _ => ⟨rfl, ?_⟩⟩
      refine s_leadApart ht hM cM ha hs.1 (by omega) (by omega) ⟨_, rfl, ?_⟩
      by_cases e2 : ldF M a p q 3 0 = true
      · rw [if_pos e2]
        exact ⟨fun z => absurd z (by decide), fun _ => ⟨rfl, rfl, set (by unfold stc; rw [e2, Bool.or_true])⟩⟩
      · rw [if_neg e2]
        refine ⟨fun _ => ?_, fun z => absurd rfl z⟩
        rw [nI_1]
        have e : stp M a p q = a := if_neg (by unfold stc; rw [Bool.eq_false_iff.mpr e1, Bool.eq_false_iff.mpr e2]; decide)
        rw [e] at he
        exact ih (q + 1) a τ (by omega) he hs ha hf
theorem s_fp {i : Nat} (ht : mc_at t) (ht3 : 33 ≤ t) (hM : md_ok M) (hc : cl_M σ t M) {E : Nat}
    (hK : ∀ τ, Snd M E → τ.1 13 5 = nI E → frA σ τ → mv_wf X (mv_wp X (d + 2)) m_Least_findApart Q 7 [.ref 13, .ref t, .int (nI (i + 1)), .retAddr 0, .retAddr 0] [] τ) :
    ∀ r p a (τ : mv_S), p + r = M.1 → E = fp M r p a → Snd M a → τ.1 13 5 = nI a → frA σ τ → mv_wf X (mv_wp X (d + 2)) m_Least_findApart Q 17 [.ref 13, .ref t, .int (nI i), .int (nI p), .retAddr 0] [] τ := by
  intro r
  have h4 := md_4 hM
  induction r with
  | zero =>
    intro p a τ hp he hs ha hf
    have he : E = a := he
    subst he
    refine h_Least_findApart_17 ⟨ht.1, ?_⟩
    rw [(frA_cl hf ht3 hc).1]
    refine ⟨fun _ => ?_, fun z => absurd (nI_le (by omega) (by omega)) z⟩
    rw [nI_1]
    exact hK τ hs ha hf
  | succ r ih =>
    intro p a τ hp he hs ha hf
    refine h_Least_findApart_17 ⟨ht.1, ?_⟩
    rw [(frA_cl hf ht3 hc).1]
    refine ⟨fun z => absurd z (nI_ge (by omega) (by omega)), fun _ => ?_⟩
    exact s_fq (σ := σ) (E := fq M p M.1 0 a) ht ht3 hM hc (by omega) (fun τ2 q1 q2 q3 => ih (p + 1) _ τ2 (by omega) he q1 q2 q3) M.1 0 a τ (by omega) rfl hs ha hf
theorem s_findApart (ht : mc_at t) (ht3 : 33 ≤ t) (hM : md_ok M) (hc : cl_M σ t M) (hQ : ∀ τ, τ.1 13 5 = nI (apF M) → frA σ τ → Q none τ) : mv_wp X (d + 3) 51 [.ref 13, .ref t] σ Q := by
  have h4 := md_4 hM
  have loop : ∀ r i a (τ : mv_S), i + r = M.1 + 1 → apF M = frr M r a → Snd M a → τ.1 13 5 = nI a → frA σ τ → mv_wf X (mv_wp X (d + 2)) m_Least_findApart Q 7 [.ref 13, .ref t, .int (nI i), .retAddr 0, .retAddr 0] [] τ := by
    intro r
    induction r with
    | zero =>
      intro i a τ hi he hs ha hf
      refine h_Least_findApart_7 ⟨ht.1, ?_⟩
      rw [(frA_cl hf ht3 hc).1]
      exact ⟨fun _ => hQ τ (by rw [he]; exact ha) hf, fun z => absurd (nI_lt (by omega) (by omega)) z⟩
    | succ r ih =>
      intro i a τ hi he hs ha hf
      refine h_Least_findApart_7 ⟨ht.1, ?_⟩
      rw [(frA_cl hf ht3 hc).1]
      refine ⟨fun z => absurd z (nI_nlt (by omega) (by omega)), fun _ => ?_⟩
      exact s_fp (σ := σ) (E := fp M M.1 0 a) ht ht3 hM hc (fun τ2 q1 q2 q3 => ih (i + 1) _ τ2 (by omega) he q1 q2 q3) M.1 0 a τ (by omega) rfl hs ha hf
  refine w_Least_findApart ⟨rfl, ?_⟩
  exact loop (M.1 + 1) 0 0 _ (by omega) rfl ⟨by decide, fun p q _ _ g => absurd g (by rw [Nat.zero_testBit]; decide)⟩ mv_rd ⟨fun c j q1 => mv_rn q1, rfl⟩
theorem s_firstAlike {p : Nat} (hM : md_ok M) (ha : σ.1 13 5 = nI (apF M)) (hp : p < M.1) (hQ : Q (some (.int (nI (tw M M.1 p)))) σ) : mv_wp X (d + 2) 49 [.ref 13, .int (nI p)] σ Q := by
  have h4 := md_4 hM
  have ok := apF_ok hM
  have loop : ∀ r k, k + r = p → (∀ j, j < k → dA M M.1 j p = true) → mv_wf X (mv_wp X (d + 1)) m_Least_firstAlike Q 2 [.ref 13, .int (nI p), .int (nI k)] [] σ := by
    intro r
    induction r with
    | zero =>
      intro k hk hd
      obtain rfl : k = p := by omega
      have e : tw M M.1 k = k := by
        have h1 := tw_le (M := M) M.1 k
        rcases Nat.lt_or_ge (tw M M.1 k) k with z | z
        · exact absurd (hd _ z) (tw_al _ _)
        · omega
      rw [e] at hQ
      exact h_Least_firstAlike_2 ⟨fun _ => ⟨fun z => absurd z (nI_pos (by omega)), fun _ => ⟨fun z => absurd z (nI_ge (b := 4) (by omega) (by omega)), fun _ => hQ⟩⟩, fun z => absurd (nI_le (Nat.le_refl _) (by omega)) z⟩
    | succ r ih =>
      intro k hk hd
      refine h_Least_firstAlike_2 ⟨fun z => absurd z (nI_ge (by omega) (by omega)), fun _ => ⟨fun z => absurd z (nI_ge (b := 4) (by omega) (by omega)), fun _ => ⟨rfl, ?_⟩⟩⟩
      refine s_areApart ha ok.1 (by omega) (by omega) ⟨_, rfl, ?_⟩
      by_cases e : (apF M).testBit (4 * k + p) = true
      · rw [if_pos e]
        refine ⟨fun _ => ?_, fun z => absurd z (by decide)⟩
        rw [nI_1]
        refine ih (k + 1) (by omega) (fun j hj => ?_)
        by_cases ej : j = k
        · subst ej; exact (ok.2 j p (by omega) hp).mp e
        · exact hd j (by omega)
      · rw [if_neg e]
        refine ⟨fun z => absurd rfl z, fun _ => ?_⟩
        have e2 : tw M M.1 p = k := by
          refine ff_eq (fun j hj => ?_) (by omega) ?_
          · show (!dA M M.1 j p) = false
            rw [hd j hj]; rfl
          · show (!dA M M.1 k p) = true
            rw [Bool.eq_false_iff.mpr (fun z => e ((ok.2 k p (by omega) hp).mpr z))]; rfl
        rw [e2] at hQ
        exact hQ
  exact w_Least_firstAlike (loop p 0 (by omega) (fun j hj => absurd hj (Nat.not_lt_zero _)))
end APARTC
