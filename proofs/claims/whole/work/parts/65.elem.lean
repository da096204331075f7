/-! ===== elements: what both find ===== -/
def cg4 (f : Nat → Nat) : Nat → Nat
  | 0 => 0
  | p + 1 => cg4 f p + f p * 4 ^ p
theorem cg4_lt {f : Nat → Nat} (h : ∀ p, f p < 4) : ∀ n, cg4 f n < 4 ^ n
  | 0 => by show 0 < 1; decide
  | n + 1 => by
    have := cg4_lt h n
    have h2 : f n * 4 ^ n ≤ 3 * 4 ^ n := Nat.mul_le_mul_right _ (by have := h n; omega)
    show cg4 f n + f n * 4 ^ n < 4 ^ (n + 1)
    rw [Nat.pow_succ]
    omega
theorem cg4_at {f : Nat → Nat} (h : ∀ p, f p < 4) {p : Nat} (hp : p < 4) : at4 (cg4 f 4) p = f p := by
  have h0 := h 0
  have h1 := h 1
  have h2 := h 2
  have h3 := h 3
  have e : cg4 f 4 = f 0 + 4 * f 1 + 16 * f 2 + 64 * f 3 := by
    show 0 + f 0 * 4 ^ 0 + f 1 * 4 ^ 1 + f 2 * 4 ^ 2 + f 3 * 4 ^ 3 = _
    omega
  rw [e, at4_sum _ _ _ _ _ h0 h1 h2 h3 hp]
  rcases p4_cs hp with rfl | rfl | rfl | rfl <;> rfl
theorem cg4_mod {f : Nat → Nat} (h : ∀ p, f p < 4) {n : Nat} (hn : n ≤ 4) : cg4 f 4 % 4 ^ n = cg4 f n := by
  have h0 := h 0
  have h1 := h 1
  have h2 := h 2
  have h3 := h 3
  have e : cg4 f 4 = f 0 + 4 * f 1 + 16 * f 2 + 64 * f 3 := by
    show 0 + f 0 * 4 ^ 0 + f 1 * 4 ^ 1 + f 2 * 4 ^ 2 + f 3 * 4 ^ 3 = _
    omega
  have hn2 : n = 0 ∨ n = 1 ∨ n = 2 ∨ n = 3 ∨ n = 4 := by omega
  rcases hn2 with rfl | rfl | rfl | rfl | rfl
  · show _ % 1 = 0; omega
  · show _ % 4 = 0 + f 0 * 4 ^ 0; omega
  · show _ % 16 = 0 + f 0 * 4 ^ 0 + f 1 * 4 ^ 1; omega
  · show _ % 64 = 0 + f 0 * 4 ^ 0 + f 1 * 4 ^ 1 + f 2 * 4 ^ 2; omega
  · show _ % 256 = 0 + f 0 * 4 ^ 0 + f 1 * 4 ^ 1 + f 2 * 4 ^ 2 + f 3 * 4 ^ 3; omega
/-- where a letter leads each of four points -/
def gto (M : md_T) (l p : Nat) : Nat := if p < (lF M).1 then lT M p l else p % 4
def gL (M : md_T) (l : Nat) : Nat := cg4 (gto M l) 4
theorem gto_lt {M : md_T} (h : md_ok M) {l : Nat} (hl : l < 3) (p : Nat) : gto M l p < 4 := by
  unfold gto
  by_cases e : p < (lF M).1
  · rw [if_pos e]
    exact Nat.lt_of_lt_of_le (lT_lt h e hl) (lF_4 h)
  · rw [if_neg e]; omega
theorem gL_fx {M : md_T} (h : md_ok M) {l : Nat} (hl : l < 3) : fx (lF M).1 (gL M l) := by
  refine ⟨cg4_lt (gto_lt h hl) 4, fun p hp => ?_⟩
  unfold gL
  rw [cg4_at (gto_lt h hl) hp]
  unfold gto
  refine ⟨fun e => ?_, fun e => ?_⟩
  · rw [if_pos e]; exact lT_lt h e hl
  · rw [if_neg (by omega)]; omega
def enx (g : Nat → Nat) (c l : Nat) : Nat := th c (g l)
def eS (g : Nat → Nat) (s : Nat) : bf_T := bf (enx g) 228 3 s
def eF (g : Nat → Nat) : bf_T := eS g (3 * 256)
def lnp (src : Nat → Nat) : Nat → Nat → Nat
  | 0, _ => 0
  | f + 1, k => if k = 0 then 0 else lnp src f (src k / 3) + 1
def tf (g : Nat → Nat) : Nat → Bool
  | 0 => false
  | s + 1 => tf g s || (decide (s / 3 < (eS g s).1) && decide (enx g ((eS g s).2.1 (s / 3)) (s % 3) = 228))
section ELEMP
variable {g : Nat → Nat}
theorem eS_eq (s : Nat) : eS g s = bf (enx g) 228 3 s := by unfold eS; rfl
theorem eF_eq : eF g = bf (enx g) 228 3 (3 * 256) := by unfold eF eS; rfl
theorem enx_lt (x j : Nat) (_ : x < 256) (_ : j < 3) : enx g x j < 256 := th_lt _ _
theorem eS_le (s : Nat) : (eS g s).1 ≤ 256 := by rw [eS_eq]; exact bf_le (by decide) (by decide) enx_lt s
theorem eS_q {s k : Nat} (hk : k < (eS g s).1) : (eS g s).2.1 k < 256 := by
  rw [eS_eq] at hk ⊢
  exact bf_all (P := fun x => x < 256) (by decide) (by decide) enx_lt s k hk
theorem eF_le : (eF g).1 ≤ 256 := by rw [eF_eq]; exact bf_le (by decide) (by decide) enx_lt _
theorem eF_q {k : Nat} (hk : k < (eF g).1) : (eF g).2.1 k < 256 := by
  rw [eF_eq] at hk ⊢
  exact bf_all (P := fun x => x < 256) (by decide) (by decide) enx_lt _ k hk
theorem eS_fx {n : Nat} (hg : ∀ l, l < 3 → fx n (g l)) {s k : Nat} (hk : k < (eS g s).1) : fx n ((eS g s).2.1 k) := by
  rw [eS_eq] at hk ⊢
  exact bf_all (P := fun x => fx n x) (by decide) (fx_id n) (fun x j hx hj => fx_th hx (hg j hj)) s k hk
theorem eS_pre {s k : Nat} (hs : s ≤ 768) (hk : k < (eS g s).1) : k < (eF g).1 ∧ (eF g).2.1 k = (eS g s).2.1 k ∧ (eF g).2.2 k = (eS g s).2.2 k := by
  have m := bf_mono (nx := enx g) (q0 := 228) (J := 3) s (768 - s)
  rw [show s + (768 - s) = 3 * 256 by omega, ← eF_eq, ← eS_eq] at m
  exact ⟨Nat.lt_of_lt_of_le hk m.1, m.2 k hk⟩
theorem eS_end {k : Nat} (e : (eS g (3 * k)).1 = k) : eS g (3 * k) = eF g := by
  have h4 := eS_le (g := g) (3 * k)
  rw [eF_eq, eS_eq]
  rw [eS_eq] at e h4
  exact bf_last (N := 256) (by decide) (by decide) enx_lt (Nat.le_of_eq (by rw [e])) (by omega)
theorem eS_up {s : Nat} (h : s / 3 < (eS g s).1) : eS g (s + 1) = bf_up (eS g s) (enx g ((eS g s).2.1 (s / 3)) (s % 3)) s := by
  rw [eS_eq, bf_s]
  unfold bf_st bf_up
  rw [← eS_eq, if_pos h]
theorem eS_ix {s c : Nat} (hs : s ≤ 768) (hc : bf_ix (eS g s) c < (eS g s).1) : bf_ix (eF g) c = bf_ix (eS g s) c := by
  have p := eS_pre hs hc
  rw [eF_eq] at p ⊢
  exact bf_ix_eq (bf_inj _) p.1 (p.2.1.trans (bf_ix_at hc))
theorem eF_inj : bf_In (eF g) := by rw [eF_eq]; exact bf_inj _
theorem eS_inj (s : Nat) : bf_In (eS g s) := by rw [eS_eq]; exact bf_inj _
theorem eF_src {k : Nat} (h0 : 0 < k) (hk : k < (eF g).1) : (eF g).2.2 k / 3 < k ∧ (eF g).2.1 k = enx g ((eF g).2.1 ((eF g).2.2 k / 3)) ((eF g).2.2 k % 3) := by
  rw [eF_eq] at hk ⊢
  have := bf_src (nx := enx g) (q0 := 228) (J := 3) (3 * 256) k h0 hk
  exact this.2
theorem eF_0 : (eF g).2.1 0 = 228 ∧ (eF g).2.2 0 = 0 := by rw [eF_eq]; exact bf_q0 _
theorem eF_pos : 1 ≤ (eF g).1 := by rw [eF_eq]; exact bf_pos _
theorem eF_closed {i j : Nat} (hi : i < (eF g).1) (hj : j < 3) : ∃ k, k < (eF g).1 ∧ (eF g).2.1 k = enx g ((eF g).2.1 i) j := by
  rw [eF_eq] at hi ⊢
  exact bf_closed (N := 256) (by decide) (by decide) enx_lt hi hj
theorem lnp_0 (src : Nat → Nat) (f : Nat) : lnp src f 0 = 0 := by cases f <;> rfl
theorem lnp_s (src : Nat → Nat) (f k : Nat) (h : ¬ k = 0) : lnp src (f + 1) k = lnp src f (src k / 3) + 1 := if_neg h
theorem lnp_fuel {src : Nat → Nat} : ∀ (f k c : Nat), (∀ j, 0 < j → j < c → src j / 3 < j) → k < c → k ≤ f → lnp src f k = lnp src k k
  | 0, k, c, _, _, h => by rw [show k = 0 by omega]
  | f + 1, k, c, hs, hc, h => by
    by_cases e : k = 0
    · subst e; rw [lnp_0, lnp_0]
    · obtain ⟨j, rfl⟩ : ∃ j, k = j + 1 := ⟨k - 1, by omega⟩
      have h1 := hs (j + 1) (by omega) hc
      rw [lnp_s _ _ _ e, lnp_s _ _ _ e, lnp_fuel f (src (j + 1) / 3) c hs (by omega) (by omega), lnp_fuel j (src (j + 1) / 3) c hs (by omega) (by omega)]
theorem lnp_le (src : Nat → Nat) : ∀ f k, lnp src f k ≤ f
  | 0, _ => Nat.le_refl _
  | f + 1, k => by
    by_cases e : k = 0
    · subst e; rw [lnp_0]; exact Nat.zero_le _
    · rw [lnp_s _ _ _ e]; have := lnp_le src f (src k / 3); omega
/-- how many letters the word of an element has -/
def eln (g : Nat → Nat) (k : Nat) : Nat := lnp (eF g).2.2 k k
theorem eln_s {k : Nat} (h0 : 0 < k) (hk : k < (eF g).1) : eln g k = eln g ((eF g).2.2 k / 3) + 1 := by
  unfold eln
  have hs : ∀ j, 0 < j → j < (eF g).1 → (eF g).2.2 j / 3 < j := fun j h1 h2 => (eF_src h1 h2).1
  obtain ⟨j, rfl⟩ : ∃ j, k = j + 1 := ⟨k - 1, by omega⟩
  have h1 := hs (j + 1) (by omega) hk
  rw [lnp_s _ _ _ (by omega), lnp_fuel j _ (eF g).1 hs (by omega) (by omega)]
theorem eln_le (k : Nat) : eln g k ≤ k := lnp_le _ _ _
theorem eln_new {s : Nat} (hs : s < 768) (h : s / 3 < (eS g s).1) (hn : eS g (s + 1) = bf_add (eS g s) (enx g ((eS g s).2.1 (s / 3)) (s % 3)) s) : eln g (eS g s).1 = eln g (s / 3) + 1 ∧ (eF g).2.2 (eS g s).1 = s := by
  have p1 : (eS g s).1 < (eS g (s + 1)).1 := by rw [hn, add_1]; omega
  obtain ⟨p2, _, p3⟩ := eS_pre (g := g) (s := s + 1) (k := (eS g s).1) (by omega) p1
  rw [hn, (add_n _ _ _).2] at p3
  refine ⟨?_, p3⟩
  rw [eln_s (by omega) p2, p3]
end ELEMP
/-! powers -/
def omf (c : Nat) : Nat → Nat → Nat
  | 0, x => x
  | f + 1, x => if th x x = x then x else omf c f (th x c)
def om (c : Nat) : Nat := omf c 12 c
theorem om_idem : ∀ c, c < 256 → th (om c) (om c) = om c ∧ om c < 256 := by decide +kernel
theorem omf_more (c : Nat) : ∀ f x k, th (omf c f x) (omf c f x) = omf c f x → omf c (f + k) x = omf c f x
  | 0, x, k, h => by
    have h : th x x = x := h
    cases k with
    | zero => rfl
    | succ k => rw [Nat.zero_add]; exact if_pos h
  | f + 1, x, k, h => by
    rw [show f + 1 + k = (f + k) + 1 by omega]
    by_cases e : th x x = x
    · show (if th x x = x then x else omf c (f + k) (th x c)) = (if th x x = x then x else omf c f (th x c))
      rw [if_pos e, if_pos e]
    · show (if th x x = x then x else omf c (f + k) (th x c)) = (if th x x = x then x else omf c f (th x c))
      have h : th (if th x x = x then x else omf c f (th x c)) (if th x x = x then x else omf c f (th x c)) = (if th x x = x then x else omf c f (th x c)) := h
      rw [if_neg e] at h
      rw [if_neg e, if_neg e]
      exact omf_more c f (th x c) k h
theorem om_255 {c : Nat} (hc : c < 256) : omf c 255 c = om c := omf_more c 12 c 243 (om_idem c hc).1
section ELEMC
variable {X : mv_X} {d : Nat} {σ : mv_S} {Q : mv_Q} {M : md_T}
theorem s_findOmega {c : Nat} (hc : c < 256) (hQ : Q (some (.int (nI (om c)))) σ) : mv_wp X (d + 3) 82 [.ref 12, .int (nI c)] σ Q := by
  have loop : ∀ f n x, n + f = 256 → x < 256 → om c = omf c f x → mv_wf X (mv_wp X (d + 2)) m_Monoid_findOmega Q 4 [.retAddr 0, .int (nI c), .int (nI x), .int (nI n)] [] σ := by
    intro f
    induction f with
    | zero =>
      intro n x hn hx he
      have he : om c = x := he
      rw [he] at hQ
      exact h_Monoid_findOmega_4 ⟨fun _ => hQ, fun z => absurd (nI_le (a := 256) (by omega) (by omega)) z⟩
    | succ f ih =>
      intro n x hn hx he
      refine h_Monoid_findOmega_4 ⟨fun z => absurd z (nI_ge (b := 256) (by omega) (by omega)), fun _ => ?_⟩
      refine s_isIdem hx ⟨_, rfl, ?_⟩
      by_cases e : th x x = x
      · have he : om c = x := he.trans (if_pos e)
        rw [he] at hQ
        rw [if_pos e]
        exact ⟨fun _ => hQ, fun z => absurd z (by decide)⟩
      · rw [if_neg e]
        refine ⟨fun z => absurd rfl z, fun _ => ?_⟩
        refine (s_then hx hc).mpr ⟨_, rfl, ?_⟩
        rw [nI_1]
        exact ih (n + 1) (th x c) (by omega) (th_lt _ _) (he.trans (if_neg e))
  exact w_Monoid_findOmega (loop 255 1 c rfl hc (om_255 hc).symm)
theorem s_leastNext {p l : Nat} (hp : p < 4) (hl : l < 3) (hQ : Q (some (.int (σ.1 14 (3 * p + l)))) σ) : mv_wp X (d + 1) 47 [.ref 13, .int (nI p), .int (nI l)] σ Q := by
  refine (w_Least_next _ _ _ _ _ _).mpr ?_
  rw [show (3 : Int32) = nI 3 from rfl, pk_mul, nI_add, nI_clamp (by omega)]
  repeat (first
      | (refine And.intro (show mv_sh _ = _ from rfl) ?_)
      | (refine And.intro (show mv_sh _ = _ by assumption) ?_)
      | (refine And.intro (show _ ≤ mv_sh _ from Nat.le_of_ble_eq_true rfl) ?_)
      | (refine And.intro (show _ ≤ mv_sh _ ∧ vp_in _ _ from ⟨Nat.le_of_ble_eq_true rfl, by (first | (simp (disch := omega) only [ln_14, ln_17, ln_18, ln_19, ln_20, ln_21, ln_22, ln_23, not_true_eq_false, not_false_eq_true, Classical.not_not, ofn, b_z, b_nz, b_z', b_nz', mv_rd, mv_rn, mv_ld, mv_ln_, lit, nI_add, pk_mul, nI_clamp, ln_14]; exact vp_in_nI (by omega) (by omega)) | (exact vp_in_nI (by omega) (by omega)))⟩) ?_)
      | (refine And.intro (show (_ : Int32) = 0 ∨ (_ : Int32) = 1 from by first | exact Or.inl rfl | exact Or.inr rfl | exact bI_01 _) ?_)
      | (refine And.intro (show mv_sh _ = _ ∧ vp_in _ _ from ⟨rfl, by (first | (simp (disch := omega) only [ln_14, ln_17, ln_18, ln_19, ln_20, ln_21, ln_22, ln_23, not_true_eq_false, not_false_eq_true, Classical.not_not, ofn, b_z, b_nz, b_z', b_nz', mv_rd, mv_rn, mv_ld, mv_ln_, lit, nI_add, pk_mul, nI_clamp, ln_14]; exact vp_in_nI (by omega) (by omega)) | (exact vp_in_nI (by omega) (by omega)))⟩) ?_)
      | (refine And.intro (show mv_sh _ = _ ∧ vp_in _ _ from ⟨by assumption, by (first | (simp (disch := omega) only [ln_14, ln_17, ln_18, ln_19, ln_20, ln_21, ln_22, ln_23, not_true_eq_false, not_false_eq_true, Classical.not_not, ofn, b_z, b_nz, b_z', b_nz', mv_rd, mv_rn, mv_ld, mv_ln_, lit, nI_add, pk_mul, nI_clamp, ln_14]; exact vp_in_nI (by omega) (by omega)) | (exact vp_in_nI (by omega) (by omega)))⟩) ?_)
      | (refine And.intro (show ¬ (_ : Int32) = 0 by decide) ?_)
      | (refine ⟨_, rfl, ?_⟩)
      | (refine And.intro (show (none : Option Value) = none from rfl) ?_)
      | (refine Or.inl ⟨rfl, ?_⟩)
      | (refine Or.inr ⟨_, rfl, ?_⟩)
      | (refine dt (by (first | assumption | omega | ((try simp (disch := omega) only [not_true_eq_false, not_false_eq_true, Classical.not_not, ofn, b_z, b_nz, b_z', b_nz', mv_rd, mv_rn, mv_ld, mv_ln_, lit, nI_add, pk_mul, nI_clamp, ln_14]); (try simp (disch := omega) only [fa_lt, fa_le, fa_eq, nI_toInt, pk_sub_toInt, nI_m1, nI_m1', not_false_eq_true, true_and, and_true, ln_14]); first | done | omega))) ?_)
      | (refine df (by (first | assumption | omega | ((try simp (disch := omega) only [not_true_eq_false, not_false_eq_true, Classical.not_not, ofn, b_z, b_nz, b_z', b_nz', mv_rd, mv_rn, mv_ld, mv_ln_, lit, nI_add, pk_mul, nI_clamp, ln_14]); (try simp (disch := omega) only [fa_lt, fa_le, fa_eq, nI_toInt, pk_sub_toInt, nI_m1, nI_m1', not_false_eq_true, true_and, and_true, ln_14]); first | done | omega))) ?_)
      | (refine dt' (by (first | assumption | omega | ((try simp (disch := omega) only [not_true_eq_false, not_false_eq_true, Classical.not_not, ofn, b_z, b_nz, b_z', b_nz', mv_rd, mv_rn, mv_ld, mv_ln_, lit, nI_add, pk_mul, nI_clamp, ln_14]); (try simp (disch := omega) only [fa_lt, fa_le, fa_eq, nI_toInt, pk_sub_toInt, nI_m1, nI_m1', not_false_eq_true, true_and, and_true, ln_14]); first | done | omega))) ?_)
      | (refine df' (by (first | assumption | omega | ((try simp (disch := omega) only [not_true_eq_false, not_false_eq_true, Classical.not_not, ofn, b_z, b_nz, b_z', b_nz', mv_rd, mv_rn, mv_ld, mv_ln_, lit, nI_add, pk_mul, nI_clamp, ln_14]); (try simp (disch := omega) only [fa_lt, fa_le, fa_eq, nI_toInt, pk_sub_toInt, nI_m1, nI_m1', not_false_eq_true, true_and, and_true, ln_14]); first | done | omega))) ?_)
      )
  exact hQ
theorem s_codeOfLetter {l : Nat} (hM : md_ok M) (h : lpC M σ) (hl : l < 3) (hQ : Q (some (.int (nI (gL M l)))) σ) : mv_wp X (d + 2) 79 [.ref 12, .int (nI l)] σ Q := by
  have h4 := lF_4 hM
  have loop : ∀ r p, p + r = 4 → mv_wf X (mv_wp X (d + 1)) m_Monoid_codeOfLetter Q 4 [.ref 12, .int (nI l), .int (nI (cg4 (gto M l) p)), .int (nI p), .retAddr 0] [] σ := by
    intro r
    induction r with
    | zero =>
      intro p hp
      obtain rfl : p = 4 := by omega
      exact h_Monoid_codeOfLetter_4 ⟨fun _ => hQ, fun z => absurd (show (4 : Int32) ≤ nI 4 by decide) z⟩
    | succ r ih =>
      intro p hp
      have hlt := cg4_lt (gto_lt hM hl) p
      have hg := gto_lt hM hl p
      have e : cg4 (gto M l) (p + 1) = cg4 (gto M l) p + gto M l p * 4 ^ p := rfl
      refine h_Monoid_codeOfLetter_4 ⟨fun z => absurd z (nI_ge (b := 4) (by omega) (by omega)), fun _ => ⟨rfl, rfl, ?_⟩⟩
      rw [h.1, show (2 : Int32) = nI 2 from rfl, pk_mul]
      have nx := ih (p + 1) (by omega)
      rw [e] at nx
      by_cases ep : p < (lF M).1
      · have ev : gto M l p = lT M p l := if_pos ep
        refine ⟨fun z => absurd z (nI_ge ep (by omega)), fun _ => ⟨rfl, rfl, ?_⟩⟩
        refine s_leastNext (by omega) hl ⟨_, rfl, ?_⟩
        rw [h.2.2 p l ep hl, q_and3, Nat.mod_eq_of_lt (by omega), or_up hlt (by omega) (by omega), nI_1, ← ev]
        exact nx
      · have ev : gto M l p = p := by unfold gto; rw [if_neg ep]; omega
        refine ⟨fun _ => ?_, fun z => absurd (nI_le (by omega) (by omega)) z⟩
        rw [q_and3, Nat.mod_eq_of_lt (by omega), or_up hlt (by omega) (by omega), nI_1]
        rw [ev] at nx
        exact nx
  exact w_Monoid_codeOfLetter (loop 4 0 rfl)
theorem s_addElement {c i l N P : Nat} (h11 : σ.1 12 11 = nI N) (hN : N < 256) (hc : c < 256) (hi : i < 256) (hP : ¬ N = 0 → σ.1 22 i = nI P)
    (hQ : ∀ τ : mv_S, τ.1 12 11 = nI (N + 1) → τ.1 18 N = nI c → τ.1 19 c = nI N → τ.1 20 N = nI i → τ.1 21 N = nI l → τ.1 22 N = nI (if N = 0 then 0 else P + 1) → (∀ c' j, ¬ (c' = 12 ∧ j = 11) → ¬ (c' = 18 ∧ j = N) → ¬ (c' = 19 ∧ j = c) → ¬ (c' = 20 ∧ j = N) → ¬ (c' = 21 ∧ j = N) → ¬ (c' = 22 ∧ j = N) → τ.1 c' j = σ.1 c' j) → τ.2 = σ.2 → Q none τ) : mv_wp X (d + 1) 81 [.ref 12, .int (nI c), .int (nI i), .int (nI l)] σ Q := by
  have c255 : nI c &&& 255 = nI c := by rw [q_and255, Nat.mod_eq_of_lt hc]
  have i255 : nI i &&& 255 = nI i := by rw [q_and255, Nat.mod_eq_of_lt hi]
  refine (w_Monoid_addElement _ _ _ _ _ _ _).mpr ?_
  simp (disch := omega) only [c255, i255, h11, mv_rn, nI_clamp]
  by_cases e : N = 0
  · subst e
    repeat (first
        | (refine And.intro (show mv_sh _ = _ from rfl) ?_)
        | (refine And.intro (show mv_sh _ = _ by assumption) ?_)
        | (refine And.intro (show _ ≤ mv_sh _ from Nat.le_of_ble_eq_true rfl) ?_)
        | (refine And.intro (show _ ≤ mv_sh _ ∧ vp_in _ _ from ⟨Nat.le_of_ble_eq_true rfl, by (first | (simp (disch := omega) only [ln_14, ln_17, ln_18, ln_19, ln_20, ln_21, ln_22, ln_23, not_true_eq_false, not_false_eq_true, Classical.not_not, ofn, b_z, b_nz, b_z', b_nz', mv_rd, mv_rn, mv_ld, mv_ln_, lit, nI_add, pk_mul, nI_clamp]; exact vp_in_nI (by omega) (by omega)) | (exact vp_in_nI (by omega) (by omega)))⟩) ?_)
        | (refine And.intro (show (_ : Int32) = 0 ∨ (_ : Int32) = 1 from by first | exact Or.inl rfl | exact Or.inr rfl | exact bI_01 _) ?_)
        | (refine And.intro (show mv_sh _ = _ ∧ vp_in _ _ from ⟨rfl, by (first | (simp (disch := omega) only [ln_14, ln_17, ln_18, ln_19, ln_20, ln_21, ln_22, ln_23, not_true_eq_false, not_false_eq_true, Classical.not_not, ofn, b_z, b_nz, b_z', b_nz', mv_rd, mv_rn, mv_ld, mv_ln_, lit, nI_add, pk_mul, nI_clamp]; exact vp_in_nI (by omega) (by omega)) | (exact vp_in_nI (by omega) (by omega)))⟩) ?_)
        | (refine And.intro (show mv_sh _ = _ ∧ vp_in _ _ from ⟨by assumption, by (first | (simp (disch := omega) only [ln_14, ln_17, ln_18, ln_19, ln_20, ln_21, ln_22, ln_23, not_true_eq_false, not_false_eq_true, Classical.not_not, ofn, b_z, b_nz, b_z', b_nz', mv_rd, mv_rn, mv_ld, mv_ln_, lit, nI_add, pk_mul, nI_clamp]; exact vp_in_nI (by omega) (by omega)) | (exact vp_in_nI (by omega) (by omega)))⟩) ?_)
        | (refine And.intro (show ¬ (_ : Int32) = 0 by decide) ?_)
        | (refine ⟨_, rfl, ?_⟩)
        | (refine And.intro (show (none : Option Value) = none from rfl) ?_)
        | (refine Or.inl ⟨rfl, ?_⟩)
        | (refine Or.inr ⟨_, rfl, ?_⟩)
        | (refine dt (by (first | assumption | omega | ((try simp (disch := omega) only [not_true_eq_false, not_false_eq_true, Classical.not_not, ofn, b_z, b_nz, b_z', b_nz', mv_rd, mv_rn, mv_ld, mv_ln_, lit, nI_add, pk_mul, nI_clamp]); (try simp (disch := omega) only [fa_lt, fa_le, fa_eq, nI_toInt, pk_sub_toInt, nI_m1, nI_m1', not_false_eq_true, true_and, and_true]); first | done | omega))) ?_)
        | (refine df (by (first | assumption | omega | ((try simp (disch := omega) only [not_true_eq_false, not_false_eq_true, Classical.not_not, ofn, b_z, b_nz, b_z', b_nz', mv_rd, mv_rn, mv_ld, mv_ln_, lit, nI_add, pk_mul, nI_clamp]); (try simp (disch := omega) only [fa_lt, fa_le, fa_eq, nI_toInt, pk_sub_toInt, nI_m1, nI_m1', not_false_eq_true, true_and, and_true]); first | done | omega))) ?_)
        | (refine dt' (by (first | assumption | omega | ((try simp (disch := omega) only [not_true_eq_false, not_false_eq_true, Classical.not_not, ofn, b_z, b_nz, b_z', b_nz', mv_rd, mv_rn, mv_ld, mv_ln_, lit, nI_add, pk_mul, nI_clamp]); (try simp (disch := omega) only [fa_lt, fa_le, fa_eq, nI_toInt, pk_sub_toInt, nI_m1, nI_m1', not_false_eq_true, true_and, and_true]); first | done | omega))) ?_)
        | (refine df' (by (first | assumption | omega | ((try simp (disch := omega) only [not_true_eq_false, not_false_eq_true, Classical.not_not, ofn, b_z, b_nz, b_z', b_nz', mv_rd, mv_rn, mv_ld, mv_ln_, lit, nI_add, pk_mul, nI_clamp]); (try simp (disch := omega) only [fa_lt, fa_le, fa_eq, nI_toInt, pk_sub_toInt, nI_m1, nI_m1', not_false_eq_true, true_and, and_true]); first | done | omega))) ?_)
        )
    refine hQ _ ?_ ?_ ?_ ?_ ?_ ?_ (fun c' j q1 q2 q3 q4 q5 q6 => ?_) rfl
    · rw [mv_rd, nI_1]
    · simp (disch := omega) only [mv_rn, mv_rd]
    · simp (disch := omega) only [mv_rn, mv_rd]
    · simp (disch := omega) only [mv_rn, mv_rd]
    · simp (disch := omega) only [mv_rn, mv_rd]
    · simp (disch := omega) only [mv_rn, mv_rd]; rfl
    · simp (disch := omega) only [mv_rn]
  · have hP := hP e
    repeat (first
        | (refine And.intro (show mv_sh _ = _ from rfl) ?_)
        | (refine And.intro (show mv_sh _ = _ by assumption) ?_)
        | (refine And.intro (show _ ≤ mv_sh _ from Nat.le_of_ble_eq_true rfl) ?_)
        | (refine And.intro (show _ ≤ mv_sh _ ∧ vp_in _ _ from ⟨Nat.le_of_ble_eq_true rfl, by (first | (simp (disch := omega) only [ln_14, ln_17, ln_18, ln_19, ln_20, ln_21, ln_22, ln_23, not_true_eq_false, not_false_eq_true, Classical.not_not, ofn, b_z, b_nz, b_z', b_nz', mv_rd, mv_rn, mv_ld, mv_ln_, lit, nI_add, pk_mul, nI_clamp]; exact vp_in_nI (by omega) (by omega)) | (exact vp_in_nI (by omega) (by omega)))⟩) ?_)
        | (refine And.intro (show (_ : Int32) = 0 ∨ (_ : Int32) = 1 from by first | exact Or.inl rfl | exact Or.inr rfl | exact bI_01 _) ?_)
        | (refine And.intro (show mv_sh _ = _ ∧ vp_in _ _ from ⟨rfl, by (first | (simp (disch := omega) only [ln_14, ln_17, ln_18, ln_19, ln_20, ln_21, ln_22, ln_23, not_true_eq_false, not_false_eq_true, Classical.not_not, ofn, b_z, b_nz, b_z', b_nz', mv_rd, mv_rn, mv_ld, mv_ln_, lit, nI_add, pk_mul, nI_clamp]; exact vp_in_nI (by omega) (by omega)) | (exact vp_in_nI (by omega) (by omega)))⟩) ?_)
        | (refine And.intro (show mv_sh _ = _ ∧ vp_in _ _ from ⟨by assumption, by (first | (simp (disch := omega) only [ln_14, ln_17, ln_18, ln_19, ln_20, ln_21, ln_22, ln_23, not_true_eq_false, not_false_eq_true, Classical.not_not, ofn, b_z, b_nz, b_z', b_nz', mv_rd, mv_rn, mv_ld, mv_ln_, lit, nI_add, pk_mul, nI_clamp]; exact vp_in_nI (by omega) (by omega)) | (exact vp_in_nI (by omega) (by omega)))⟩) ?_)
        | (refine And.intro (show ¬ (_ : Int32) = 0 by decide) ?_)
        | (refine ⟨_, rfl, ?_⟩)
        | (refine And.intro (show (none : Option Value) = none from rfl) ?_)
        | (refine Or.inl ⟨rfl, ?_⟩)
        | (refine Or.inr ⟨_, rfl, ?_⟩)
        | (refine dt (by (first | assumption | omega | ((try simp (disch := omega) only [not_true_eq_false, not_false_eq_true, Classical.not_not, ofn, b_z, b_nz, b_z', b_nz', mv_rd, mv_rn, mv_ld, mv_ln_, lit, nI_add, pk_mul, nI_clamp]); (try simp (disch := omega) only [fa_lt, fa_le, fa_eq, nI_toInt, pk_sub_toInt, nI_m1, nI_m1', not_false_eq_true, true_and, and_true]); first | done | omega))) ?_)
        | (refine df (by (first | assumption | omega | ((try simp (disch := omega) only [not_true_eq_false, not_false_eq_true, Classical.not_not, ofn, b_z, b_nz, b_z', b_nz', mv_rd, mv_rn, mv_ld, mv_ln_, lit, nI_add, pk_mul, nI_clamp]); (try simp (disch := omega) only [fa_lt, fa_le, fa_eq, nI_toInt, pk_sub_toInt, nI_m1, nI_m1', not_false_eq_true, true_and, and_true]); first | done | omega))) ?_)
        | (refine dt' (by (first | assumption | omega | ((try simp (disch := omega) only [not_true_eq_false, not_false_eq_true, Classical.not_not, ofn, b_z, b_nz, b_z', b_nz', mv_rd, mv_rn, mv_ld, mv_ln_, lit, nI_add, pk_mul, nI_clamp]); (try simp (disch := omega) only [fa_lt, fa_le, fa_eq, nI_toInt, pk_sub_toInt, nI_m1, nI_m1', not_false_eq_true, true_and, and_true]); first | done | omega))) ?_)
        | (refine df' (by (first | assumption | omega | ((try simp (disch := omega) only [not_true_eq_false, not_false_eq_true, Classical.not_not, ofn, b_z, b_nz, b_z', b_nz', mv_rd, mv_rn, mv_ld, mv_ln_, lit, nI_add, pk_mul, nI_clamp]); (try simp (disch := omega) only [fa_lt, fa_le, fa_eq, nI_toInt, pk_sub_toInt, nI_m1, nI_m1', not_false_eq_true, true_and, and_true]); first | done | omega))) ?_)
        )
    refine hQ _ ?_ ?_ ?_ ?_ ?_ ?_ (fun c' j q1 q2 q3 q4 q5 q6 => ?_) rfl
    · rw [mv_rd, nI_1]
    · simp (disch := omega) only [mv_rn, mv_rd]
    · simp (disch := omega) only [mv_rn, mv_rd]
    · simp (disch := omega) only [mv_rn, mv_rd]
    · simp (disch := omega) only [mv_rn, mv_rd]
    · simp (disch := omega) only [mv_rn, mv_rd, hP, if_neg e, nI_1]
    · simp (disch := omega) only [mv_rn]
end ELEMC
