/-! ===== words of the reference; all words of a length in their order ===== -/
def wl : Nat → Nat → List Nat
  | 0, _ => []
  | n + 1, k => (k / 3 ^ n % 3) :: wl n k
def bb : Nat → Nat → Nat
  | 0, _ => 0
  | n + 1, m => m % 3 + 4 * bb n (m / 3)
theorem wl_len : ∀ n k, (wl n k).length = n
  | 0, _ => rfl
  | n + 1, k => by show (wl n k).length + 1 = n + 1; rw [wl_len n k]
theorem wl_lt : ∀ n k l, l ∈ wl n k → l < 3
  | 0, _, _, h => absurd h List.not_mem_nil
  | n + 1, k, l, h => by
    rcases List.mem_cons.mp h with rfl | h
    · exact Nat.mod_lt _ (by decide)
    · exact wl_lt n k l h
theorem wk_wl {n : Nat} (k : Nat) (h : n ≤ 9) : wk (wl n k) := ⟨by rw [wl_len]; exact h, wl_lt n k⟩
theorem wl_get : ∀ n k i, i < n → (wl n k).getD i 0 = k / 3 ^ (n - 1 - i) % 3
  | 0, _, _, h => absurd h (Nat.not_lt_zero _)
  | n + 1, k, 0, _ => rfl
  | n + 1, k, i + 1, h => by
    show (wl n k).getD i 0 = _
    rw [wl_get n k i (by omega), show n + 1 - 1 - (i + 1) = n - 1 - i by omega]
theorem bb_top : ∀ n k, bb (n + 1) k = (k / 3 ^ n % 3) * 4 ^ n + bb n k
  | 0, k => by
    show k % 3 + 4 * 0 = (k / 3 ^ 0 % 3) * 4 ^ 0 + 0
    rw [Nat.pow_zero, Nat.div_one]
    omega
  | n + 1, k => by
    show k % 3 + 4 * bb (n + 1) (k / 3) = _ + (k % 3 + 4 * bb n (k / 3))
    rw [bb_top n (k / 3), Nat.div_div_eq_div_mul, show 3 * 3 ^ n = 3 ^ (n + 1) by rw [Nat.pow_succ, Nat.mul_comm], Nat.pow_succ 4 n, Nat.mul_add, ← Nat.mul_assoc (k / 3 ^ (n + 1) % 3), Nat.mul_comm 4 (k / 3 ^ (n + 1) % 3 * 4 ^ n)]
    omega
theorem wb_wl : ∀ n k, wb (wl n k) = bb n k
  | 0, _ => rfl
  | n + 1, k => by
    show (k / 3 ^ n % 3) * 4 ^ (wl n k).length + wb (wl n k) = _
    rw [wl_len, wb_wl n k, bb_top]
theorem bb_lt : ∀ n k, bb n k < 4 ^ n
  | 0, _ => by show 0 < 1; decide
  | n + 1, k => by
    show k % 3 + 4 * bb n (k / 3) < _
    have := bb_lt n (k / 3)
    rw [Nat.pow_succ]
    omega
theorem bb_0 : ∀ n, bb n 0 = 0
  | 0 => rfl
  | n + 1 => by show 0 % 3 + 4 * bb n (0 / 3) = 0; rw [show 0 / 3 = 0 from rfl, bb_0 n]
def frW (σ τ : mv_S) : Prop := (∀ c j, ¬ (c = 61 ∧ j = 6) → ¬ c = 64 → τ.1 c j = σ.1 c j) ∧ τ.2 = σ.2
theorem w3_pow {a n : Nat} (h : a ≤ n) : (3 : Nat) ^ n = 3 ^ a * 3 ^ (n - a) := by rw [← Nat.pow_add]; congr 1; omega
section WORDS2
variable {X : mv_X} {d : Nat} {σ : mv_S} {Q : mv_Q} {w : List Nat}
theorem r_turned {n : Nat} (hn : w.length = n) (h9 : n ≤ 9) (hQ : ∀ τ, rwd τ w → frW σ τ → Q (some (.int 1)) τ) :
    ∀ r k (τ : mv_S), k + r = n / 2 → τ.1 61 6 = nI n → (∀ i, i < n → τ.1 64 i = nI (if i < k ∨ n ≤ i + k then w.getD i 0 else w.getD (n - 1 - i) 0)) → frW σ τ → mv_wf X (mv_wp X d) m_Ref_isWord Q 78 [.ref 61, .retAddr 0, .retAddr 0, .int (nI k), .retAddr 0] [] τ := by
  intro r
  induction r with
  | zero =>
    intro k τ hk h6 hl hf
    refine h_Ref_isWord_78 ?_
    rw [h6, q_div2 (by omega)]
    repeat (first
        | (refine And.intro (show mv_sh _ = _ from rfl) ?_)
        | (refine And.intro (show mv_sh _ = _ by assumption) ?_)
        | (refine And.intro (show _ ≤ mv_sh _ from Nat.le_of_ble_eq_true rfl) ?_)
        | (refine And.intro (show _ ≤ mv_sh _ ∧ vp_in _ _ from ⟨Nat.le_of_ble_eq_true rfl, by (first | (simp (disch := omega) only [ln_64, ln_62, not_true_eq_false, not_false_eq_true, Classical.not_not, ofn, b_z, b_nz, b_z', b_nz', mv_rd, mv_rn, mv_ld, mv_ln_, lit, nI_add, pk_mul, nI_clamp]; exact vp_in_nI (by omega) (by omega)) | (exact vp_in_nI (by omega) (by omega)))⟩) ?_)
        | (refine And.intro (show (_ : Int32) = 0 ∨ (_ : Int32) = 1 from by first | exact Or.inl rfl | exact Or.inr rfl | exact bI_01 _) ?_)
        | (refine And.intro (show mv_sh _ = _ ∧ vp_in _ _ from ⟨rfl, by (first | (simp (disch := omega) only [ln_64, ln_62, not_true_eq_false, not_false_eq_true, Classical.not_not, ofn, b_z, b_nz, b_z', b_nz', mv_rd, mv_rn, mv_ld, mv_ln_, lit, nI_add, pk_mul, nI_clamp]; exact vp_in_nI (by omega) (by omega)) | (exact vp_in_nI (by omega) (by omega)))⟩) ?_)
        | (refine And.intro (show mv_sh _ = _ ∧ vp_in _ _ from ⟨by assumption, by (first | (simp (disch := omega) only [ln_64, ln_62, not_true_eq_false, not_false_eq_true, Classical.not_not, ofn, b_z, b_nz, b_z', b_nz', mv_rd, mv_rn, mv_ld, mv_ln_, lit, nI_add, pk_mul, nI_clamp]; exact vp_in_nI (by omega) (by omega)) | (exact vp_in_nI (by omega) (by omega)))⟩) ?_)
        | (refine And.intro (show ¬ (_ : Int32) = 0 by decide) ?_)
        | (refine ⟨_, rfl, ?_⟩)
        | (refine And.intro (show (none : Option Value) = none from rfl) ?_)
        | (refine Or.inl ⟨rfl, ?_⟩)
        | (refine Or.inr ⟨_, rfl, ?_⟩)
        | (refine dt (by (first | assumption | omega | ((try simp (disch := omega) only [not_true_eq_false, not_false_eq_true, Classical.not_not, ofn, b_z, b_nz, b_z', b_nz', mv_rd, mv_rn, mv_ld, mv_ln_, lit, nI_add, pk_mul, nI_clamp]); (try simp (disch := omega) only [fa_lt, fa_le, fa_eq, nI_toInt, pk_sub_toInt, nI_m1, nI_m1', not_false_eq_true, true_and, and_true]); first | done | omega))) ?_)
        | (refine df (by (first | assumption | omega | ((try simp (disch := omega) only [not_true_eq_false, not_false_eq_true, Classical.not_not, ofn, b_z, b_nz, b_z', b_nz', mv_rd, mv_rn, mv_ld, mv_ln_, lit, nI_add, pk_mul, nI_clamp]); (try simp (disch := omega) only [fa_lt, fa_le, fa_eq, nI_toInt, pk_sub_toInt, nI_m1, nI_m1', not_false_eq_true, true_and, and_true]); first | done | omega))) ?_)
        | (refine dt' (by (first | assumption | omega | ((try simp (disch := omega) only [not_true_eq_false, not_false_eq_true, Classical.not_not, ofn, b_z, b_nz, b_z', b_nz', mv_rd, mv_rn, mv_ld, mv_ln_, lit, nI_add, pk_mul, nI_clamp]); (try simp (disch := omega) only [fa_lt, fa_le, fa_eq, nI_toInt, pk_sub_toInt, nI_m1, nI_m1', not_false_eq_true, true_and, and_true]); first | done | omega))) ?_)
        | (refine df' (by (first | assumption | omega | ((try simp (disch := omega) only [not_true_eq_false, not_false_eq_true, Classical.not_not, ofn, b_z, b_nz, b_z', b_nz', mv_rd, mv_rn, mv_ld, mv_ln_, lit, nI_add, pk_mul, nI_clamp]); (try simp (disch := omega) only [fa_lt, fa_le, fa_eq, nI_toInt, pk_sub_toInt, nI_m1, nI_m1', not_false_eq_true, true_and, and_true]); first | done | omega))) ?_)
        )
    refine hQ τ ⟨by rw [hn]; exact h6, fun i hi => ?_⟩ hf
    rw [hn] at hi
    rw [hl i hi]
    by_cases e : i < k ∨ n ≤ i + k
    · rw [if_pos e]
    · rw [if_neg e, show n - 1 - i = i by omega]
  | succ r ih =>
    intro k τ hk h6 hl hf
    have e9 : ∀ v, (mv_pi τ 64 k v).1 61 6 = nI n := fun v => by rw [mv_rn (by omega)]; exact h6
    have es : nI n - 1 - nI k = nI (n - 1 - k) := by rw [show (1 : Int32) = nI 1 from rfl, pk_sub (by omega), pk_sub (by omega)]
    refine h_Ref_isWord_78 ?_
    rw [nI_clamp (by omega), h6, e9, es, nI_clamp (by omega), q_div2 (by omega)]
    repeat (first
        | (refine And.intro (show mv_sh _ = _ from rfl) ?_)
        | (refine And.intro (show mv_sh _ = _ by assumption) ?_)
        | (refine And.intro (show _ ≤ mv_sh _ from Nat.le_of_ble_eq_true rfl) ?_)
        | (refine And.intro (show _ ≤ mv_sh _ ∧ vp_in _ _ from ⟨Nat.le_of_ble_eq_true rfl, by (first | (simp (disch := omega) only [ln_64, ln_62, not_true_eq_false, not_false_eq_true, Classical.not_not, ofn, b_z, b_nz, b_z', b_nz', mv_rd, mv_rn, mv_ld, mv_ln_, lit, nI_add, pk_mul, nI_clamp]; exact vp_in_nI (by omega) (by omega)) | (exact vp_in_nI (by omega) (by omega)))⟩) ?_)
        | (refine And.intro (show (_ : Int32) = 0 ∨ (_ : Int32) = 1 from by first | exact Or.inl rfl | exact Or.inr rfl | exact bI_01 _) ?_)
        | (refine And.intro (show mv_sh _ = _ ∧ vp_in _ _ from ⟨rfl, by (first | (simp (disch := omega) only [ln_64, ln_62, not_true_eq_false, not_false_eq_true, Classical.not_not, ofn, b_z, b_nz, b_z', b_nz', mv_rd, mv_rn, mv_ld, mv_ln_, lit, nI_add, pk_mul, nI_clamp]; exact vp_in_nI (by omega) (by omega)) | (exact vp_in_nI (by omega) (by omega)))⟩) ?_)
        | (refine And.intro (show mv_sh _ = _ ∧ vp_in _ _ from ⟨by assumption, by (first | (simp (disch := omega) only [ln_64, ln_62, not_true_eq_false, not_false_eq_true, Classical.not_not, ofn, b_z, b_nz, b_z', b_nz', mv_rd, mv_rn, mv_ld, mv_ln_, lit, nI_add, pk_mul, nI_clamp]; exact vp_in_nI (by omega) (by omega)) | (exact vp_in_nI (by omega) (by omega)))⟩) ?_)
        | (refine And.intro (show ¬ (_ : Int32) = 0 by decide) ?_)
        | (refine ⟨_, rfl, ?_⟩)
        | (refine And.intro (show (none : Option Value) = none from rfl) ?_)
        | (refine Or.inl ⟨rfl, ?_⟩)
        | (refine Or.inr ⟨_, rfl, ?_⟩)
        | (refine dt (by (first | assumption | omega | ((try simp (disch := omega) only [not_true_eq_false, not_false_eq_true, Classical.not_not, ofn, b_z, b_nz, b_z', b_nz', mv_rd, mv_rn, mv_ld, mv_ln_, lit, nI_add, pk_mul, nI_clamp]); (try simp (disch := omega) only [fa_lt, fa_le, fa_eq, nI_toInt, pk_sub_toInt, nI_m1, nI_m1', not_false_eq_true, true_and, and_true]); first | done | omega))) ?_)
        | (refine df (by (first | assumption | omega | ((try simp (disch := omega) only [not_true_eq_false, not_false_eq_true, Classical.not_not, ofn, b_z, b_nz, b_z', b_nz', mv_rd, mv_rn, mv_ld, mv_ln_, lit, nI_add, pk_mul, nI_clamp]); (try simp (disch := omega) only [fa_lt, fa_le, fa_eq, nI_toInt, pk_sub_toInt, nI_m1, nI_m1', not_false_eq_true, true_and, and_true]); first | done | omega))) ?_)
        | (refine dt' (by (first | assumption | omega | ((try simp (disch := omega) only [not_true_eq_false, not_false_eq_true, Classical.not_not, ofn, b_z, b_nz, b_z', b_nz', mv_rd, mv_rn, mv_ld, mv_ln_, lit, nI_add, pk_mul, nI_clamp]); (try simp (disch := omega) only [fa_lt, fa_le, fa_eq, nI_toInt, pk_sub_toInt, nI_m1, nI_m1', not_false_eq_true, true_and, and_true]); first | done | omega))) ?_)
        | (refine df' (by (first | assumption | omega | ((try simp (disch := omega) only [not_true_eq_false, not_false_eq_true, Classical.not_not, ofn, b_z, b_nz, b_z', b_nz', mv_rd, mv_rn, mv_ld, mv_ln_, lit, nI_add, pk_mul, nI_clamp]); (try simp (disch := omega) only [fa_lt, fa_le, fa_eq, nI_toInt, pk_sub_toInt, nI_m1, nI_m1', not_false_eq_true, true_and, and_true]); first | done | omega))) ?_)
        )
    rw [nI_1]
    refine ih (k + 1) _ (by omega) ?_ (fun i hi => ?_) ⟨fun c j h1 h2 => ?_, hf.2⟩
    · rw [mv_rn (by omega), mv_rn (by omega)]; exact h6
    · by_cases e1 : i = n - 1 - k
      · subst e1
        rw [mv_rd, hl k (by omega), if_neg (by omega), if_pos (by omega)]
      · rw [mv_rn (by omega)]
        by_cases e2 : i = k
        · subst e2
          rw [mv_rd, hl _ (by omega), if_neg (by omega), if_pos (by omega), show n - 1 - (n - 1 - i) = i by omega]
        · rw [mv_rn (by omega), hl i hi]
          by_cases e : i < k ∨ n ≤ i + k
          · rw [if_pos e, if_pos (by omega)]
          · rw [if_neg e, if_neg (by omega)]
    · rw [mv_rn (by omega), mv_rn (by omega)]; exact hf.1 c j h1 h2
theorem r_isWord {n : Nat} (hn : n < 2 ^ 31) (h1 : wis 9 n = true → ∀ τ, rwd τ (wls 9 n) → frW σ τ → Q (some (.int 1)) τ) (h0 : wis 9 n = false → ∀ τ, frW σ τ → Q (some (.int 0)) τ) : mv_wp X (d + 2) 156 [.ref 61, .int (nI n)] σ Q := by
  have loop : ∀ f j x (suf : List Nat) (τ : mv_S), j + f = 9 → x < 2 ^ 31 → suf.length = j → τ.1 61 6 = nI j → (∀ i, i < j → τ.1 64 i = nI (suf.getD (j - 1 - i) 0)) → frW σ τ → (wis f x = true → ∀ τ, rwd τ (wls f x ++ suf) → frW σ τ → Q (some (.int 1)) τ) → (wis f x = false → ∀ τ, frW σ τ → Q (some (.int 0)) τ) → mv_wf X (mv_wp X (d + 1)) m_Ref_isWord Q 13 [.ref 61, .retAddr 0, .int (nI x), .retAddr 0, .retAddr 0] [] τ := by
    intro f
    induction f with
    | zero =>
      intro j x suf τ hj hx hs h6 hl hf g1 g0
      refine h_Ref_isWord_13 ?_
      by_cases e : x = 0
      · subst e
        repeat (first
            | (refine And.intro (show mv_sh _ = _ from rfl) ?_)
            | (refine And.intro (show mv_sh _ = _ by assumption) ?_)
            | (refine And.intro (show _ ≤ mv_sh _ from Nat.le_of_ble_eq_true rfl) ?_)
            | (refine And.intro (show _ ≤ mv_sh _ ∧ vp_in _ _ from ⟨Nat.le_of_ble_eq_true rfl, by (first | (simp (disch := omega) only [ln_64, ln_62, not_true_eq_false, not_false_eq_true, Classical.not_not, ofn, b_z, b_nz, b_z', b_nz', mv_rd, mv_rn, mv_ld, mv_ln_, lit, nI_add, pk_mul, nI_clamp, h6]; exact vp_in_nI (by omega) (by omega)) | (exact vp_in_nI (by omega) (by omega)))⟩) ?_)
            | (refine And.intro (show (_ : Int32) = 0 ∨ (_ : Int32) = 1 from by first | exact Or.inl rfl | exact Or.inr rfl | exact bI_01 _) ?_)
            | (refine And.intro (show mv_sh _ = _ ∧ vp_in _ _ from ⟨rfl, by (first | (simp (disch := omega) only [ln_64, ln_62, not_true_eq_false, not_false_eq_true, Classical.not_not, ofn, b_z, b_nz, b_z', b_nz', mv_rd, mv_rn, mv_ld, mv_ln_, lit, nI_add, pk_mul, nI_clamp, h6]; exact vp_in_nI (by omega) (by omega)) | (exact vp_in_nI (by omega) (by omega)))⟩) ?_)
            | (refine And.intro (show mv_sh _ = _ ∧ vp_in _ _ from ⟨by assumption, by (first | (simp (disch := omega) only [ln_64, ln_62, not_true_eq_false, not_false_eq_true, Classical.not_not, ofn, b_z, b_nz, b_z', b_nz', mv_rd, mv_rn, mv_ld, mv_ln_, lit, nI_add, pk_mul, nI_clamp, h6]; exact vp_in_nI (by omega) (by omega)) | (exact vp_in_nI (by omega) (by omega)))⟩) ?_)
            | (refine And.intro (show ¬ (_ : Int32) = 0 by decide) ?_)
            | (refine ⟨_, rfl, ?_⟩)
            | (refine And.intro (show (none : Option Value) = none from rfl) ?_)
            | (refine Or.inl ⟨rfl, ?_⟩)
            | (refine Or.inr ⟨_, rfl, ?_⟩)
            | (refine dt (by (first | assumption | omega | ((try simp (disch := omega) only [not_true_eq_false, not_false_eq_true, Classical.not_not, ofn, b_z, b_nz, b_z', b_nz', mv_rd, mv_rn, mv_ld, mv_ln_, lit, nI_add, pk_mul, nI_clamp, h6]); (try simp (disch := omega) only [fa_lt, fa_le, fa_eq, nI_toInt, pk_sub_toInt, nI_m1, nI_m1', not_false_eq_true, true_and, and_true, h6]); first | done | omega))) ?_)
            | (refine df (by (first | assumption | omega | ((try simp (disch := omega) only [not_true_eq_false, not_false_eq_true, Classical.not_not, ofn, b_z, b_nz, b_z', b_nz', mv_rd, mv_rn, mv_ld, mv_ln_, lit, nI_add, pk_mul, nI_clamp, h6]); (try simp (disch := omega) only [fa_lt, fa_le, fa_eq, nI_toInt, pk_sub_toInt, nI_m1, nI_m1', not_false_eq_true, true_and, and_true, h6]); first | done | omega))) ?_)
            | (refine dt' (by (first | assumption | omega | ((try simp (disch := omega) only [not_true_eq_false, not_false_eq_true, Classical.not_not, ofn, b_z, b_nz, b_z', b_nz', mv_rd, mv_rn, mv_ld, mv_ln_, lit, nI_add, pk_mul, nI_clamp, h6]); (try simp (disch := omega) only [fa_lt, fa_le, fa_eq, nI_toInt, pk_sub_toInt, nI_m1, nI_m1', not_false_eq_true, true_and, and_true, h6]); first | done | omega))) ?_)
            | (refine df' (by (first | assumption | omega | ((try simp (disch := omega) only [not_true_eq_false, not_false_eq_true, Classical.not_not, ofn, b_z, b_nz, b_z', b_nz', mv_rd, mv_rn, mv_ld, mv_ln_, lit, nI_add, pk_mul, nI_clamp, h6]); (try simp (disch := omega) only [fa_lt, fa_le, fa_eq, nI_toInt, pk_sub_toInt, nI_m1, nI_m1', not_false_eq_true, true_and, and_true, h6]); first | done | omega))) ?_)
            )
        exact r_turned (w := suf) hs (by omega) (g1 rfl) (j / 2) 0 τ (by omega) h6 (fun i hi => by rw [hl i hi, if_neg (by omega)]) hf
      · repeat (first
            | (refine And.intro (show mv_sh _ = _ from rfl) ?_)
            | (refine And.intro (show mv_sh _ = _ by assumption) ?_)
            | (refine And.intro (show _ ≤ mv_sh _ from Nat.le_of_ble_eq_true rfl) ?_)
            | (refine And.intro (show _ ≤ mv_sh _ ∧ vp_in _ _ from ⟨Nat.le_of_ble_eq_true rfl, by (first | (simp (disch := omega) only [ln_64, ln_62, not_true_eq_false, not_false_eq_true, Classical.not_not, ofn, b_z, b_nz, b_z', b_nz', mv_rd, mv_rn, mv_ld, mv_ln_, lit, nI_add, pk_mul, nI_clamp, h6]; exact vp_in_nI (by omega) (by omega)) | (exact vp_in_nI (by omega) (by omega)))⟩) ?_)
            | (refine And.intro (show (_ : Int32) = 0 ∨ (_ : Int32) = 1 from by first | exact Or.inl rfl | exact Or.inr rfl | exact bI_01 _) ?_)
            | (refine And.intro (show mv_sh _ = _ ∧ vp_in _ _ from ⟨rfl, by (first | (simp (disch := omega) only [ln_64, ln_62, not_true_eq_false, not_false_eq_true, Classical.not_not, ofn, b_z, b_nz, b_z', b_nz', mv_rd, mv_rn, mv_ld, mv_ln_, lit, nI_add, pk_mul, nI_clamp, h6]; exact vp_in_nI (by omega) (by omega)) | (exact vp_in_nI (by omega) (by omega)))⟩) ?_)
            | (refine And.intro (show mv_sh _ = _ ∧ vp_in _ _ from ⟨by assumption, by (first | (simp (disch := omega) only [ln_64, ln_62, not_true_eq_false, not_false_eq_true, Classical.not_not, ofn, b_z, b_nz, b_z', b_nz', mv_rd, mv_rn, mv_ld, mv_ln_, lit, nI_add, pk_mul, nI_clamp, h6]; exact vp_in_nI (by omega) (by omega)) | (exact vp_in_nI (by omega) (by omega)))⟩) ?_)
            | (refine And.intro (show ¬ (_ : Int32) = 0 by decide) ?_)
            | (refine ⟨_, rfl, ?_⟩)
            | (refine And.intro (show (none : Option Value) = none from rfl) ?_)
            | (refine Or.inl ⟨rfl, ?_⟩)
            | (refine Or.inr ⟨_, rfl, ?_⟩)
            | (refine dt (by (first | assumption | omega | ((try simp (disch := omega) only [not_true_eq_false, not_false_eq_true, Classical.not_not, ofn, b_z, b_nz, b_z', b_nz', mv_rd, mv_rn, mv_ld, mv_ln_, lit, nI_add, pk_mul, nI_clamp, h6]); (try simp (disch := omega) only [fa_lt, fa_le, fa_eq, nI_toInt, pk_sub_toInt, nI_m1, nI_m1', not_false_eq_true, true_and, and_true, h6]); first | done | omega))) ?_)
            | (refine df (by (first | assumption | omega | ((try simp (disch := omega) only [not_true_eq_false, not_false_eq_true, Classical.not_not, ofn, b_z, b_nz, b_z', b_nz', mv_rd, mv_rn, mv_ld, mv_ln_, lit, nI_add, pk_mul, nI_clamp, h6]); (try simp (disch := omega) only [fa_lt, fa_le, fa_eq, nI_toInt, pk_sub_toInt, nI_m1, nI_m1', not_false_eq_true, true_and, and_true, h6]); first | done | omega))) ?_)
            | (refine dt' (by (first | assumption | omega | ((try simp (disch := omega) only [not_true_eq_false, not_false_eq_true, Classical.not_not, ofn, b_z, b_nz, b_z', b_nz', mv_rd, mv_rn, mv_ld, mv_ln_, lit, nI_add, pk_mul, nI_clamp, h6]); (try simp (disch := omega) only [fa_lt, fa_le, fa_eq, nI_toInt, pk_sub_toInt, nI_m1, nI_m1', not_false_eq_true, true_and, and_true, h6]); first | done | omega))) ?_)
            | (refine df' (by (first | assumption | omega | ((try simp (disch := omega) only [not_true_eq_false, not_false_eq_true, Classical.not_not, ofn, b_z, b_nz, b_z', b_nz', mv_rd, mv_rn, mv_ld, mv_ln_, lit, nI_add, pk_mul, nI_clamp, h6]); (try simp (disch := omega) only [fa_lt, fa_le, fa_eq, nI_toInt, pk_sub_toInt, nI_m1, nI_m1', not_false_eq_true, true_and, and_true, h6]); first | done | omega))) ?_)
            )
        exact g0 (decide_eq_false e) τ hf
    | succ f ih =>
      intro j x suf τ hj hx hs h6 hl hf g1 g0
      refine h_Ref_isWord_13 ?_
      rw [q_rem10 hx]
      by_cases e : x = 0
      · subst e
        repeat (first
            | (refine And.intro (show mv_sh _ = _ from rfl) ?_)
            | (refine And.intro (show mv_sh _ = _ by assumption) ?_)
            | (refine And.intro (show _ ≤ mv_sh _ from Nat.le_of_ble_eq_true rfl) ?_)
            | (refine And.intro (show _ ≤ mv_sh _ ∧ vp_in _ _ from ⟨Nat.le_of_ble_eq_true rfl, by (first | (simp (disch := omega) only [ln_64, ln_62, not_true_eq_false, not_false_eq_true, Classical.not_not, ofn, b_z, b_nz, b_z', b_nz', mv_rd, mv_rn, mv_ld, mv_ln_, lit, nI_add, pk_mul, nI_clamp, h6]; exact vp_in_nI (by omega) (by omega)) | (exact vp_in_nI (by omega) (by omega)))⟩) ?_)
            | (refine And.intro (show (_ : Int32) = 0 ∨ (_ : Int32) = 1 from by first | exact Or.inl rfl | exact Or.inr rfl | exact bI_01 _) ?_)
            | (refine And.intro (show mv_sh _ = _ ∧ vp_in _ _ from ⟨rfl, by (first | (simp (disch := omega) only [ln_64, ln_62, not_true_eq_false, not_false_eq_true, Classical.not_not, ofn, b_z, b_nz, b_z', b_nz', mv_rd, mv_rn, mv_ld, mv_ln_, lit, nI_add, pk_mul, nI_clamp, h6]; exact vp_in_nI (by omega) (by omega)) | (exact vp_in_nI (by omega) (by omega)))⟩) ?_)
            | (refine And.intro (show mv_sh _ = _ ∧ vp_in _ _ from ⟨by assumption, by (first | (simp (disch := omega) only [ln_64, ln_62, not_true_eq_false, not_false_eq_true, Classical.not_not, ofn, b_z, b_nz, b_z', b_nz', mv_rd, mv_rn, mv_ld, mv_ln_, lit, nI_add, pk_mul, nI_clamp, h6]; exact vp_in_nI (by omega) (by omega)) | (exact vp_in_nI (by omega) (by omega)))⟩) ?_)
            | (refine And.intro (show ¬ (_ : Int32) = 0 by decide) ?_)
            | (refine ⟨_, rfl, ?_⟩)
            | (refine And.intro (show (none : Option Value) = none from rfl) ?_)
            | (refine Or.inl ⟨rfl, ?_⟩)
            | (refine Or.inr ⟨_, rfl, ?_⟩)
            | (refine dt (by (first | assumption | omega | ((try simp (disch := omega) only [not_true_eq_false, not_false_eq_true, Classical.not_not, ofn, b_z, b_nz, b_z', b_nz', mv_rd, mv_rn, mv_ld, mv_ln_, lit, nI_add, pk_mul, nI_clamp, h6]); (try simp (disch := omega) only [fa_lt, fa_le, fa_eq, nI_toInt, pk_sub_toInt, nI_m1, nI_m1', not_false_eq_true, true_and, and_true, h6]); first | done | omega))) ?_)
            | (refine df (by (first | assumption | omega | ((try simp (disch := omega) only [not_true_eq_false, not_false_eq_true, Classical.not_not, ofn, b_z, b_nz, b_z', b_nz', mv_rd, mv_rn, mv_ld, mv_ln_, lit, nI_add, pk_mul, nI_clamp, h6]); (try simp (disch := omega) only [fa_lt, fa_le, fa_eq, nI_toInt, pk_sub_toInt, nI_m1, nI_m1', not_false_eq_true, true_and, and_true, h6]); first | done | omega))) ?_)
            | (refine dt' (by (first | assumption | omega | ((try simp (disch := omega) only [not_true_eq_false, not_false_eq_true, Classical.not_not, ofn, b_z, b_nz, b_z', b_nz', mv_rd, mv_rn, mv_ld, mv_ln_, lit, nI_add, pk_mul, nI_clamp, h6]); (try simp (disch := omega) only [fa_lt, fa_le, fa_eq, nI_toInt, pk_sub_toInt, nI_m1, nI_m1', not_false_eq_true, true_and, and_true, h6]); first | done | omega))) ?_)
            | (refine df' (by (first | assumption | omega | ((try simp (disch := omega) only [not_true_eq_false, not_false_eq_true, Classical.not_not, ofn, b_z, b_nz, b_z', b_nz', mv_rd, mv_rn, mv_ld, mv_ln_, lit, nI_add, pk_mul, nI_clamp, h6]); (try simp (disch := omega) only [fa_lt, fa_le, fa_eq, nI_toInt, pk_sub_toInt, nI_m1, nI_m1', not_false_eq_true, true_and, and_true, h6]); first | done | omega))) ?_)
            )
        exact r_turned (w := suf) hs (by omega) (by have := g1 rfl; rw [wls_0] at this; exact this) (j / 2) 0 τ (by omega) h6 (fun i hi => by rw [hl i hi, if_neg (by omega)]) hf
      · by_cases e3 : 1 ≤ x % 10 ∧ x % 10 ≤ 3
        · repeat (first
              | (refine And.intro (show mv_sh _ = _ from rfl) ?_)
              | (refine And.intro (show mv_sh _ = _ by assumption) ?_)
              | (refine And.intro (show _ ≤ mv_sh _ from Nat.le_of_ble_eq_true rfl) ?_)
              | (refine And.intro (show _ ≤ mv_sh _ ∧ vp_in _ _ from ⟨Nat.le_of_ble_eq_true rfl, by (first | (simp (disch := omega) only [ln_64, ln_62, not_true_eq_false, not_false_eq_true, Classical.not_not, ofn, b_z, b_nz, b_z', b_nz', mv_rd, mv_rn, mv_ld, mv_ln_, lit, nI_add, pk_mul, nI_clamp, h6]; exact vp_in_nI (by omega) (by omega)) | (exact vp_in_nI (by omega) (by omega)))⟩) ?_)
              | (refine And.intro (show (_ : Int32) = 0 ∨ (_ : Int32) = 1 from by first | exact Or.inl rfl | exact Or.inr rfl | exact bI_01 _) ?_)
              | (refine And.intro (show mv_sh _ = _ ∧ vp_in _ _ from ⟨rfl, by (first | (simp (disch := omega) only [ln_64, ln_62, not_true_eq_false, not_false_eq_true, Classical.not_not, ofn, b_z, b_nz, b_z', b_nz', mv_rd, mv_rn, mv_ld, mv_ln_, lit, nI_add, pk_mul, nI_clamp, h6]; exact vp_in_nI (by omega) (by omega)) | (exact vp_in_nI (by omega) (by omega)))⟩) ?_)
              | (refine And.intro (show mv_sh _ = _ ∧ vp_in _ _ from ⟨by assumption, by (first | (simp (disch := omega) only [ln_64, ln_62, not_true_eq_false, not_false_eq_true, Classical.not_not, ofn, b_z, b_nz, b_z', b_nz', mv_rd, mv_rn, mv_ld, mv_ln_, lit, nI_add, pk_mul, nI_clamp, h6]; exact vp_in_nI (by omega) (by omega)) | (exact vp_in_nI (by omega) (by omega)))⟩) ?_)
              | (refine And.intro (show ¬ (_ : Int32) = 0 by decide) ?_)
              | (refine ⟨_, rfl, ?_⟩)
              | (refine And.intro (show (none : Option Value) = none from rfl) ?_)
              | (refine Or.inl ⟨rfl, ?_⟩)
              | (refine Or.inr ⟨_, rfl, ?_⟩)
              | (refine dt (by (first | assumption | omega | ((try simp (disch := omega) only [not_true_eq_false, not_false_eq_true, Classical.not_not, ofn, b_z, b_nz, b_z', b_nz', mv_rd, mv_rn, mv_ld, mv_ln_, lit, nI_add, pk_mul, nI_clamp, h6]); (try simp (disch := omega) only [fa_lt, fa_le, fa_eq, nI_toInt, pk_sub_toInt, nI_m1, nI_m1', not_false_eq_true, true_and, and_true, h6]); first | done | omega))) ?_)
              | (refine df (by (first | assumption | omega | ((try simp (disch := omega) only [not_true_eq_false, not_false_eq_true, Classical.not_not, ofn, b_z, b_nz, b_z', b_nz', mv_rd, mv_rn, mv_ld, mv_ln_, lit, nI_add, pk_mul, nI_clamp, h6]); (try simp (disch := omega) only [fa_lt, fa_le, fa_eq, nI_toInt, pk_sub_toInt, nI_m1, nI_m1', not_false_eq_true, true_and, and_true, h6]); first | done | omega))) ?_)
              | (refine dt' (by (first | assumption | omega | ((try simp (disch := omega) only [not_true_eq_false, not_false_eq_true, Classical.not_not, ofn, b_z, b_nz, b_z', b_nz', mv_rd, mv_rn, mv_ld, mv_ln_, lit, nI_add, pk_mul, nI_clamp, h6]); (try simp (disch := omega) only [fa_lt, fa_le, fa_eq, nI_toInt, pk_sub_toInt, nI_m1, nI_m1', not_false_eq_true, true_and, and_true, h6]); first | done | omega))) ?_)
              | (refine df' (by (first | assumption | omega | ((try simp (disch := omega) only [not_true_eq_false, not_false_eq_true, Classical.not_not, ofn, b_z, b_nz, b_z', b_nz', mv_rd, mv_rn, mv_ld, mv_ln_, lit, nI_add, pk_mul, nI_clamp, h6]); (try simp (disch := omega) only [fa_lt, fa_le, fa_eq, nI_toInt, pk_sub_toInt, nI_m1, nI_m1', not_false_eq_true, true_and, and_true, h6]); first | done | omega))) ?_)
              | (refine (r_inI (A := 1) (C := 3) rfl rfl).mpr ?_)
              )
          have e9 : ∀ v, (mv_pi τ 64 j v).1 61 6 = nI j := fun v => by rw [mv_rn (by omega)]; exact h6
          rw [h6, nI_clamp (by omega), e9, show (1 : Int32) = nI 1 from rfl, pk_sub (by omega), nI_add, q_div10 hx]
          refine ih (j + 1) (x / 10) ((x % 10 - 1) :: suf) _ (by omega) (by omega) (by rw [List.length_cons, hs]) mv_rd (fun i hi => ?_) ⟨fun c i q1 q2 => ?_, hf.2⟩ (fun y => ?_) (fun y => ?_)
          · rw [mv_rn (by omega)]
            by_cases ei : i = j
            · subst ei
              rw [mv_rd, show i + 1 - 1 - i = 0 by omega]
              rfl
            · rw [mv_rn (by omega), hl i (by omega), show j + 1 - 1 - i = (j - 1 - i) + 1 by omega]
              rfl
          · rw [mv_rn (by omega), mv_rn (by omega)]; exact hf.1 c i q1 q2
          · have := g1 (by rw [wis_y e e3]; exact y)
            rw [wls_s e, ← ap_sh] at this
            exact this
          · exact g0 (by rw [wis_y e e3]; exact y)
        · have := g0 (wis_n e e3) τ hf
          repeat (first
              | (refine And.intro (show mv_sh _ = _ from rfl) ?_)
              | (refine And.intro (show mv_sh _ = _ by assumption) ?_)
              | (refine And.intro (show _ ≤ mv_sh _ from Nat.le_of_ble_eq_true rfl) ?_)
              | (refine And.intro (show _ ≤ mv_sh _ ∧ vp_in _ _ from ⟨Nat.le_of_ble_eq_true rfl, by (first | (simp (disch := omega) only [ln_64, ln_62, not_true_eq_false, not_false_eq_true, Classical.not_not, ofn, b_z, b_nz, b_z', b_nz', mv_rd, mv_rn, mv_ld, mv_ln_, lit, nI_add, pk_mul, nI_clamp, h6]; exact vp_in_nI (by omega) (by omega)) | (exact vp_in_nI (by omega) (by omega)))⟩) ?_)
              | (refine And.intro (show (_ : Int32) = 0 ∨ (_ : Int32) = 1 from by first | exact Or.inl rfl | exact Or.inr rfl | exact bI_01 _) ?_)
              | (refine And.intro (show mv_sh _ = _ ∧ vp_in _ _ from ⟨rfl, by (first | (simp (disch := omega) only [ln_64, ln_62, not_true_eq_false, not_false_eq_true, Classical.not_not, ofn, b_z, b_nz, b_z', b_nz', mv_rd, mv_rn, mv_ld, mv_ln_, lit, nI_add, pk_mul, nI_clamp, h6]; exact vp_in_nI (by omega) (by omega)) | (exact vp_in_nI (by omega) (by omega)))⟩) ?_)
              | (refine And.intro (show mv_sh _ = _ ∧ vp_in _ _ from ⟨by assumption, by (first | (simp (disch := omega) only [ln_64, ln_62, not_true_eq_false, not_false_eq_true, Classical.not_not, ofn, b_z, b_nz, b_z', b_nz', mv_rd, mv_rn, mv_ld, mv_ln_, lit, nI_add, pk_mul, nI_clamp, h6]; exact vp_in_nI (by omega) (by omega)) | (exact vp_in_nI (by omega) (by omega)))⟩) ?_)
              | (refine And.intro (show ¬ (_ : Int32) = 0 by decide) ?_)
              | (refine ⟨_, rfl, ?_⟩)
              | (refine And.intro (show (none : Option Value) = none from rfl) ?_)
              | (refine Or.inl ⟨rfl, ?_⟩)
              | (refine Or.inr ⟨_, rfl, ?_⟩)
              | (refine dt (by (first | assumption | omega | ((try simp (disch := omega) only [not_true_eq_false, not_false_eq_true, Classical.not_not, ofn, b_z, b_nz, b_z', b_nz', mv_rd, mv_rn, mv_ld, mv_ln_, lit, nI_add, pk_mul, nI_clamp, h6]); (try simp (disch := omega) only [fa_lt, fa_le, fa_eq, nI_toInt, pk_sub_toInt, nI_m1, nI_m1', not_false_eq_true, true_and, and_true, h6]); first | done | omega))) ?_)
              | (refine df (by (first | assumption | omega | ((try simp (disch := omega) only [not_true_eq_false, not_false_eq_true, Classical.not_not, ofn, b_z, b_nz, b_z', b_nz', mv_rd, mv_rn, mv_ld, mv_ln_, lit, nI_add, pk_mul, nI_clamp, h6]); (try simp (disch := omega) only [fa_lt, fa_le, fa_eq, nI_toInt, pk_sub_toInt, nI_m1, nI_m1', not_false_eq_true, true_and, and_true, h6]); first | done | omega))) ?_)
              | (refine dt' (by (first | assumption | omega | ((try simp (disch := omega) only [not_true_eq_false, not_false_eq_true, Classical.not_not, ofn, b_z, b_nz, b_z', b_nz', mv_rd, mv_rn, mv_ld, mv_ln_, lit, nI_add, pk_mul, nI_clamp, h6]); (try simp (disch := omega) only [fa_lt, fa_le, fa_eq, nI_toInt, pk_sub_toInt, nI_m1, nI_m1', not_false_eq_true, true_and, and_true, h6]); first | done | omega))) ?_)
              | (refine df' (by (first | assumption | omega | ((try simp (disch := omega) only [not_true_eq_false, not_false_eq_true, Classical.not_not, ofn, b_z, b_nz, b_z', b_nz', mv_rd, mv_rn, mv_ld, mv_ln_, lit, nI_add, pk_mul, nI_clamp, h6]); (try simp (disch := omega) only [fa_lt, fa_le, fa_eq, nI_toInt, pk_sub_toInt, nI_m1, nI_m1', not_false_eq_true, true_and, and_true, h6]); first | done | omega))) ?_)
              | (refine (r_inI (A := 1) (C := 3) rfl rfl).mpr ?_)
              )
          exact this
  refine w_Ref_isWord ?_
  repeat (first
      | (refine And.intro (show mv_sh _ = _ from rfl) ?_)
      | (refine And.intro (show mv_sh _ = _ by assumption) ?_)
      | (refine And.intro (show _ ≤ mv_sh _ from Nat.le_of_ble_eq_true rfl) ?_)
      | (refine And.intro (show _ ≤ mv_sh _ ∧ vp_in _ _ from ⟨Nat.le_of_ble_eq_true rfl, by (first | (simp (disch := omega) only [ln_64, ln_62, not_true_eq_false, not_false_eq_true, Classical.not_not, ofn, b_z, b_nz, b_z', b_nz', mv_rd, mv_rn, mv_ld, mv_ln_, lit, nI_add, pk_mul, nI_clamp]; exact vp_in_nI (by omega) (by omega)) | (exact vp_in_nI (by omega) (by omega)))⟩) ?_)
      | (refine And.intro (show (_ : Int32) = 0 ∨ (_ : Int32) = 1 from by first | exact Or.inl rfl | exact Or.inr rfl | exact bI_01 _) ?_)
      | (refine And.intro (show mv_sh _ = _ ∧ vp_in _ _ from ⟨rfl, by (first | (simp (disch := omega) only [ln_64, ln_62, not_true_eq_false, not_false_eq_true, Classical.not_not, ofn, b_z, b_nz, b_z', b_nz', mv_rd, mv_rn, mv_ld, mv_ln_, lit, nI_add, pk_mul, nI_clamp]; exact vp_in_nI (by omega) (by omega)) | (exact vp_in_nI (by omega) (by omega)))⟩) ?_)
      | (refine And.intro (show mv_sh _ = _ ∧ vp_in _ _ from ⟨by assumption, by (first | (simp (disch := omega) only [ln_64, ln_62, not_true_eq_false, not_false_eq_true, Classical.not_not, ofn, b_z, b_nz, b_z', b_nz', mv_rd, mv_rn, mv_ld, mv_ln_, lit, nI_add, pk_mul, nI_clamp]; exact vp_in_nI (by omega) (by omega)) | (exact vp_in_nI (by omega) (by omega)))⟩) ?_)
      | (refine And.intro (show ¬ (_ : Int32) = 0 by decide) ?_)
      | (refine ⟨_, rfl, ?_⟩)
      | (refine And.intro (show (none : Option Value) = none from rfl) ?_)
      | (refine Or.inl ⟨rfl, ?_⟩)
      | (refine Or.inr ⟨_, rfl, ?_⟩)
      | (refine dt (by (first | assumption | omega | ((try simp (disch := omega) only [not_true_eq_false, not_false_eq_true, Classical.not_not, ofn, b_z, b_nz, b_z', b_nz', mv_rd, mv_rn, mv_ld, mv_ln_, lit, nI_add, pk_mul, nI_clamp]); (try simp (disch := omega) only [fa_lt, fa_le, fa_eq, nI_toInt, pk_sub_toInt, nI_m1, nI_m1', not_false_eq_true, true_and, and_true]); first | done | omega))) ?_)
      | (refine df (by (first | assumption | omega | ((try simp (disch := omega) only [not_true_eq_false, not_false_eq_true, Classical.not_not, ofn, b_z, b_nz, b_z', b_nz', mv_rd, mv_rn, mv_ld, mv_ln_, lit, nI_add, pk_mul, nI_clamp]); (try simp (disch := omega) only [fa_lt, fa_le, fa_eq, nI_toInt, pk_sub_toInt, nI_m1, nI_m1', not_false_eq_true, true_and, and_true]); first | done | omega))) ?_)
      | (refine dt' (by (first | assumption | omega | ((try simp (disch := omega) only [not_true_eq_false, not_false_eq_true, Classical.not_not, ofn, b_z, b_nz, b_z', b_nz', mv_rd, mv_rn, mv_ld, mv_ln_, lit, nI_add, pk_mul, nI_clamp]); (try simp (disch := omega) only [fa_lt, fa_le, fa_eq, nI_toInt, pk_sub_toInt, nI_m1, nI_m1', not_false_eq_true, true_and, and_true]); first | done | omega))) ?_)
      | (refine df' (by (first | assumption | omega | ((try simp (disch := omega) only [not_true_eq_false, not_false_eq_true, Classical.not_not, ofn, b_z, b_nz, b_z', b_nz', mv_rd, mv_rn, mv_ld, mv_ln_, lit, nI_add, pk_mul, nI_clamp]); (try simp (disch := omega) only [fa_lt, fa_le, fa_eq, nI_toInt, pk_sub_toInt, nI_m1, nI_m1', not_false_eq_true, true_and, and_true]); first | done | omega))) ?_)
      )
  refine loop 9 0 n [] _ rfl hn rfl mv_rd (fun i hi => absurd hi (Nat.not_lt_zero _)) ⟨fun c j q1 q2 => mv_rn q1, rfl⟩ (fun y => ?_) h0
  rw [List.append_nil]
  exact h1 y
theorem r_isWord_neg {x : Int32} (hx : x.toInt < 0) (h0 : Q (some (.int 0)) σ) : mv_wp X (d + 1) 156 [.ref 61, .int x] σ Q := by
  refine w_Ref_isWord ?_
  repeat (first
      | (refine And.intro (show mv_sh _ = _ from rfl) ?_)
      | (refine And.intro (show mv_sh _ = _ by assumption) ?_)
      | (refine And.intro (show _ ≤ mv_sh _ from Nat.le_of_ble_eq_true rfl) ?_)
      | (refine And.intro (show _ ≤ mv_sh _ ∧ vp_in _ _ from ⟨Nat.le_of_ble_eq_true rfl, by (first | (simp (disch := omega) only [ln_64, ln_62, not_true_eq_false, not_false_eq_true, Classical.not_not, ofn, b_z, b_nz, b_z', b_nz', mv_rd, mv_rn, mv_ld, mv_ln_, lit, nI_add, pk_mul, nI_clamp]; exact vp_in_nI (by omega) (by omega)) | (exact vp_in_nI (by omega) (by omega)))⟩) ?_)
      | (refine And.intro (show (_ : Int32) = 0 ∨ (_ : Int32) = 1 from by first | exact Or.inl rfl | exact Or.inr rfl | exact bI_01 _) ?_)
      | (refine And.intro (show mv_sh _ = _ ∧ vp_in _ _ from ⟨rfl, by (first | (simp (disch := omega) only [ln_64, ln_62, not_true_eq_false, not_false_eq_true, Classical.not_not, ofn, b_z, b_nz, b_z', b_nz', mv_rd, mv_rn, mv_ld, mv_ln_, lit, nI_add, pk_mul, nI_clamp]; exact vp_in_nI (by omega) (by omega)) | (exact vp_in_nI (by omega) (by omega)))⟩) ?_)
      | (refine And.intro (show mv_sh _ = _ ∧ vp_in _ _ from ⟨by assumption, by (first | (simp (disch := omega) only [ln_64, ln_62, not_true_eq_false, not_false_eq_true, Classical.not_not, ofn, b_z, b_nz, b_z', b_nz', mv_rd, mv_rn, mv_ld, mv_ln_, lit, nI_add, pk_mul, nI_clamp]; exact vp_in_nI (by omega) (by omega)) | (exact vp_in_nI (by omega) (by omega)))⟩) ?_)
      | (refine And.intro (show ¬ (_ : Int32) = 0 by decide) ?_)
      | (refine ⟨_, rfl, ?_⟩)
      | (refine And.intro (show (none : Option Value) = none from rfl) ?_)
      | (refine Or.inl ⟨rfl, ?_⟩)
      | (refine Or.inr ⟨_, rfl, ?_⟩)
      | (refine dt (by (first | assumption | omega | ((try simp (disch := omega) only [not_true_eq_false, not_false_eq_true, Classical.not_not, ofn, b_z, b_nz, b_z', b_nz', mv_rd, mv_rn, mv_ld, mv_ln_, lit, nI_add, pk_mul, nI_clamp]); (try simp (disch := omega) only [fa_lt, fa_le, fa_eq, nI_toInt, pk_sub_toInt, nI_m1, nI_m1', not_false_eq_true, true_and, and_true]); first | done | omega))) ?_)
      | (refine df (by (first | assumption | omega | ((try simp (disch := omega) only [not_true_eq_false, not_false_eq_true, Classical.not_not, ofn, b_z, b_nz, b_z', b_nz', mv_rd, mv_rn, mv_ld, mv_ln_, lit, nI_add, pk_mul, nI_clamp]); (try simp (disch := omega) only [fa_lt, fa_le, fa_eq, nI_toInt, pk_sub_toInt, nI_m1, nI_m1', not_false_eq_true, true_and, and_true]); first | done | omega))) ?_)
      | (refine dt' (by (first | assumption | omega | ((try simp (disch := omega) only [not_true_eq_false, not_false_eq_true, Classical.not_not, ofn, b_z, b_nz, b_z', b_nz', mv_rd, mv_rn, mv_ld, mv_ln_, lit, nI_add, pk_mul, nI_clamp]); (try simp (disch := omega) only [fa_lt, fa_le, fa_eq, nI_toInt, pk_sub_toInt, nI_m1, nI_m1', not_false_eq_true, true_and, and_true]); first | done | omega))) ?_)
      | (refine df' (by (first | assumption | omega | ((try simp (disch := omega) only [not_true_eq_false, not_false_eq_true, Classical.not_not, ofn, b_z, b_nz, b_z', b_nz', mv_rd, mv_rn, mv_ld, mv_ln_, lit, nI_add, pk_mul, nI_clamp]); (try simp (disch := omega) only [fa_lt, fa_le, fa_eq, nI_toInt, pk_sub_toInt, nI_m1, nI_m1', not_false_eq_true, true_and, and_true]); first | done | omega))) ?_)
      )
  exact h0
theorem s_howMany {n : Nat} (hn : n ≤ 9) (hQ : Q (some (.int (nI (3 ^ n)))) σ) : mv_wp X (d + 1) 7 [.int (nI n)] σ Q := by
  have loop : ∀ r k, k + r = n → mv_wf X (mv_wp X d) m_Words_howMany Q 4 [.int (nI n), .int (nI (3 ^ k)), .int (nI k)] [] σ := by
    intro r
    induction r with
    | zero =>
      intro k hk
      obtain rfl : k = n := by omega
      refine h_Words_howMany_4 ?_
      repeat (first
          | (refine And.intro (show mv_sh _ = _ from rfl) ?_)
          | (refine And.intro (show mv_sh _ = _ by assumption) ?_)
          | (refine And.intro (show _ ≤ mv_sh _ from Nat.le_of_ble_eq_true rfl) ?_)
          | (refine And.intro (show _ ≤ mv_sh _ ∧ vp_in _ _ from ⟨Nat.le_of_ble_eq_true rfl, by (first | (simp (disch := omega) only [ln_64, ln_62, not_true_eq_false, not_false_eq_true, Classical.not_not, ofn, b_z, b_nz, b_z', b_nz', mv_rd, mv_rn, mv_ld, mv_ln_, lit, nI_add, pk_mul, nI_clamp]; exact vp_in_nI (by omega) (by omega)) | (exact vp_in_nI (by omega) (by omega)))⟩) ?_)
          | (refine And.intro (show (_ : Int32) = 0 ∨ (_ : Int32) = 1 from by first | exact Or.inl rfl | exact Or.inr rfl | exact bI_01 _) ?_)
          | (refine And.intro (show mv_sh _ = _ ∧ vp_in _ _ from ⟨rfl, by (first | (simp (disch := omega) only [ln_64, ln_62, not_true_eq_false, not_false_eq_true, Classical.not_not, ofn, b_z, b_nz, b_z', b_nz', mv_rd, mv_rn, mv_ld, mv_ln_, lit, nI_add, pk_mul, nI_clamp]; exact vp_in_nI (by omega) (by omega)) | (exact vp_in_nI (by omega) (by omega)))⟩) ?_)
          | (refine And.intro (show mv_sh _ = _ ∧ vp_in _ _ from ⟨by assumption, by (first | (simp (disch := omega) only [ln_64, ln_62, not_true_eq_false, not_false_eq_true, Classical.not_not, ofn, b_z, b_nz, b_z', b_nz', mv_rd, mv_rn, mv_ld, mv_ln_, lit, nI_add, pk_mul, nI_clamp]; exact vp_in_nI (by omega) (by omega)) | (exact vp_in_nI (by omega) (by omega)))⟩) ?_)
          | (refine And.intro (show ¬ (_ : Int32) = 0 by decide) ?_)
          | (refine ⟨_, rfl, ?_⟩)
          | (refine And.intro (show (none : Option Value) = none from rfl) ?_)
          | (refine Or.inl ⟨rfl, ?_⟩)
          | (refine Or.inr ⟨_, rfl, ?_⟩)
          | (refine dt (by (first | assumption | omega | ((try simp (disch := omega) only [not_true_eq_false, not_false_eq_true, Classical.not_not, ofn, b_z, b_nz, b_z', b_nz', mv_rd, mv_rn, mv_ld, mv_ln_, lit, nI_add, pk_mul, nI_clamp]); (try simp (disch := omega) only [fa_lt, fa_le, fa_eq, nI_toInt, pk_sub_toInt, nI_m1, nI_m1', not_false_eq_true, true_and, and_true]); first | done | omega))) ?_)
          | (refine df (by (first | assumption | omega | ((try simp (disch := omega) only [not_true_eq_false, not_false_eq_true, Classical.not_not, ofn, b_z, b_nz, b_z', b_nz', mv_rd, mv_rn, mv_ld, mv_ln_, lit, nI_add, pk_mul, nI_clamp]); (try simp (disch := omega) only [fa_lt, fa_le, fa_eq, nI_toInt, pk_sub_toInt, nI_m1, nI_m1', not_false_eq_true, true_and, and_true]); first | done | omega))) ?_)
          | (refine dt' (by (first | assumption | omega | ((try simp (disch := omega) only [not_true_eq_false, not_false_eq_true, Classical.not_not, ofn, b_z, b_nz, b_z', b_nz', mv_rd, mv_rn, mv_ld, mv_ln_, lit, nI_add, pk_mul, nI_clamp]); (try simp (disch := omega) only [fa_lt, fa_le, fa_eq, nI_toInt, pk_sub_toInt, nI_m1, nI_m1', not_false_eq_true, true_and, and_true]); first | done | omega))) ?_)
          | (refine df' (by (first | assumption | omega | ((try simp (disch := omega) only [not_true_eq_false, not_false_eq_true, Classical.not_not, ofn, b_z, b_nz, b_z', b_nz', mv_rd, mv_rn, mv_ld, mv_ln_, lit, nI_add, pk_mul, nI_clamp]); (try simp (disch := omega) only [fa_lt, fa_le, fa_eq, nI_toInt, pk_sub_toInt, nI_m1, nI_m1', not_false_eq_true, true_and, and_true]); first | done | omega))) ?_)
          )
      exact hQ
    | succ r ih =>
      intro k hk
      refine h_Words_howMany_4 ?_
      repeat (first
          | (refine And.intro (show mv_sh _ = _ from rfl) ?_)
          | (refine And.intro (show mv_sh _ = _ by assumption) ?_)
          | (refine And.intro (show _ ≤ mv_sh _ from Nat.le_of_ble_eq_true rfl) ?_)
          | (refine And.intro (show _ ≤ mv_sh _ ∧ vp_in _ _ from ⟨Nat.le_of_ble_eq_true rfl, by (first | (simp (disch := omega) only [ln_64, ln_62, not_true_eq_false, not_false_eq_true, Classical.not_not, ofn, b_z, b_nz, b_z', b_nz', mv_rd, mv_rn, mv_ld, mv_ln_, lit, nI_add, pk_mul, nI_clamp]; exact vp_in_nI (by omega) (by omega)) | (exact vp_in_nI (by omega) (by omega)))⟩) ?_)
          | (refine And.intro (show (_ : Int32) = 0 ∨ (_ : Int32) = 1 from by first | exact Or.inl rfl | exact Or.inr rfl | exact bI_01 _) ?_)
          | (refine And.intro (show mv_sh _ = _ ∧ vp_in _ _ from ⟨rfl, by (first | (simp (disch := omega) only [ln_64, ln_62, not_true_eq_false, not_false_eq_true, Classical.not_not, ofn, b_z, b_nz, b_z', b_nz', mv_rd, mv_rn, mv_ld, mv_ln_, lit, nI_add, pk_mul, nI_clamp]; exact vp_in_nI (by omega) (by omega)) | (exact vp_in_nI (by omega) (by omega)))⟩) ?_)
          | (refine And.intro (show mv_sh _ = _ ∧ vp_in _ _ from ⟨by assumption, by (first | (simp (disch := omega) only [ln_64, ln_62, not_true_eq_false, not_false_eq_true, Classical.not_not, ofn, b_z, b_nz, b_z', b_nz', mv_rd, mv_rn, mv_ld, mv_ln_, lit, nI_add, pk_mul, nI_clamp]; exact vp_in_nI (by omega) (by omega)) | (exact vp_in_nI (by omega) (by omega)))⟩) ?_)
          | (refine And.intro (show ¬ (_ : Int32) = 0 by decide) ?_)
          | (refine ⟨_, rfl, ?_⟩)
          | (refine And.intro (show (none : Option Value) = none from rfl) ?_)
          | (refine Or.inl ⟨rfl, ?_⟩)
          | (refine Or.inr ⟨_, rfl, ?_⟩)
          | (refine dt (by (first | assumption | omega | ((try simp (disch := omega) only [not_true_eq_false, not_false_eq_true, Classical.not_not, ofn, b_z, b_nz, b_z', b_nz', mv_rd, mv_rn, mv_ld, mv_ln_, lit, nI_add, pk_mul, nI_clamp]); (try simp (disch := omega) only [fa_lt, fa_le, fa_eq, nI_toInt, pk_sub_toInt, nI_m1, nI_m1', not_false_eq_true, true_and, and_true]); first | done | omega))) ?_)
          | (refine df (by (first | assumption | omega | ((try simp (disch := omega) only [not_true_eq_false, not_false_eq_true, Classical.not_not, ofn, b_z, b_nz, b_z', b_nz', mv_rd, mv_rn, mv_ld, mv_ln_, lit, nI_add, pk_mul, nI_clamp]); (try simp (disch := omega) only [fa_lt, fa_le, fa_eq, nI_toInt, pk_sub_toInt, nI_m1, nI_m1', not_false_eq_true, true_and, and_true]); first | done | omega))) ?_)
          | (refine dt' (by (first | assumption | omega | ((try simp (disch := omega) only [not_true_eq_false, not_false_eq_true, Classical.not_not, ofn, b_z, b_nz, b_z', b_nz', mv_rd, mv_rn, mv_ld, mv_ln_, lit, nI_add, pk_mul, nI_clamp]); (try simp (disch := omega) only [fa_lt, fa_le, fa_eq, nI_toInt, pk_sub_toInt, nI_m1, nI_m1', not_false_eq_true, true_and, and_true]); first | done | omega))) ?_)
          | (refine df' (by (first | assumption | omega | ((try simp (disch := omega) only [not_true_eq_false, not_false_eq_true, Classical.not_not, ofn, b_z, b_nz, b_z', b_nz', mv_rd, mv_rn, mv_ld, mv_ln_, lit, nI_add, pk_mul, nI_clamp]); (try simp (disch := omega) only [fa_lt, fa_le, fa_eq, nI_toInt, pk_sub_toInt, nI_m1, nI_m1', not_false_eq_true, true_and, and_true]); first | done | omega))) ?_)
          )
      rw [show (3 : Int32) = nI 3 from rfl, pk_mul, nI_1, ← Nat.pow_succ]
      exact ih (k + 1) (by omega)
  exact w_Words_howMany (loop n 0 (by omega))
theorem s_first {n : Nat} (hQ : ∀ τ, cw τ (wl n 0) → fr1 10 σ τ → τ.2 = σ.2 → Q none τ) : mv_wp X (d + 1) 4 [.ref 10, .int (nI n)] σ Q := by
  refine (w_Words_first _ _ _ _ _).mpr ⟨rfl, rfl, hQ _ ⟨?_, ?_⟩ (fun c j hc => ?_) rfl⟩
  · rw [mv_rn (by omega), mv_rd, wb_wl, bb_0]; rfl
  · rw [mv_rd, wl_len]
  · rw [mv_rn (by omega), mv_rn (by omega)]
theorem r_beginsWords {n : Nat} (hn : n ≤ 9) (hQ : ∀ τ, rwd τ (wl n 0) → frW σ τ → Q none τ) : mv_wp X (d + 1) 159 [.ref 61, .int (nI n)] σ Q := by
  have loop : ∀ r k (τ : mv_S), k + r = n → τ.1 61 6 = nI n → (∀ i, i < k → τ.1 64 i = 0) → frW σ τ → mv_wf X (mv_wp X d) m_Ref_beginsWords Q 7 [.ref 61, .int (nI n), .int (nI k)] [] τ := by
    intro r
    induction r with
    | zero =>
      intro k τ hk h6 hl hf
      refine h_Ref_beginsWords_7 ?_
      repeat (first
          | (refine And.intro (show mv_sh _ = _ from rfl) ?_)
          | (refine And.intro (show mv_sh _ = _ by assumption) ?_)
          | (refine And.intro (show _ ≤ mv_sh _ from Nat.le_of_ble_eq_true rfl) ?_)
          | (refine And.intro (show _ ≤ mv_sh _ ∧ vp_in _ _ from ⟨Nat.le_of_ble_eq_true rfl, by (first | (simp (disch := omega) only [ln_64, ln_62, not_true_eq_false, not_false_eq_true, Classical.not_not, ofn, b_z, b_nz, b_z', b_nz', mv_rd, mv_rn, mv_ld, mv_ln_, lit, nI_add, pk_mul, nI_clamp]; exact vp_in_nI (by omega) (by omega)) | (exact vp_in_nI (by omega) (by omega)))⟩) ?_)
          | (refine And.intro (show (_ : Int32) = 0 ∨ (_ : Int32) = 1 from by first | exact Or.inl rfl | exact Or.inr rfl | exact bI_01 _) ?_)
          | (refine And.intro (show mv_sh _ = _ ∧ vp_in _ _ from ⟨rfl, by (first | (simp (disch := omega) only [ln_64, ln_62, not_true_eq_false, not_false_eq_true, Classical.not_not, ofn, b_z, b_nz, b_z', b_nz', mv_rd, mv_rn, mv_ld, mv_ln_, lit, nI_add, pk_mul, nI_clamp]; exact vp_in_nI (by omega) (by omega)) | (exact vp_in_nI (by omega) (by omega)))⟩) ?_)
          | (refine And.intro (show mv_sh _ = _ ∧ vp_in _ _ from ⟨by assumption, by (first | (simp (disch := omega) only [ln_64, ln_62, not_true_eq_false, not_false_eq_true, Classical.not_not, ofn, b_z, b_nz, b_z', b_nz', mv_rd, mv_rn, mv_ld, mv_ln_, lit, nI_add, pk_mul, nI_clamp]; exact vp_in_nI (by omega) (by omega)) | (exact vp_in_nI (by omega) (by omega)))⟩) ?_)
          | (refine And.intro (show ¬ (_ : Int32) = 0 by decide) ?_)
          | (refine ⟨_, rfl, ?_⟩)
          | (refine And.intro (show (none : Option Value) = none from rfl) ?_)
          | (refine Or.inl ⟨rfl, ?_⟩)
          | (refine Or.inr ⟨_, rfl, ?_⟩)
          | (refine dt (by (first | assumption | omega | ((try simp (disch := omega) only [not_true_eq_false, not_false_eq_true, Classical.not_not, ofn, b_z, b_nz, b_z', b_nz', mv_rd, mv_rn, mv_ld, mv_ln_, lit, nI_add, pk_mul, nI_clamp]); (try simp (disch := omega) only [fa_lt, fa_le, fa_eq, nI_toInt, pk_sub_toInt, nI_m1, nI_m1', not_false_eq_true, true_and, and_true]); first | done | omega))) ?_)
          | (refine df (by (first | assumption | omega | ((try simp (disch := omega) only [not_true_eq_false, not_false_eq_true, Classical.not_not, ofn, b_z, b_nz, b_z', b_nz', mv_rd, mv_rn, mv_ld, mv_ln_, lit, nI_add, pk_mul, nI_clamp]); (try simp (disch := omega) only [fa_lt, fa_le, fa_eq, nI_toInt, pk_sub_toInt, nI_m1, nI_m1', not_false_eq_true, true_and, and_true]); first | done | omega))) ?_)
          | (refine dt' (by (first | assumption | omega | ((try simp (disch := omega) only [not_true_eq_false, not_false_eq_true, Classical.not_not, ofn, b_z, b_nz, b_z', b_nz', mv_rd, mv_rn, mv_ld, mv_ln_, lit, nI_add, pk_mul, nI_clamp]); (try simp (disch := omega) only [fa_lt, fa_le, fa_eq, nI_toInt, pk_sub_toInt, nI_m1, nI_m1', not_false_eq_true, true_and, and_true]); first | done | omega))) ?_)
          | (refine df' (by (first | assumption | omega | ((try simp (disch := omega) only [not_true_eq_false, not_false_eq_true, Classical.not_not, ofn, b_z, b_nz, b_z', b_nz', mv_rd, mv_rn, mv_ld, mv_ln_, lit, nI_add, pk_mul, nI_clamp]); (try simp (disch := omega) only [fa_lt, fa_le, fa_eq, nI_toInt, pk_sub_toInt, nI_m1, nI_m1', not_false_eq_true, true_and, and_true]); first | done | omega))) ?_)
          )
      refine hQ τ ⟨by rw [wl_len]; exact h6, fun i hi => ?_⟩ hf
      rw [wl_len] at hi
      rw [hl i (by omega), wl_get n 0 i hi, Nat.zero_div]
      rfl
    | succ r ih =>
      intro k τ hk h6 hl hf
      refine h_Ref_beginsWords_7 ?_
      repeat (first
          | (refine And.intro (show mv_sh _ = _ from rfl) ?_)
          | (refine And.intro (show mv_sh _ = _ by assumption) ?_)
          | (refine And.intro (show _ ≤ mv_sh _ from Nat.le_of_ble_eq_true rfl) ?_)
          | (refine And.intro (show _ ≤ mv_sh _ ∧ vp_in _ _ from ⟨Nat.le_of_ble_eq_true rfl, by (first | (simp (disch := omega) only [ln_64, ln_62, not_true_eq_false, not_false_eq_true, Classical.not_not, ofn, b_z, b_nz, b_z', b_nz', mv_rd, mv_rn, mv_ld, mv_ln_, lit, nI_add, pk_mul, nI_clamp]; exact vp_in_nI (by omega) (by omega)) | (exact vp_in_nI (by omega) (by omega)))⟩) ?_)
          | (refine And.intro (show (_ : Int32) = 0 ∨ (_ : Int32) = 1 from by first | exact Or.inl rfl | exact Or.inr rfl | exact bI_01 _) ?_)
          | (refine And.intro (show mv_sh _ = _ ∧ vp_in _ _ from ⟨rfl, by (first | (simp (disch := omega) only [ln_64, ln_62, not_true_eq_false, not_false_eq_true, Classical.not_not, ofn, b_z, b_nz, b_z', b_nz', mv_rd, mv_rn, mv_ld, mv_ln_, lit, nI_add, pk_mul, nI_clamp]; exact vp_in_nI (by omega) (by omega)) | (exact vp_in_nI (by omega) (by omega)))⟩) ?_)
          | (refine And.intro (show mv_sh _ = _ ∧ vp_in _ _ from ⟨by assumption, by (first | (simp (disch := omega) only [ln_64, ln_62, not_true_eq_false, not_false_eq_true, Classical.not_not, ofn, b_z, b_nz, b_z', b_nz', mv_rd, mv_rn, mv_ld, mv_ln_, lit, nI_add, pk_mul, nI_clamp]; exact vp_in_nI (by omega) (by omega)) | (exact vp_in_nI (by omega) (by omega)))⟩) ?_)
          | (refine And.intro (show ¬ (_ : Int32) = 0 by decide) ?_)
          | (refine ⟨_, rfl, ?_⟩)
          | (refine And.intro (show (none : Option Value) = none from rfl) ?_)
          | (refine Or.inl ⟨rfl, ?_⟩)
          | (refine Or.inr ⟨_, rfl, ?_⟩)
          | (refine dt (by (first | assumption | omega | ((try simp (disch := omega) only [not_true_eq_false, not_false_eq_true, Classical.not_not, ofn, b_z, b_nz, b_z', b_nz', mv_rd, mv_rn, mv_ld, mv_ln_, lit, nI_add, pk_mul, nI_clamp]); (try simp (disch := omega) only [fa_lt, fa_le, fa_eq, nI_toInt, pk_sub_toInt, nI_m1, nI_m1', not_false_eq_true, true_and, and_true]); first | done | omega))) ?_)
          | (refine df (by (first | assumption | omega | ((try simp (disch := omega) only [not_true_eq_false, not_false_eq_true, Classical.not_not, ofn, b_z, b_nz, b_z', b_nz', mv_rd, mv_rn, mv_ld, mv_ln_, lit, nI_add, pk_mul, nI_clamp]); (try simp (disch := omega) only [fa_lt, fa_le, fa_eq, nI_toInt, pk_sub_toInt, nI_m1, nI_m1', not_false_eq_true, true_and, and_true]); first | done | omega))) ?_)
          | (refine dt' (by (first | assumption | omega | ((try simp (disch := omega) only [not_true_eq_false, not_false_eq_true, Classical.not_not, ofn, b_z, b_nz, b_z', b_nz', mv_rd, mv_rn, mv_ld, mv_ln_, lit, nI_add, pk_mul, nI_clamp]); (try simp (disch := omega) only [fa_lt, fa_le, fa_eq, nI_toInt, pk_sub_toInt, nI_m1, nI_m1', not_false_eq_true, true_and, and_true]); first | done | omega))) ?_)
          | (refine df' (by (first | assumption | omega | ((try simp (disch := omega) only [not_true_eq_false, not_false_eq_true, Classical.not_not, ofn, b_z, b_nz, b_z', b_nz', mv_rd, mv_rn, mv_ld, mv_ln_, lit, nI_add, pk_mul, nI_clamp]); (try simp (disch := omega) only [fa_lt, fa_le, fa_eq, nI_toInt, pk_sub_toInt, nI_m1, nI_m1', not_false_eq_true, true_and, and_true]); first | done | omega))) ?_)
          )
      rw [nI_1, nI_clamp (by omega)]
      refine ih (k + 1) _ (by omega) ?_ (fun i hi => ?_) ⟨fun c j q1 q2 => ?_, hf.2⟩
      · rw [mv_rn (by omega)]; exact h6
      · by_cases e : i = k
        · subst e; exact mv_rd
        · rw [mv_rn (by omega)]; exact hl i (by omega)
      · rw [mv_rn (by omega)]; exact hf.1 c j q1 q2
  refine w_Ref_beginsWords ⟨rfl, ?_⟩
  exact loop n 0 _ (by omega) mv_rd (fun i hi => absurd hi (Nat.not_lt_zero _)) ⟨fun c j q1 q2 => mv_rn q1, rfl⟩
theorem s_advance {n k : Nat} (hn : n ≤ 9) (hk : k < 3 ^ n) (hw : cw σ (wl n k)) (hQ : ∀ τ, (k + 1 < 3 ^ n → cw τ (wl n (k + 1))) → fr1 10 σ τ → τ.2 = σ.2 → Q none τ) : mv_wp X (d + 1) 5 [.ref 10] σ Q := by
  have loop : ∀ r j m (τ : mv_S), j + r = n → m < 3 ^ r → τ.1 10 0 = nI (4 ^ j * (bb r m + 1)) → τ.1 10 1 = nI n → fr1 10 σ τ → τ.2 = σ.2 → (∀ τ : mv_S, (m + 1 < 3 ^ r → τ.1 10 0 = nI (4 ^ j * bb r (m + 1))) → τ.1 10 1 = nI n → fr1 10 σ τ → τ.2 = σ.2 → Q none τ) → mv_wf X (mv_wp X d) m_Words_advance Q 12 [.ref 10, .int (nI j)] [] τ := by
    intro r
    induction r with
    | zero =>
      intro j m τ hj hm h0 h1 hf h2 g
      refine h_Words_advance_12 ?_
      repeat (first
          | (refine And.intro (show mv_sh _ = _ from rfl) ?_)
          | (refine And.intro (show mv_sh _ = _ by assumption) ?_)
          | (refine And.intro (show _ ≤ mv_sh _ from Nat.le_of_ble_eq_true rfl) ?_)
          | (refine And.intro (show _ ≤ mv_sh _ ∧ vp_in _ _ from ⟨Nat.le_of_ble_eq_true rfl, by (first | (simp (disch := omega) only [ln_64, ln_62, not_true_eq_false, not_false_eq_true, Classical.not_not, ofn, b_z, b_nz, b_z', b_nz', mv_rd, mv_rn, mv_ld, mv_ln_, lit, nI_add, pk_mul, nI_clamp, h1]; exact vp_in_nI (by omega) (by omega)) | (exact vp_in_nI (by omega) (by omega)))⟩) ?_)
          | (refine And.intro (show (_ : Int32) = 0 ∨ (_ : Int32) = 1 from by first | exact Or.inl rfl | exact Or.inr rfl | exact bI_01 _) ?_)
          | (refine And.intro (show mv_sh _ = _ ∧ vp_in _ _ from ⟨rfl, by (first | (simp (disch := omega) only [ln_64, ln_62, not_true_eq_false, not_false_eq_true, Classical.not_not, ofn, b_z, b_nz, b_z', b_nz', mv_rd, mv_rn, mv_ld, mv_ln_, lit, nI_add, pk_mul, nI_clamp, h1]; exact vp_in_nI (by omega) (by omega)) | (exact vp_in_nI (by omega) (by omega)))⟩) ?_)
          | (refine And.intro (show mv_sh _ = _ ∧ vp_in _ _ from ⟨by assumption, by (first | (simp (disch := omega) only [ln_64, ln_62, not_true_eq_false, not_false_eq_true, Classical.not_not, ofn, b_z, b_nz, b_z', b_nz', mv_rd, mv_rn, mv_ld, mv_ln_, lit, nI_add, pk_mul, nI_clamp, h1]; exact vp_in_nI (by omega) (by omega)) | (exact vp_in_nI (by omega) (by omega)))⟩) ?_)
          | (refine And.intro (show ¬ (_ : Int32) = 0 by decide) ?_)
          | (refine ⟨_, rfl, ?_⟩)
          | (refine And.intro (show (none : Option Value) = none from rfl) ?_)
          | (refine Or.inl ⟨rfl, ?_⟩)
          | (refine Or.inr ⟨_, rfl, ?_⟩)
          | (refine dt (by (first | assumption | omega | ((try simp (disch := omega) only [not_true_eq_false, not_false_eq_true, Classical.not_not, ofn, b_z, b_nz, b_z', b_nz', mv_rd, mv_rn, mv_ld, mv_ln_, lit, nI_add, pk_mul, nI_clamp, h1]); (try simp (disch := omega) only [fa_lt, fa_le, fa_eq, nI_toInt, pk_sub_toInt, nI_m1, nI_m1', not_false_eq_true, true_and, and_true, h1]); first | done | omega))) ?_)
          | (refine df (by (first | assumption | omega | ((try simp (disch := omega) only [not_true_eq_false, not_false_eq_true, Classical.not_not, ofn, b_z, b_nz, b_z', b_nz', mv_rd, mv_rn, mv_ld, mv_ln_, lit, nI_add, pk_mul, nI_clamp, h1]); (try simp (disch := omega) only [fa_lt, fa_le, fa_eq, nI_toInt, pk_sub_toInt, nI_m1, nI_m1', not_false_eq_true, true_and, and_true, h1]); first | done | omega))) ?_)
          | (refine dt' (by (first | assumption | omega | ((try simp (disch := omega) only [not_true_eq_false, not_false_eq_true, Classical.not_not, ofn, b_z, b_nz, b_z', b_nz', mv_rd, mv_rn, mv_ld, mv_ln_, lit, nI_add, pk_mul, nI_clamp, h1]); (try simp (disch := omega) only [fa_lt, fa_le, fa_eq, nI_toInt, pk_sub_toInt, nI_m1, nI_m1', not_false_eq_true, true_and, and_true, h1]); first | done | omega))) ?_)
          | (refine df' (by (first | assumption | omega | ((try simp (disch := omega) only [not_true_eq_false, not_false_eq_true, Classical.not_not, ofn, b_z, b_nz, b_z', b_nz', mv_rd, mv_rn, mv_ld, mv_ln_, lit, nI_add, pk_mul, nI_clamp, h1]); (try simp (disch := omega) only [fa_lt, fa_le, fa_eq, nI_toInt, pk_sub_toInt, nI_m1, nI_m1', not_false_eq_true, true_and, and_true, h1]); first | done | omega))) ?_)
          )
      exact g τ (fun z => absurd z (by rw [Nat.pow_zero]; omega)) h1 hf h2
    | succ r ih =>
      intro j m τ hj hm h0 h1 hf h2 g
      have hb : bb (r + 1) m = m % 3 + 4 * bb r (m / 3) := rfl
      have hbl := bb_lt (r + 1) m
      have h4 : 4 ^ j * (bb (r + 1) m + 1) ≤ 4 ^ 9 := by
        refine Nat.le_trans (Nat.mul_le_mul_left _ hbl) ?_
        rw [← Nat.pow_add]
        exact Nat.pow_le_pow_right (by decide) (by omega)
      have hj4 : 0 < 4 ^ j := Nat.pow_pos (by decide)
      have hp3 : (3 : Nat) ^ (r + 1) = 3 ^ r * 3 := by rw [Nat.pow_succ]
      refine h_Words_advance_12 ?_
      rw [h0, show (2 : Int32) = nI 2 from rfl, pk_mul, q_shr (by omega) (by omega), q_and3, p24, Nat.mul_div_cancel_left _ hj4]
      by_cases e : m % 3 = 2
      · have e4 : (bb (r + 1) m + 1) % 4 = 3 := by omega
        rw [e4]
        repeat (first
            | (refine And.intro (show mv_sh _ = _ from rfl) ?_)
            | (refine And.intro (show mv_sh _ = _ by assumption) ?_)
            | (refine And.intro (show _ ≤ mv_sh _ from Nat.le_of_ble_eq_true rfl) ?_)
            | (refine And.intro (show _ ≤ mv_sh _ ∧ vp_in _ _ from ⟨Nat.le_of_ble_eq_true rfl, by (first | (simp (disch := omega) only [ln_64, ln_62, not_true_eq_false, not_false_eq_true, Classical.not_not, ofn, b_z, b_nz, b_z', b_nz', mv_rd, mv_rn, mv_ld, mv_ln_, lit, nI_add, pk_mul, nI_clamp, h1]; exact vp_in_nI (by omega) (by omega)) | (exact vp_in_nI (by omega) (by omega)))⟩) ?_)
            | (refine And.intro (show (_ : Int32) = 0 ∨ (_ : Int32) = 1 from by first | exact Or.inl rfl | exact Or.inr rfl | exact bI_01 _) ?_)
            | (refine And.intro (show mv_sh _ = _ ∧ vp_in _ _ from ⟨rfl, by (first | (simp (disch := omega) only [ln_64, ln_62, not_true_eq_false, not_false_eq_true, Classical.not_not, ofn, b_z, b_nz, b_z', b_nz', mv_rd, mv_rn, mv_ld, mv_ln_, lit, nI_add, pk_mul, nI_clamp, h1]; exact vp_in_nI (by omega) (by omega)) | (exact vp_in_nI (by omega) (by omega)))⟩) ?_)
            | (refine And.intro (show mv_sh _ = _ ∧ vp_in _ _ from ⟨by assumption, by (first | (simp (disch := omega) only [ln_64, ln_62, not_true_eq_false, not_false_eq_true, Classical.not_not, ofn, b_z, b_nz, b_z', b_nz', mv_rd, mv_rn, mv_ld, mv_ln_, lit, nI_add, pk_mul, nI_clamp, h1]; exact vp_in_nI (by omega) (by omega)) | (exact vp_in_nI (by omega) (by omega)))⟩) ?_)
            | (refine And.intro (show ¬ (_ : Int32) = 0 by decide) ?_)
            | (refine ⟨_, rfl, ?_⟩)
            | (refine And.intro (show (none : Option Value) = none from rfl) ?_)
            | (refine Or.inl ⟨rfl, ?_⟩)
            | (refine Or.inr ⟨_, rfl, ?_⟩)
            | (refine dt (by (first | assumption | omega | ((try simp (disch := omega) only [not_true_eq_false, not_false_eq_true, Classical.not_not, ofn, b_z, b_nz, b_z', b_nz', mv_rd, mv_rn, mv_ld, mv_ln_, lit, nI_add, pk_mul, nI_clamp, h1]); (try simp (disch := omega) only [fa_lt, fa_le, fa_eq, nI_toInt, pk_sub_toInt, nI_m1, nI_m1', not_false_eq_true, true_and, and_true, h1]); first | done | omega))) ?_)
            | (refine df (by (first | assumption | omega | ((try simp (disch := omega) only [not_true_eq_false, not_false_eq_true, Classical.not_not, ofn, b_z, b_nz, b_z', b_nz', mv_rd, mv_rn, mv_ld, mv_ln_, lit, nI_add, pk_mul, nI_clamp, h1]); (try simp (disch := omega) only [fa_lt, fa_le, fa_eq, nI_toInt, pk_sub_toInt, nI_m1, nI_m1', not_false_eq_true, true_and, and_true, h1]); first | done | omega))) ?_)
            | (refine dt' (by (first | assumption | omega | ((try simp (disch := omega) only [not_true_eq_false, not_false_eq_true, Classical.not_not, ofn, b_z, b_nz, b_z', b_nz', mv_rd, mv_rn, mv_ld, mv_ln_, lit, nI_add, pk_mul, nI_clamp, h1]); (try simp (disch := omega) only [fa_lt, fa_le, fa_eq, nI_toInt, pk_sub_toInt, nI_m1, nI_m1', not_false_eq_true, true_and, and_true, h1]); first | done | omega))) ?_)
            | (refine df' (by (first | assumption | omega | ((try simp (disch := omega) only [not_true_eq_false, not_false_eq_true, Classical.not_not, ofn, b_z, b_nz, b_z', b_nz', mv_rd, mv_rn, mv_ld, mv_ln_, lit, nI_add, pk_mul, nI_clamp, h1]); (try simp (disch := omega) only [fa_lt, fa_le, fa_eq, nI_toInt, pk_sub_toInt, nI_m1, nI_m1', not_false_eq_true, true_and, and_true, h1]); first | done | omega))) ?_)
            )
        have hj10 : (4 : Nat) ^ j ≤ 4 ^ 9 := Nat.pow_le_pow_right (by decide) (by omega)
        rw [show (1 : Int32) = nI 1 from rfl, q_shl (by omega) (by rw [p24]; omega), p24, Nat.one_mul, nI_add, nI_add]
        refine ih (j + 1) (m / 3) _ (by omega) (by omega) ?_ ?_ (fun c i hc => ?_) h2 (fun τ' g0 => g τ' (fun z => ?_))
        · rw [mv_rd, Nat.pow_succ, hb, e, Nat.mul_assoc]
          congr 1
          rw [← Nat.mul_succ]
          congr 1
          omega
        · rw [mv_rn (by omega)]; exact h1
        · rw [mv_rn (by omega)]; exact hf c i hc
        · rw [g0 (by omega), Nat.pow_succ, Nat.mul_assoc]
          congr 2
          show 4 * bb r (m / 3 + 1) = (m + 1) % 3 + 4 * bb r ((m + 1) / 3)
          rw [show (m + 1) / 3 = m / 3 + 1 by omega]
          omega
      · have e4 : ¬ (bb (r + 1) m + 1) % 4 = 3 := by omega
        repeat (first
            | (refine And.intro (show mv_sh _ = _ from rfl) ?_)
            | (refine And.intro (show mv_sh _ = _ by assumption) ?_)
            | (refine And.intro (show _ ≤ mv_sh _ from Nat.le_of_ble_eq_true rfl) ?_)
            | (refine And.intro (show _ ≤ mv_sh _ ∧ vp_in _ _ from ⟨Nat.le_of_ble_eq_true rfl, by (first | (simp (disch := omega) only [ln_64, ln_62, not_true_eq_false, not_false_eq_true, Classical.not_not, ofn, b_z, b_nz, b_z', b_nz', mv_rd, mv_rn, mv_ld, mv_ln_, lit, nI_add, pk_mul, nI_clamp, h1]; exact vp_in_nI (by omega) (by omega)) | (exact vp_in_nI (by omega) (by omega)))⟩) ?_)
            | (refine And.intro (show (_ : Int32) = 0 ∨ (_ : Int32) = 1 from by first | exact Or.inl rfl | exact Or.inr rfl | exact bI_01 _) ?_)
            | (refine And.intro (show mv_sh _ = _ ∧ vp_in _ _ from ⟨rfl, by (first | (simp (disch := omega) only [ln_64, ln_62, not_true_eq_false, not_false_eq_true, Classical.not_not, ofn, b_z, b_nz, b_z', b_nz', mv_rd, mv_rn, mv_ld, mv_ln_, lit, nI_add, pk_mul, nI_clamp, h1]; exact vp_in_nI (by omega) (by omega)) | (exact vp_in_nI (by omega) (by omega)))⟩) ?_)
            | (refine And.intro (show mv_sh _ = _ ∧ vp_in _ _ from ⟨by assumption, by (first | (simp (disch := omega) only [ln_64, ln_62, not_true_eq_false, not_false_eq_true, Classical.not_not, ofn, b_z, b_nz, b_z', b_nz', mv_rd, mv_rn, mv_ld, mv_ln_, lit, nI_add, pk_mul, nI_clamp, h1]; exact vp_in_nI (by omega) (by omega)) | (exact vp_in_nI (by omega) (by omega)))⟩) ?_)
            | (refine And.intro (show ¬ (_ : Int32) = 0 by decide) ?_)
            | (refine ⟨_, rfl, ?_⟩)
            | (refine And.intro (show (none : Option Value) = none from rfl) ?_)
            | (refine Or.inl ⟨rfl, ?_⟩)
            | (refine Or.inr ⟨_, rfl, ?_⟩)
            | (refine dt (by (first | assumption | omega | ((try simp (disch := omega) only [not_true_eq_false, not_false_eq_true, Classical.not_not, ofn, b_z, b_nz, b_z', b_nz', mv_rd, mv_rn, mv_ld, mv_ln_, lit, nI_add, pk_mul, nI_clamp, h1]); (try simp (disch := omega) only [fa_lt, fa_le, fa_eq, nI_toInt, pk_sub_toInt, nI_m1, nI_m1', not_false_eq_true, true_and, and_true, h1]); first | done | omega))) ?_)
            | (refine df (by (first | assumption | omega | ((try simp (disch := omega) only [not_true_eq_false, not_false_eq_true, Classical.not_not, ofn, b_z, b_nz, b_z', b_nz', mv_rd, mv_rn, mv_ld, mv_ln_, lit, nI_add, pk_mul, nI_clamp, h1]); (try simp (disch := omega) only [fa_lt, fa_le, fa_eq, nI_toInt, pk_sub_toInt, nI_m1, nI_m1', not_false_eq_true, true_and, and_true, h1]); first | done | omega))) ?_)
            | (refine dt' (by (first | assumption | omega | ((try simp (disch := omega) only [not_true_eq_false, not_false_eq_true, Classical.not_not, ofn, b_z, b_nz, b_z', b_nz', mv_rd, mv_rn, mv_ld, mv_ln_, lit, nI_add, pk_mul, nI_clamp, h1]); (try simp (disch := omega) only [fa_lt, fa_le, fa_eq, nI_toInt, pk_sub_toInt, nI_m1, nI_m1', not_false_eq_true, true_and, and_true, h1]); first | done | omega))) ?_)
            | (refine df' (by (first | assumption | omega | ((try simp (disch := omega) only [not_true_eq_false, not_false_eq_true, Classical.not_not, ofn, b_z, b_nz, b_z', b_nz', mv_rd, mv_rn, mv_ld, mv_ln_, lit, nI_add, pk_mul, nI_clamp, h1]); (try simp (disch := omega) only [fa_lt, fa_le, fa_eq, nI_toInt, pk_sub_toInt, nI_m1, nI_m1', not_false_eq_true, true_and, and_true, h1]); first | done | omega))) ?_)
            )
        refine g τ (fun z => ?_) h1 hf h2
        rw [h0]
        congr 2
        show bb (r + 1) m + 1 = (m + 1) % 3 + 4 * bb r ((m + 1) / 3)
        rw [show (m + 1) / 3 = m / 3 by omega]
        omega
  refine w_Words_advance ⟨rfl, rfl, ?_⟩
  have hw0 := hw.1
  have hw1 := hw.2
  rw [wb_wl] at hw0
  rw [wl_len] at hw1
  rw [hw0, nI_1]
  refine loop n 0 k _ (by omega) hk ?_ ?_ (fun c i hc => ?_) rfl (fun τ g0 g1 g2 g3 => hQ τ (fun z => ⟨?_, by rw [wl_len]; exact g1⟩) g2 g3)
  · rw [mv_rd, Nat.pow_zero, Nat.one_mul]
  · rw [mv_rn (by omega)]; exact hw1
  · rw [mv_rn (by omega)]
  · rw [wb_wl, g0 z, Nat.pow_zero, Nat.one_mul]
theorem r_goesToNext {n k : Nat} (hn : n ≤ 9) (hk : k < 3 ^ n) (hw : rwd σ (wl n k)) (h1 : k + 1 < 3 ^ n → ∀ τ, rwd τ (wl n (k + 1)) → frW σ τ → Q (some (.int 1)) τ) (h0 : ¬ k + 1 < 3 ^ n → ∀ τ, frW σ τ → Q (some (.int 0)) τ) : mv_wp X (d + 1) 158 [.ref 61] σ Q := by
  have hw0 := hw.1
  rw [wl_len] at hw0
  have loop : ∀ r j m (τ : mv_S), j + r = n → k + 1 = (m + 1) * 3 ^ j → (∀ i, i < n → τ.1 64 i = nI (if i < r then k / 3 ^ (n - 1 - i) % 3 else 0)) → τ.1 61 6 = nI n → frW σ τ → mv_wf X (mv_wp X d) m_Ref_goesToNext Q 7 [.ref 61, .int (nI r - 1)] [] τ := by
    intro r
    induction r with
    | zero =>
      intro j m τ hj hm hl h6 hf
      refine h_Ref_goesToNext_7 ?_
      rw [show nI 0 - 1 = (-1 : Int32) by decide]
      repeat (first
          | (refine And.intro (show mv_sh _ = _ from rfl) ?_)
          | (refine And.intro (show mv_sh _ = _ by assumption) ?_)
          | (refine And.intro (show _ ≤ mv_sh _ from Nat.le_of_ble_eq_true rfl) ?_)
          | (refine And.intro (show _ ≤ mv_sh _ ∧ vp_in _ _ from ⟨Nat.le_of_ble_eq_true rfl, by (first | (simp (disch := omega) only [ln_64, ln_62, not_true_eq_false, not_false_eq_true, Classical.not_not, ofn, b_z, b_nz, b_z', b_nz', mv_rd, mv_rn, mv_ld, mv_ln_, lit, nI_add, pk_mul, nI_clamp]; exact vp_in_nI (by omega) (by omega)) | (exact vp_in_nI (by omega) (by omega)))⟩) ?_)
          | (refine And.intro (show (_ : Int32) = 0 ∨ (_ : Int32) = 1 from by first | exact Or.inl rfl | exact Or.inr rfl | exact bI_01 _) ?_)
          | (refine And.intro (show mv_sh _ = _ ∧ vp_in _ _ from ⟨rfl, by (first | (simp (disch := omega) only [ln_64, ln_62, not_true_eq_false, not_false_eq_true, Classical.not_not, ofn, b_z, b_nz, b_z', b_nz', mv_rd, mv_rn, mv_ld, mv_ln_, lit, nI_add, pk_mul, nI_clamp]; exact vp_in_nI (by omega) (by omega)) | (exact vp_in_nI (by omega) (by omega)))⟩) ?_)
          | (refine And.intro (show mv_sh _ = _ ∧ vp_in _ _ from ⟨by assumption, by (first | (simp (disch := omega) only [ln_64, ln_62, not_true_eq_false, not_false_eq_true, Classical.not_not, ofn, b_z, b_nz, b_z', b_nz', mv_rd, mv_rn, mv_ld, mv_ln_, lit, nI_add, pk_mul, nI_clamp]; exact vp_in_nI (by omega) (by omega)) | (exact vp_in_nI (by omega) (by omega)))⟩) ?_)
          | (refine And.intro (show ¬ (_ : Int32) = 0 by decide) ?_)
          | (refine ⟨_, rfl, ?_⟩)
          | (refine And.intro (show (none : Option Value) = none from rfl) ?_)
          | (refine Or.inl ⟨rfl, ?_⟩)
          | (refine Or.inr ⟨_, rfl, ?_⟩)
          | (refine dt (by (first | assumption | omega | ((try simp (disch := omega) only [not_true_eq_false, not_false_eq_true, Classical.not_not, ofn, b_z, b_nz, b_z', b_nz', mv_rd, mv_rn, mv_ld, mv_ln_, lit, nI_add, pk_mul, nI_clamp]); (try simp (disch := omega) only [fa_lt, fa_le, fa_eq, nI_toInt, pk_sub_toInt, nI_m1, nI_m1', not_false_eq_true, true_and, and_true]); first | done | omega))) ?_)
          | (refine df (by (first | assumption | omega | ((try simp (disch := omega) only [not_true_eq_false, not_false_eq_true, Classical.not_not, ofn, b_z, b_nz, b_z', b_nz', mv_rd, mv_rn, mv_ld, mv_ln_, lit, nI_add, pk_mul, nI_clamp]); (try simp (disch := omega) only [fa_lt, fa_le, fa_eq, nI_toInt, pk_sub_toInt, nI_m1, nI_m1', not_false_eq_true, true_and, and_true]); first | done | omega))) ?_)
          | (refine dt' (by (first | assumption | omega | ((try simp (disch := omega) only [not_true_eq_false, not_false_eq_true, Classical.not_not, ofn, b_z, b_nz, b_z', b_nz', mv_rd, mv_rn, mv_ld, mv_ln_, lit, nI_add, pk_mul, nI_clamp]); (try simp (disch := omega) only [fa_lt, fa_le, fa_eq, nI_toInt, pk_sub_toInt, nI_m1, nI_m1', not_false_eq_true, true_and, and_true]); first | done | omega))) ?_)
          | (refine df' (by (first | assumption | omega | ((try simp (disch := omega) only [not_true_eq_false, not_false_eq_true, Classical.not_not, ofn, b_z, b_nz, b_z', b_nz', mv_rd, mv_rn, mv_ld, mv_ln_, lit, nI_add, pk_mul, nI_clamp]); (try simp (disch := omega) only [fa_lt, fa_le, fa_eq, nI_toInt, pk_sub_toInt, nI_m1, nI_m1', not_false_eq_true, true_and, and_true]); first | done | omega))) ?_)
          )
      refine h0 (fun z => ?_) τ hf
      rw [hm, show j = n by omega] at z
      have : 1 * 3 ^ n ≤ (m + 1) * 3 ^ n := Nat.mul_le_mul_right _ (by omega)
      omega
    | succ r ih =>
      intro j m τ hj hm hl h6 hf
      have hj3 : 0 < 3 ^ j := Nat.pow_pos (by decide)
      have hkj : k / 3 ^ j = m := by
        refine Nat.div_eq_of_lt_le ?_ ?_
        · rw [Nat.add_mul, Nat.one_mul] at hm; omega
        · omega
      have hkj1 : (k + 1) / 3 ^ j = m + 1 := by rw [hm, Nat.mul_div_cancel _ hj3]
      have hd : τ.1 64 r = nI (m % 3) := by rw [hl r (by omega), if_pos (by omega), show n - 1 - r = j by omega, hkj]
      refine h_Ref_goesToNext_7 ?_
      rw [show nI (r + 1) - 1 = nI r from pk_sub (b := 1) (by omega), nI_clamp (by omega), hd]
      by_cases e : m % 3 = 2
      · repeat (first
            | (refine And.intro (show mv_sh _ = _ from rfl) ?_)
            | (refine And.intro (show mv_sh _ = _ by assumption) ?_)
            | (refine And.intro (show _ ≤ mv_sh _ from Nat.le_of_ble_eq_true rfl) ?_)
            | (refine And.intro (show _ ≤ mv_sh _ ∧ vp_in _ _ from ⟨Nat.le_of_ble_eq_true rfl, by (first | (simp (disch := omega) only [ln_64, ln_62, not_true_eq_false, not_false_eq_true, Classical.not_not, ofn, b_z, b_nz, b_z', b_nz', mv_rd, mv_rn, mv_ld, mv_ln_, lit, nI_add, pk_mul, nI_clamp]; exact vp_in_nI (by omega) (by omega)) | (exact vp_in_nI (by omega) (by omega)))⟩) ?_)
            | (refine And.intro (show (_ : Int32) = 0 ∨ (_ : Int32) = 1 from by first | exact Or.inl rfl | exact Or.inr rfl | exact bI_01 _) ?_)
            | (refine And.intro (show mv_sh _ = _ ∧ vp_in _ _ from ⟨rfl, by (first | (simp (disch := omega) only [ln_64, ln_62, not_true_eq_false, not_false_eq_true, Classical.not_not, ofn, b_z, b_nz, b_z', b_nz', mv_rd, mv_rn, mv_ld, mv_ln_, lit, nI_add, pk_mul, nI_clamp]; exact vp_in_nI (by omega) (by omega)) | (exact vp_in_nI (by omega) (by omega)))⟩) ?_)
            | (refine And.intro (show mv_sh _ = _ ∧ vp_in _ _ from ⟨by assumption, by (first | (simp (disch := omega) only [ln_64, ln_62, not_true_eq_false, not_false_eq_true, Classical.not_not, ofn, b_z, b_nz, b_z', b_nz', mv_rd, mv_rn, mv_ld, mv_ln_, lit, nI_add, pk_mul, nI_clamp]; exact vp_in_nI (by omega) (by omega)) | (exact vp_in_nI (by omega) (by omega)))⟩) ?_)
            | (refine And.intro (show ¬ (_ : Int32) = 0 by decide) ?_)
            | (refine ⟨_, rfl, ?_⟩)
            | (refine And.intro (show (none : Option Value) = none from rfl) ?_)
            | (refine Or.inl ⟨rfl, ?_⟩)
            | (refine Or.inr ⟨_, rfl, ?_⟩)
            | (refine dt (by (first | assumption | omega | ((try simp (disch := omega) only [not_true_eq_false, not_false_eq_true, Classical.not_not, ofn, b_z, b_nz, b_z', b_nz', mv_rd, mv_rn, mv_ld, mv_ln_, lit, nI_add, pk_mul, nI_clamp]); (try simp (disch := omega) only [fa_lt, fa_le, fa_eq, nI_toInt, pk_sub_toInt, nI_m1, nI_m1', not_false_eq_true, true_and, and_true]); first | done | omega))) ?_)
            | (refine df (by (first | assumption | omega | ((try simp (disch := omega) only [not_true_eq_false, not_false_eq_true, Classical.not_not, ofn, b_z, b_nz, b_z', b_nz', mv_rd, mv_rn, mv_ld, mv_ln_, lit, nI_add, pk_mul, nI_clamp]); (try simp (disch := omega) only [fa_lt, fa_le, fa_eq, nI_toInt, pk_sub_toInt, nI_m1, nI_m1', not_false_eq_true, true_and, and_true]); first | done | omega))) ?_)
            | (refine dt' (by (first | assumption | omega | ((try simp (disch := omega) only [not_true_eq_false, not_false_eq_true, Classical.not_not, ofn, b_z, b_nz, b_z', b_nz', mv_rd, mv_rn, mv_ld, mv_ln_, lit, nI_add, pk_mul, nI_clamp]); (try simp (disch := omega) only [fa_lt, fa_le, fa_eq, nI_toInt, pk_sub_toInt, nI_m1, nI_m1', not_false_eq_true, true_and, and_true]); first | done | omega))) ?_)
            | (refine df' (by (first | assumption | omega | ((try simp (disch := omega) only [not_true_eq_false, not_false_eq_true, Classical.not_not, ofn, b_z, b_nz, b_z', b_nz', mv_rd, mv_rn, mv_ld, mv_ln_, lit, nI_add, pk_mul, nI_clamp]); (try simp (disch := omega) only [fa_lt, fa_le, fa_eq, nI_toInt, pk_sub_toInt, nI_m1, nI_m1', not_false_eq_true, true_and, and_true]); first | done | omega))) ?_)
            )
        rw [show nI r + (-1) = nI r - 1 from (Int32.sub_eq_add_neg _ _).symm]
        refine ih (j + 1) (m / 3) _ (by omega) ?_ (fun i hi => ?_) ?_ ⟨fun c i q1 q2 => ?_, hf.2⟩
        · rw [hm, Nat.pow_succ, Nat.mul_comm (3 ^ j), ← Nat.mul_assoc]
          congr 1
          omega
        · by_cases ei : i = r
          · subst ei; rw [mv_rd, if_neg (by omega)]; rfl
          · rw [mv_rn (by omega), hl i hi]
            by_cases er : i < r
            · rw [if_pos (by omega), if_pos er]
            · rw [if_neg (by omega), if_neg er]
        · rw [mv_rn (by omega)]; exact h6
        · rw [mv_rn (by omega)]; exact hf.1 c i q1 q2
      · have hlt : k + 1 < 3 ^ n := by
          rcases Nat.lt_or_ge (k + 1) (3 ^ n) with z | z
          · exact z
          · exfalso
            have hz : k + 1 = 3 ^ n := by omega
            rw [hz, w3_pow (show j ≤ n by omega), Nat.mul_div_cancel_left _ hj3, show n - j = r + 1 by omega, Nat.pow_succ] at hkj1
            omega
        have hm3 : ¬ nI (m % 3) = 2 := by
          rw [show (2 : Int32) = nI 2 from rfl, nI_eq (by omega) (by omega)]
          exact e
        repeat (first
            | (refine And.intro (show mv_sh _ = _ from rfl) ?_)
            | (refine And.intro (show mv_sh _ = _ by assumption) ?_)
            | (refine And.intro (show _ ≤ mv_sh _ from Nat.le_of_ble_eq_true rfl) ?_)
            | (refine And.intro (show _ ≤ mv_sh _ ∧ vp_in _ _ from ⟨Nat.le_of_ble_eq_true rfl, by (first | (simp (disch := omega) only [ln_64, ln_62, not_true_eq_false, not_false_eq_true, Classical.not_not, ofn, b_z, b_nz, b_z', b_nz', mv_rd, mv_rn, mv_ld, mv_ln_, lit, nI_add, pk_mul, nI_clamp]; exact vp_in_nI (by omega) (by omega)) | (exact vp_in_nI (by omega) (by omega)))⟩) ?_)
            | (refine And.intro (show (_ : Int32) = 0 ∨ (_ : Int32) = 1 from by first | exact Or.inl rfl | exact Or.inr rfl | exact bI_01 _) ?_)
            | (refine And.intro (show mv_sh _ = _ ∧ vp_in _ _ from ⟨rfl, by (first | (simp (disch := omega) only [ln_64, ln_62, not_true_eq_false, not_false_eq_true, Classical.not_not, ofn, b_z, b_nz, b_z', b_nz', mv_rd, mv_rn, mv_ld, mv_ln_, lit, nI_add, pk_mul, nI_clamp]; exact vp_in_nI (by omega) (by omega)) | (exact vp_in_nI (by omega) (by omega)))⟩) ?_)
            | (refine And.intro (show mv_sh _ = _ ∧ vp_in _ _ from ⟨by assumption, by (first | (simp (disch := omega) only [ln_64, ln_62, not_true_eq_false, not_false_eq_true, Classical.not_not, ofn, b_z, b_nz, b_z', b_nz', mv_rd, mv_rn, mv_ld, mv_ln_, lit, nI_add, pk_mul, nI_clamp]; exact vp_in_nI (by omega) (by omega)) | (exact vp_in_nI (by omega) (by omega)))⟩) ?_)
            | (refine And.intro (show ¬ (_ : Int32) = 0 by decide) ?_)
            | (refine ⟨_, rfl, ?_⟩)
            | (refine And.intro (show (none : Option Value) = none from rfl) ?_)
            | (refine Or.inl ⟨rfl, ?_⟩)
            | (refine Or.inr ⟨_, rfl, ?_⟩)
            | (refine dt (by (first | assumption | omega | ((try simp (disch := omega) only [not_true_eq_false, not_false_eq_true, Classical.not_not, ofn, b_z, b_nz, b_z', b_nz', mv_rd, mv_rn, mv_ld, mv_ln_, lit, nI_add, pk_mul, nI_clamp]); (try simp (disch := omega) only [fa_lt, fa_le, fa_eq, nI_toInt, pk_sub_toInt, nI_m1, nI_m1', not_false_eq_true, true_and, and_true]); first | done | omega))) ?_)
            | (refine df (by (first | assumption | omega | ((try simp (disch := omega) only [not_true_eq_false, not_false_eq_true, Classical.not_not, ofn, b_z, b_nz, b_z', b_nz', mv_rd, mv_rn, mv_ld, mv_ln_, lit, nI_add, pk_mul, nI_clamp]); (try simp (disch := omega) only [fa_lt, fa_le, fa_eq, nI_toInt, pk_sub_toInt, nI_m1, nI_m1', not_false_eq_true, true_and, and_true]); first | done | omega))) ?_)
            | (refine dt' (by (first | assumption | omega | ((try simp (disch := omega) only [not_true_eq_false, not_false_eq_true, Classical.not_not, ofn, b_z, b_nz, b_z', b_nz', mv_rd, mv_rn, mv_ld, mv_ln_, lit, nI_add, pk_mul, nI_clamp]); (try simp (disch := omega) only [fa_lt, fa_le, fa_eq, nI_toInt, pk_sub_toInt, nI_m1, nI_m1', not_false_eq_true, true_and, and_true]); first | done | omega))) ?_)
            | (refine df' (by (first | assumption | omega | ((try simp (disch := omega) only [not_true_eq_false, not_false_eq_true, Classical.not_not, ofn, b_z, b_nz, b_z', b_nz', mv_rd, mv_rn, mv_ld, mv_ln_, lit, nI_add, pk_mul, nI_clamp]); (try simp (disch := omega) only [fa_lt, fa_le, fa_eq, nI_toInt, pk_sub_toInt, nI_m1, nI_m1', not_false_eq_true, true_and, and_true]); first | done | omega))) ?_)
            )
        rw [nI_1]
        refine h1 hlt _ ⟨?_, fun i hi => ?_⟩ ⟨fun c i q1 q2 => ?_, hf.2⟩
        · rw [mv_rn (by omega), wl_len]; exact h6
        · rw [wl_len] at hi
          rw [wl_get n (k + 1) i hi]
          by_cases ei : i = r
          · subst ei
            rw [mv_rd, show n - 1 - i = j by omega, hkj1]
            congr 1
            omega
          · rw [mv_rn (by omega), hl i hi]
            by_cases er : i < r
            · rw [if_pos (by omega)]
              obtain ⟨q, hq⟩ : ∃ q, n - 1 - i = j + (1 + q) := ⟨n - 1 - i - j - 1, by omega⟩
              rw [hq, Nat.pow_add, Nat.pow_add, ← Nat.div_div_eq_div_mul, ← Nat.div_div_eq_div_mul, ← Nat.div_div_eq_div_mul, ← Nat.div_div_eq_div_mul, hkj, hkj1, Nat.pow_one, show (m + 1) / 3 = m / 3 by omega]
            · rw [if_neg (by omega), hm, w3_pow (show n - 1 - i ≤ j by omega), Nat.mul_left_comm, Nat.mul_div_cancel_left _ (Nat.pow_pos (by decide))]
              obtain ⟨q, hq⟩ : ∃ q, j - (n - 1 - i) = q + 1 := ⟨j - (n - 1 - i) - 1, by omega⟩
              rw [hq, Nat.pow_succ, ← Nat.mul_assoc, Nat.mul_mod_left]
        · rw [mv_rn (by omega)]; exact hf.1 c i q1 q2
  refine w_Ref_goesToNext ⟨rfl, ?_⟩
  rw [hw0]
  refine loop n 0 k σ (by omega) (by rw [Nat.pow_zero, Nat.mul_one]) (fun i hi => ?_) hw0 ⟨fun _ _ _ _ => rfl, rfl⟩
  rw [if_pos hi, hw.2 i (by rw [wl_len]; exact hi), wl_get n k i hi]
end WORDS2
