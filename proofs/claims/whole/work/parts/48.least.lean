/-! ===== least ===== -/
theorem ff_eq {p : Nat → Bool} {n h : Nat} (h1 : ∀ k, k < h → p k = false) (h2 : h < n) (h3 : p h = true) : fa_first p n = h := by
  rcases Nat.lt_trichotomy (fa_first p n) h with z | z | z
  · have := fa_first_yes p n (by omega)
    rw [h1 _ z] at this
    exact absurd this (by decide)
  · exact z
  · have := fa_first_no p n h z
    rw [h3] at this
    exact absurd this (by decide)
theorem ff_none {p : Nat → Bool} {n : Nat} (h1 : ∀ k, k < n → p k = false) : ¬ fa_first p n < n := by
  intro z
  have := fa_first_yes p n z
  rw [h1 _ z] at this
  exact absurd this (by decide)
/-- the word by which each came -/
def wdp (src : Nat → Nat) : Nat → Nat → Nat
  | 0, _ => 0
  | f + 1, k => if k = 0 then 0 else 10 * wdp src f (src k / 3) + src k % 3 + 1
theorem wdp_0 (src : Nat → Nat) (f : Nat) : wdp src f 0 = 0 := by cases f <;> rfl
theorem wdp_s (src : Nat → Nat) (f k : Nat) (h : ¬ k = 0) : wdp src (f + 1) k = 10 * wdp src f (src k / 3) + src k % 3 + 1 := if_neg h
theorem wdp_lt (src : Nat → Nat) : ∀ f k, wdp src f k < 10 ^ f
  | 0, _ => by show 0 < 1; decide
  | f + 1, k => by
    by_cases e : k = 0
    · subst e; rw [wdp_0]; exact Nat.pow_pos (by decide)
    · rw [wdp_s _ _ _ e, Nat.pow_succ]
      have := wdp_lt src f (src k / 3)
      omega
theorem wdp_fuel {src : Nat → Nat} : ∀ (f k c : Nat), (∀ j, 0 < j → j < c → src j / 3 < j) → k < c → k ≤ f → wdp src f k = wdp src k k
  | 0, k, c, _, _, h => by rw [show k = 0 by omega]
  | f + 1, k, c, hs, hc, h => by
    by_cases e : k = 0
    · subst e; rw [wdp_0, wdp_0]
    · obtain ⟨j, rfl⟩ : ∃ j, k = j + 1 := ⟨k - 1, by omega⟩
      have h1 := hs (j + 1) (by omega) hc
      rw [wdp_s _ _ _ e, wdp_s _ _ _ e, wdp_fuel f (src (j + 1) / 3) c hs (by omega) (by omega), wdp_fuel j (src (j + 1) / 3) c hs (by omega) (by omega)]
theorem tb_iff {a k : Nat} (ha : a < 2 ^ 31) (hk : k < 32) : (nI a >>> (nI k &&& (31 : Int32))) &&& (1 : Int32) = 0 ↔ ¬ a.testBit k = true := by
  rw [q_shr ha hk, q_and1, Nat.testBit_eq_decide_div_mod_eq, show (0 : Int32) = nI 0 from rfl, nI_eq (by omega) (by omega), decide_eq_true_eq]
  omega
theorem tb_set {a k : Nat} (hk : k < 31) : nI a ||| ((1 : Int32) <<< (nI k &&& (31 : Int32))) = nI (a ||| 2 ^ k) := by
  have h2 : (2 : Nat) ^ k < 2 ^ 31 := Nat.pow_lt_pow_right (by decide) hk
  rw [show (1 : Int32) = nI 1 from rfl, q_shl (by omega) (by omega), fa_or, Nat.one_mul]
theorem tb_or {a k j : Nat} : (a ||| 2 ^ k).testBit j = true ↔ a.testBit j = true ∨ j = k := by
  rw [Nat.testBit_or, Nat.testBit_two_pow, Bool.or_eq_true, decide_eq_true_eq]
  constructor
  · rintro (h | h)
    · exact Or.inl h
    · exact Or.inr h.symm
  · rintro (h | h)
    · exact Or.inl h
    · exact Or.inr h.symm
theorem md_e16 {M : md_T} (h : md_ok M) : M.2.2.1 < 16 := by
  obtain ⟨o1, o2, o3, o4, o5, o6⟩ := h
  have : M.1 = 1 ∨ M.1 = 2 ∨ M.1 = 3 ∨ M.1 = 4 := by omega
  rcases this with e | e | e | e <;> rw [e] at o4 <;> omega
def ls_nx (A B : md_T) (x l : Nat) : Nat := 4 * A.2.2.2 (3 * (x / 4) + l) + B.2.2.2 (3 * (x % 4) + l)
def ls_q0 (A B : md_T) : Nat := 4 * A.2.1 + B.2.1
def ls_S (A B : md_T) (s : Nat) : bf_T := bf (ls_nx A B) (ls_q0 A B) 3 s
def ls_F (A B : md_T) : bf_T := ls_S A B (3 * 16)
theorem ls_F_eq (A B : md_T) : ls_F A B = bf (ls_nx A B) (ls_q0 A B) 3 (3 * 16) := by unfold ls_F ls_S; rfl
theorem ls_S_eq (A B : md_T) (s : Nat) : ls_S A B s = bf (ls_nx A B) (ls_q0 A B) 3 s := rfl
def ls_wt (A B : md_T) (w x : Nat) : Bool := if w = 0 then A.2.2.1.testBit (x / 4) && B.2.2.1.testBit (x % 4) else if w = 1 then A.2.2.1.testBit (x / 4) != B.2.2.1.testBit (x % 4) else A.2.2.1.testBit (x / 4) && !B.2.2.1.testBit (x % 4)
def ls_k (A B : md_T) (w : Nat) : Nat := fa_first (fun k => ls_wt A B w ((ls_F A B).2.1 k)) (ls_F A B).1
def ls_ans (A B : md_T) (w : Nat) : Int64 := if ls_k A B w < (ls_F A B).1 then lN (wdp (ls_F A B).2.2 (ls_k A B w) (ls_k A B w)) else -1
section LEASTP
variable {A B : md_T} (oA : md_ok A) (oB : md_ok B)
theorem ls_lt (oA : md_ok A) (oB : md_ok B) (x j : Nat) (hx : x < 16) (hj : j < 3) : ls_nx A B x j < 16 := by
  unfold ls_nx
  have h1 := oA.2.2.2.2.1 (3 * (x / 4) + j) (by omega)
  have h2 := oB.2.2.2.2.1 (3 * (x % 4) + j) (by omega)
  omega
theorem ls_q0_lt (oA : md_ok A) (oB : md_ok B) : ls_q0 A B < 16 := by
  obtain ⟨a1, a2, a3, _⟩ := oA
  obtain ⟨b1, b2, b3, _⟩ := oB
  unfold ls_q0
  omega
theorem ls_le (oA : md_ok A) (oB : md_ok B) (s : Nat) : (ls_S A B s).1 ≤ 16 := bf_le (by decide) (ls_q0_lt oA oB) (ls_lt oA oB) s
theorem ls_q_lt (oA : md_ok A) (oB : md_ok B) (s k : Nat) (hk : k < (ls_S A B s).1) : (ls_S A B s).2.1 k < 16 := bf_all (P := fun x => x < 16) (by decide) (ls_q0_lt oA oB) (ls_lt oA oB) s k hk
/-- what came by a step is what comes in the end -/
theorem ls_pre (s k : Nat) (hs : s ≤ 48) (hk : k < (ls_S A B s).1) : k < (ls_F A B).1 ∧ (ls_F A B).2.1 k = (ls_S A B s).2.1 k ∧ (ls_F A B).2.2 k = (ls_S A B s).2.2 k := by
  have m := bf_mono (nx := ls_nx A B) (q0 := ls_q0 A B) (J := 3) s (48 - s)
  rw [show s + (48 - s) = 3 * 16 by omega, ← ls_F_eq, ← ls_S_eq] at m
  exact ⟨Nat.lt_of_lt_of_le hk m.1, m.2 k hk⟩
theorem ls_end (oA : md_ok A) (oB : md_ok B) {h : Nat} (e : (ls_S A B (3 * h)).1 = h) : ls_S A B (3 * h) = ls_F A B := by
  have h16 := ls_le oA oB (3 * h)
  rw [ls_F_eq, ls_S_eq]
  rw [ls_S_eq] at e h16
  exact bf_last (N := 16) (by decide) (ls_q0_lt oA oB) (ls_lt oA oB) (Nat.le_of_eq (by rw [e])) (by omega)
theorem ls_none {w h : Nat} (hn : ∀ k, k < h → ls_wt A B w ((ls_F A B).2.1 k) = false) (e : (ls_F A B).1 = h) : ls_ans A B w = -1 := by
  unfold ls_ans
  have : ¬ ls_k A B w < (ls_F A B).1 := ff_none (by rw [e]; exact hn)
  rw [if_neg this]
theorem ls_some {w h : Nat} (hn : ∀ k, k < h → ls_wt A B w ((ls_F A B).2.1 k) = false) (h1 : h < (ls_F A B).1) (h2 : ls_wt A B w ((ls_F A B).2.1 h) = true) : ls_ans A B w = lN (wdp (ls_F A B).2.2 h h) := by
  have : ls_k A B w = h := ff_eq hn h1 h2
  unfold ls_ans
  rw [this, if_pos h1]
theorem ls_src : ∀ j, 0 < j → j < (ls_F A B).1 → (ls_F A B).2.2 j / 3 < j := by
  rw [ls_F_eq]
  exact fun j h1 h2 => (bf_src (nx := ls_nx A B) (q0 := ls_q0 A B) (J := 3) (3 * 16) j h1 h2).2.1
theorem ls_word {s : Nat} (hs : s < 48) (h : s / 3 < (ls_S A B s).1) (hn : ls_S A B (s + 1) = bf_add (ls_S A B s) (ls_nx A B ((ls_S A B s).2.1 (s / 3)) (s % 3)) s) : wdp (ls_F A B).2.2 (ls_S A B s).1 (ls_S A B s).1 = 10 * wdp (ls_F A B).2.2 (s / 3) (s / 3) + s % 3 + 1 := by
  have p1 : (ls_S A B s).1 < (ls_S A B (s + 1)).1 := by rw [hn, add_1]; omega
  obtain ⟨p2, _, p3⟩ := ls_pre (A := A) (B := B) (s + 1) (ls_S A B s).1 (by omega) p1
  rw [hn, (add_n _ _ _).2] at p3
  obtain ⟨j, hj⟩ : ∃ j, (ls_S A B s).1 = j + 1 := ⟨(ls_S A B s).1 - 1, by omega⟩
  rw [hj] at p2 p3 h ⊢
  rw [wdp_s _ _ _ (by omega), p3, wdp_fuel j (s / 3) _ ls_src (by omega) (by omega)]
end LEASTP
