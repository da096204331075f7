/-! ===== formulas: the class's side of a word ===== -/
def besN (L m : Nat) : Nat → Nat → Bool
  | 0, _ => false
  | k + 1, r => if k + 1 < m then false else if r % 4 ^ m = L then true else besN L m k (r / 4)
def scaN : Nat → Nat → Nat → Nat → Bool
  | 0, left, _, _ => decide (left = 0)
  | k + 1, left, L, r => if k + 1 < left then false else if left = 0 then true else if r % 4 = L % 4 then scaN k (left - 1) (L / 4) (r / 4) else scaN k left L (r / 4)
def atS (x n B : Nat) : Bool :=
  if x % 16 = 3 then decide (n = 0) else if x % 16 = 4 then decide (n % (x / 16 % 16) = 0) else if x % 16 = 5 then decide (x / 16 % 16 ≤ n) && decide (B / 4 ^ (n - x / 16 % 16) = x / 256)
  else if x % 16 = 6 then decide (x / 16 % 16 ≤ n) && decide (B % 4 ^ (x / 16 % 16) = x / 256) else if x % 16 = 7 then besN (x / 256) (x / 16 % 16) n B else scaN n (x / 16 % 16) (x / 256) B
def atk (x : Nat) : Prop := x < 2 ^ 14 ∧ 3 ≤ x % 16 ∧ x % 16 ≤ 8 ∧ (x % 16 = 4 → 2 ≤ x / 16 % 16 ∧ x / 16 % 16 ≤ 5) ∧ (5 ≤ x % 16 → 1 ≤ x / 16 % 16 ∧ x / 16 % 16 ≤ 3)
section ATOMS
variable {X : mv_X} {d : Nat} {σ : mv_S} {Q : mv_Q} {w : List Nat}
theorem dec_fin {p : Prop} [Decidable p] (hQ : Q (some (.int (if decide p = true then 1 else 0))) σ) : (¬ p → ((0 : Int32) = (0 : Int32) ∨ (0 : Int32) = (1 : Int32)) ∧ Q (some (.int 0)) σ) ∧ (p → ((1 : Int32) = (0 : Int32) ∨ (1 : Int32) = (1 : Int32)) ∧ Q (some (.int 1)) σ) := by
  by_cases e : p
  · rw [if_pos (decide_eq_true e)] at hQ
    exact ⟨fun z => absurd e z, fun _ => ⟨Or.inr rfl, hQ⟩⟩
  · rw [if_neg (fun z => e (of_decide_eq_true z))] at hQ
    exact ⟨fun _ => ⟨Or.inl rfl, hQ⟩, fun z => absurd z e⟩
theorem nI_m {a : Nat} (h : 0 < a) (h2 : a < 2 ^ 31) : nI a + (-1) = nI (a - 1) := by rw [← Int32.sub_eq_add_neg]; exact pk_sub (b := 1) (by omega)
theorem c_beside {L m n B : Nat} (hL : L < 64) (hm : 1 ≤ m ∧ m ≤ 3) (hB : B < 2 ^ 31) (hn : n < 2 ^ 30) (hx : σ.1 10 0 = nI B) (hy : σ.1 10 1 = nI n) (hQ : Q (some (.int (if besN L m n B = true then 1 else 0))) σ) : mv_wp X (d + 1) 29 [.int (nI L), .int (nI m), .ref 10] σ Q := by
  have p2 : 2 ^ (2 * m) ≤ 2 ^ 6 := Nat.pow_le_pow_right (by decide) (by omega)
  have p0 : 0 < 2 ^ (2 * m) := Nat.pow_pos (by decide)
  have em : ((1 : Int32) <<< ((2 * nI m) &&& 31)) - (1 : Int32) = nI (2 ^ (2 * m) - 1) := by
    rw [show (2 : Int32) = nI 2 from rfl, pk_mul, show (1 : Int32) = nI 1 from rfl, q_shl (by omega) (by omega), Nat.one_mul]
    exact pk_sub (b := 1) (by omega)
  have loop : ∀ k r, r < 2 ^ 31 → k < 2 ^ 30 → Q (some (.int (if besN L m k r = true then 1 else 0))) σ → mv_wf X (mv_wp X d) m_Formula_standsBeside Q 20 [.int (nI L), .int (nI m), .retAddr 0, .int (nI (2 ^ (2 * m) - 1)), .int (nI r), .int (nI k)] [] σ := by
    intro k
    induction k with
    | zero =>
      intro r hr hk hq
      exact h_Formula_standsBeside_20 ⟨fun _ => ⟨Or.inl rfl, hq⟩, fun z => absurd (nI_lt (by omega) (by omega)) z⟩
    | succ k ih =>
      intro r hr hk hq
      have hq : Q (some (.int (if (if k + 1 < m then false else if r % 4 ^ m = L then true else besN L m k (r / 4)) = true then 1 else 0))) σ := hq
      by_cases e1 : k + 1 < m
      · rw [if_pos e1, if_neg (by decide)] at hq
        exact h_Formula_standsBeside_20 ⟨fun _ => ⟨Or.inl rfl, hq⟩, fun z => absurd (nI_lt e1 (by omega)) z⟩
      · rw [if_neg e1] at hq
        refine h_Formula_standsBeside_20 ⟨fun z => absurd z (nI_nlt (by omega) (by omega)), fun _ => ?_⟩
        have hlt : r % 4 ^ m < 4 ^ m := Nat.mod_lt _ (Nat.pow_pos (by decide))
        rw [p24] at p2
        rw [fa_mask, p24, q_inj (by omega) (by omega)]
        by_cases e2 : r % 4 ^ m = L
        · rw [if_pos e2, if_pos rfl] at hq
          exact ⟨fun z => absurd e2 z, fun _ => ⟨Or.inr rfl, hq⟩⟩
        · rw [if_neg e2] at hq
          refine ⟨fun _ => ?_, fun z => absurd z e2⟩
          have := ih (r / 4) (by omega) (by omega) hq
          rw [p24] at this
          rw [show (2 : Int32) = nI 2 from rfl, q_shr hr (by omega), nI_m (by omega) (by omega)]
          exact this
  refine w_Formula_standsBeside ⟨rfl, rfl, ?_⟩
  rw [em, hx, hy]
  exact loop n B hB hn hQ
theorem c_scat {L m n B : Nat} (hL : L < 64) (hm : m ≤ 3) (hB : B < 2 ^ 31) (hn : n < 2 ^ 30) (hx : σ.1 10 0 = nI B) (hy : σ.1 10 1 = nI n) (hQ : Q (some (.int (if scaN n m L B = true then 1 else 0))) σ) : mv_wp X (d + 1) 30 [.int (nI L), .int (nI m), .ref 10] σ Q := by
  have loop : ∀ k m L r, m ≤ 3 → L < 64 → r < 2 ^ 31 → k < 2 ^ 30 → Q (some (.int (if scaN k m L r = true then 1 else 0))) σ → mv_wf X (mv_wp X d) m_Formula_standsScattered Q 17 [.retAddr 0, .retAddr 0, .retAddr 0, .int (nI r), .int (nI L), .int (nI m), .int (nI k)] [] σ := by
    intro k
    induction k with
    | zero =>
      intro m L r hm hL hr hk hq
      have hq : Q (some (.int (if decide (m = 0) = true then 1 else 0))) σ := hq
      have fin := dec_fin hq
      have e0 : nI m = 0 ↔ m = 0 := q_inj (b := 0) (by omega) (by omega)
      by_cases e : m = 0
      · subst e
        exact h_Formula_standsScattered_17 ⟨fun z => absurd z (by decide), fun _ => ⟨fun _ => ⟨fun z => absurd rfl z, fun _ => fin.2 rfl⟩, fun z => absurd (by decide) z⟩⟩
      · exact h_Formula_standsScattered_17 ⟨fun _ => ⟨fun _ => fin.1 e, fun z => absurd (e0.mp z) e⟩, fun z => absurd (nI_lt (by omega) (by omega)) z⟩
    | succ k ih =>
      intro m L r hm hL hr hk hq
      have hq : Q (some (.int (if (if k + 1 < m then false else if m = 0 then true else if r % 4 = L % 4 then scaN k (m - 1) (L / 4) (r / 4) else scaN k m L (r / 4)) = true then 1 else 0))) σ := hq
      have e0 : nI m = 0 ↔ m = 0 := q_inj (b := 0) (by omega) (by omega)
      by_cases e1 : k + 1 < m
      · rw [if_pos e1, if_neg (by decide)] at hq
        exact h_Formula_standsScattered_17 ⟨fun _ => ⟨fun _ => ⟨Or.inl rfl, hq⟩, fun z => absurd (e0.mp z) (by omega)⟩, fun z => absurd (nI_lt e1 (by omega)) z⟩
      · rw [if_neg e1] at hq
        refine h_Formula_standsScattered_17 ⟨fun z => absurd z (nI_nlt (by omega) (by omega)), fun _ => ?_⟩
        by_cases e2 : m = 0
        · rw [if_pos e2, if_pos rfl] at hq
          subst e2
          exact ⟨fun _ => ⟨fun z => absurd rfl z, fun _ => ⟨Or.inr rfl, hq⟩⟩, fun z => absurd (by decide) z⟩
        · rw [if_neg e2] at hq
          refine ⟨fun z => absurd z (nI_ge (b := m) (a := 0) (by omega) (by omega)), fun _ => ?_⟩
          rw [q_and3, q_and3, q_inj (by omega) (by omega), show (2 : Int32) = nI 2 from rfl, q_shr hr (by omega), q_shr (by omega) (by omega), nI_m (by omega) (by omega), nI_m (by omega) (by omega)]
          by_cases e3 : r % 4 = L % 4
          · rw [if_pos e3] at hq
            exact ⟨fun z => absurd e3 z, fun _ => ih _ _ _ (by omega) (by omega) (by omega) (by omega) hq⟩
          · rw [if_neg e3] at hq
            exact ⟨fun _ => ih _ _ _ (by omega) (by omega) (by omega) (by omega) hq, fun z => absurd z e3⟩
  refine w_Formula_standsScattered ⟨rfl, rfl, ?_⟩
  rw [hx, hy]
  exact loop n m L B hm hL hB hn hQ
theorem c_isSo {x n B : Nat} (hx : atk x) (hn : n ≤ 9) (hB : B < 4 ^ 9) (h0 : σ.1 10 0 = nI B) (h1 : σ.1 10 1 = nI n) (hQ : Q (some (.int (if atS x n B = true then 1 else 0))) σ) : mv_wp X (d + 2) 28 [.int (nI x), .ref 10] σ Q := by
  obtain ⟨x1, x2, x3, x4, x5⟩ := hx
  have hB2 : B < 2 ^ 18 := hB
  refine (w_Formula_isSo _ _ _ _ _).mpr ((w_Formula_howMany _ _ _ _ _).mpr ⟨_, rfl, ?_⟩)
  rw [q_and15, show (4 : Int32) = nI 4 from rfl, q_shr (by omega) (by omega), q_and15, show (8 : Int32) = nI 8 from rfl, q_shr (by omega) (by omega), h0, h1, show x / 2 ^ 4 % 16 = x / 16 % 16 from rfl, show x / 2 ^ 8 = x / 256 from rfl]
  unfold atS at hQ
  generalize hm : x / 16 % 16 = m at *
  have hL : x / 256 < 64 := by omega
  generalize x / 256 = L at *
  have hk : x % 16 = 3 ∨ x % 16 = 4 ∨ x % 16 = 5 ∨ x % 16 = 6 ∨ x % 16 = 7 ∨ x % 16 = 8 := by omega
  rcases hk with e | e | e | e | e | e <;> rw [e] at hQ x4 x5 ⊢
  · rw [if_pos rfl] at hQ
    refine ⟨fun _ => ⟨rfl, ?_⟩, fun z => absurd rfl z⟩
    have := dec_fin hQ
    rw [show (nI n = 0) = (nI n = nI 0) from rfl, q_inj (by omega) (by omega)]
    exact this
  · have hQ : Q (some (.int (if decide (n % m = 0) = true then 1 else 0))) σ := hQ
    obtain ⟨m1, m2⟩ := x4 rfl
    refine ⟨fun z => absurd z (by decide), fun _ => ⟨fun _ => ⟨fun z => absurd z (nI_ge (a := 0) (by omega) (by omega)), fun _ => ⟨rfl, nI_ne0 (by omega) (by omega), ?_⟩⟩, fun z => absurd (by decide) z⟩⟩
    rw [pk_rem (by omega) (by omega) (by omega), show ∀ y, (nI y = 0) = (nI y = nI 0) from fun _ => rfl, q_inj (by have := Nat.mod_lt n (show 0 < m by omega); omega) (by omega)]
    exact dec_fin hQ
  · have hQ : Q (some (.int (if (decide (m ≤ n) && decide (B / 4 ^ (n - m) = L)) = true then 1 else 0))) σ := hQ
    obtain ⟨m1, m2⟩ := x5 (by decide)
    refine ⟨fun z => absurd z (by decide), fun _ => ⟨fun z => absurd z (by decide), fun _ => ⟨fun _ => ⟨rfl, ?_⟩, fun z => absurd (by decide) z⟩⟩⟩
    by_cases el : m ≤ n
    · rw [decide_eq_true el, Bool.true_and] at hQ
      refine ⟨fun z => absurd z (nI_nlt (by omega) (by omega)), fun _ => ⟨rfl, rfl, ?_⟩⟩
      have hd : B / 4 ^ (n - m) ≤ B := Nat.div_le_self _ _
      rw [pk_sub el, show (2 : Int32) = nI 2 from rfl, pk_mul, q_shr (by omega) (by omega), p24, q_inj (by omega) (by omega)]
      exact dec_fin hQ
    · rw [decide_eq_false el, Bool.false_and, if_neg (by decide)] at hQ
      exact ⟨fun _ => ⟨Or.inl rfl, hQ⟩, fun z => absurd (nI_lt (by omega) (by omega)) z⟩
  · have hQ : Q (some (.int (if (decide (m ≤ n) && decide (B % 4 ^ m = L)) = true then 1 else 0))) σ := hQ
    obtain ⟨m1, m2⟩ := x5 (by decide)
    refine ⟨fun z => absurd z (by decide), fun _ => ⟨fun z => absurd z (by decide), fun _ => ⟨fun z => absurd z (by decide), fun _ => ⟨fun _ => ⟨rfl, ?_⟩, fun z => absurd (by decide) z⟩⟩⟩⟩
    by_cases el : m ≤ n
    · rw [decide_eq_true el, Bool.true_and] at hQ
      refine ⟨fun z => absurd z (nI_nlt (by omega) (by omega)), fun _ => ⟨rfl, ?_⟩⟩
      have p2 : 2 ^ (2 * m) ≤ 2 ^ 6 := Nat.pow_le_pow_right (by decide) (by omega)
      have p0 : 0 < 2 ^ (2 * m) := Nat.pow_pos (by decide)
      have em : ((1 : Int32) <<< ((2 * nI m) &&& 31)) - (1 : Int32) = nI (2 ^ (2 * m) - 1) := by
        rw [show (2 : Int32) = nI 2 from rfl, pk_mul, show (1 : Int32) = nI 1 from rfl, q_shl (by omega) (by omega), Nat.one_mul]
        exact pk_sub (b := 1) (by omega)
      have hd : B % 4 ^ m ≤ B := Nat.mod_le _ _
      rw [em, fa_mask, p24, q_inj (by omega) (by omega)]
      exact dec_fin hQ
    · rw [decide_eq_false el, Bool.false_and, if_neg (by decide)] at hQ
      exact ⟨fun _ => ⟨Or.inl rfl, hQ⟩, fun z => absurd (nI_lt (by omega) (by omega)) z⟩
  · have hQ : Q (some (.int (if besN L m n B = true then 1 else 0))) σ := hQ
    obtain ⟨m1, m2⟩ := x5 (by decide)
    refine ⟨fun z => absurd z (by decide), fun _ => ⟨fun z => absurd z (by decide), fun _ => ⟨fun z => absurd z (by decide), fun _ => ⟨fun z => absurd z (by decide), fun _ => ⟨fun _ => ?_, fun z => absurd (by decide) z⟩⟩⟩⟩⟩
    exact c_beside hL ⟨m1, m2⟩ (by omega) (by omega) h0 h1 ⟨_, rfl, bI_01 _, hQ⟩
  · have hQ : Q (some (.int (if scaN n m L B = true then 1 else 0))) σ := hQ
    obtain ⟨m1, m2⟩ := x5 (by decide)
    refine ⟨fun z => absurd z (by decide), fun _ => ⟨fun z => absurd z (by decide), fun _ => ⟨fun z => absurd z (by decide), fun _ => ⟨fun z => absurd z (by decide), fun _ => ⟨fun z => absurd z (by decide), fun _ => ?_⟩⟩⟩⟩⟩
    exact c_scat hL (by omega) (by omega) (by omega) h0 h1 ⟨_, rfl, bI_01 _, hQ⟩
/-! the stack of truths, in the bits of a number -/
def st1 (n B t x : Nat) : Nat := if x % 16 = 0 then 2 * (t / 4) + (if t % 4 = 3 then 1 else 0) else if x % 16 = 1 then 2 * (t / 4) + (if t % 4 = 0 then 0 else 1) else if x % 16 = 2 then (if t % 2 = 0 then t + 1 else t - 1) else 2 * t + (if atS x n B = true then 1 else 0)
def opk (x : Nat) : Prop := x = 0 ∨ x = 1 ∨ x = 2 ∨ atk x
theorem fa_xor (a b : Nat) : nI a ^^^ nI b = nI (a ^^^ b) := by
  refine Int32.toBitVec_inj.mp ?_
  show BitVec.ofNat 32 a ^^^ BitVec.ofNat 32 b = BitVec.ofNat 32 (a ^^^ b)
  refine BitVec.eq_of_getLsbD_eq (fun i hi => ?_)
  simp only [BitVec.getLsbD_xor, BitVec.getLsbD_ofNat, Nat.testBit_xor, hi, decide_true, Bool.true_and]
theorem st_and {t : Nat} (h : t < 65536) : (nI t >>> ((1 : Int32) &&& 31)) &&& (nI t ||| (-2)) = nI (2 * (t / 4) + (if t % 4 = 3 then 1 else 0)) ∧ nI t ^^^ (1 : Int32) = nI (if t % 2 = 0 then t + 1 else t - 1) := by
  have m31 : ∀ i, (2 ^ 31 - 1 : Nat).testBit i = decide (i < 31) := fun i => Nat.testBit_two_pow_sub_one 31 i
  have big : ∀ y i, y < 65536 → ¬ i < 31 → y.testBit i = false := fun y i hy hi => Nat.testBit_lt_two_pow (Nat.lt_of_lt_of_le (show y < 2 ^ 31 by omega) (Nat.pow_le_pow_right (by decide) (by omega)))
  constructor
  · have e1 : t ||| (2 * (2 ^ 31 - 1)) = 2 * (2 ^ 31 - 1) + t % 2 := by
      refine Nat.eq_of_testBit_eq (fun i => ?_)
      cases i with
      | zero =>
        rw [Nat.testBit_or, Nat.testBit_zero, Nat.testBit_zero, Nat.testBit_zero, decide_eq_false (show ¬ 2 * (2 ^ 31 - 1) % 2 = 1 by omega), Bool.or_false]
        congr 1
        exact propext ⟨fun z => by omega, fun z => by omega⟩
      | succ i =>
        rw [Nat.testBit_or, Nat.testBit_succ, Nat.testBit_succ, Nat.testBit_succ, show 2 * (2 ^ 31 - 1) / 2 = 2 ^ 31 - 1 by omega, show (2 * (2 ^ 31 - 1) + t % 2) / 2 = 2 ^ 31 - 1 by omega, m31]
        by_cases hi : i < 31
        · rw [decide_eq_true hi, Bool.or_true]
        · rw [decide_eq_false hi, Bool.or_false]; exact big _ _ (by omega) hi
    have e2 : (t / 2) &&& (2 * (2 ^ 31 - 1) + t % 2) = 2 * (t / 4) + (if t % 4 = 3 then 1 else 0) := by
      refine Nat.eq_of_testBit_eq (fun i => ?_)
      cases i with
      | zero =>
        rw [Nat.testBit_and, Nat.testBit_zero, Nat.testBit_zero, Nat.testBit_zero]
        by_cases e : t % 4 = 3
        · rw [if_pos e, decide_eq_true (by omega), decide_eq_true (by omega), decide_eq_true (by omega)]; rfl
        · rw [if_neg e, decide_eq_false (show ¬ (2 * (t / 4) + 0) % 2 = 1 by omega)]
          by_cases e' : t / 2 % 2 = 1
          · rw [decide_eq_false (show ¬ (2 * (2 ^ 31 - 1) + t % 2) % 2 = 1 by omega), Bool.and_false]
          · rw [decide_eq_false e', Bool.false_and]
      | succ i =>
        rw [Nat.testBit_and, Nat.testBit_succ, Nat.testBit_succ, Nat.testBit_succ, show (2 * (2 ^ 31 - 1) + t % 2) / 2 = 2 ^ 31 - 1 by omega, show t / 2 / 2 = t / 4 by omega, m31]
        have e3 : (2 * (t / 4) + (if t % 4 = 3 then 1 else 0)) / 2 = t / 4 := by split <;> omega
        rw [e3]
        by_cases hi : i < 31
        · rw [decide_eq_true hi, Bool.and_true]
        · rw [decide_eq_false hi, Bool.and_false]; exact (big _ _ (by omega) hi).symm
    rw [show (nI t >>> ((1 : Int32) &&& 31)) = nI (t / 2) from q_shr (k := 1) (by omega) (by omega), show (-2 : Int32) = nI (2 * (2 ^ 31 - 1)) by decide, fa_or, fa_and, e1, e2]
  · rw [show (1 : Int32) = nI 1 from rfl, fa_xor]
    congr 1
    refine Nat.eq_of_testBit_eq (fun i => ?_)
    cases i with
    | zero =>
      rw [Nat.testBit_xor, Nat.testBit_zero, Nat.testBit_zero, Nat.testBit_zero]
      by_cases e : t % 2 = 0
      · rw [if_pos e, decide_eq_false (by omega), decide_eq_true (by omega), decide_eq_true (by omega)]; rfl
      · rw [if_neg e, decide_eq_true (by omega), decide_eq_true (by omega), decide_eq_false (by omega)]; rfl
    | succ i =>
      rw [Nat.testBit_xor, Nat.testBit_succ, Nat.testBit_succ, Nat.testBit_succ, show 1 / 2 = 0 from rfl, Nat.zero_testBit, Bool.xor_false]
      congr 1
      split <;> omega
theorem st_or {t : Nat} (h : t < 65536) : (nI t >>> ((1 : Int32) &&& 31)) ||| (nI t &&& (1 : Int32)) = nI (2 * (t / 4) + (if t % 4 = 0 then 0 else 1)) := by
  rw [q_and1, show (nI t >>> ((1 : Int32) &&& 31)) = nI (t / 2) from q_shr (k := 1) (by omega) (by omega), fa_or]
  have e1 : t / 2 = 2 * (t / 4) + t / 2 % 2 := by omega
  have e2 : (2 * (t / 4) + t / 2 % 2) ||| t % 2 = 2 * (t / 4) + (if t % 4 = 0 then 0 else 1) := by
    have h1 : t / 2 % 2 = 0 ∨ t / 2 % 2 = 1 := by omega
    have h2 : t % 2 = 0 ∨ t % 2 = 1 := by omega
    rcases h2 with h2 | h2
    · rw [h2, Nat.or_zero]
      split <;> omega
    · have := Nat.two_pow_add_eq_or_of_lt (i := 1) (b := 1) (by decide) (t / 4)
      rw [show (2 : Nat) ^ 1 = 2 from rfl] at this
      rw [h2, if_neg (by omega)]
      rcases h1 with h1 | h1
      · rw [h1, Nat.add_zero]; exact this.symm
      · rw [h1, this, Nat.or_assoc]; rfl
  rw [← e2, ← e1]
theorem c_accepts {t n B : Nat} {ops : List Nat} (ht : mv_rf t 0 = t + 1 ∧ mv_sh (t + 1) = 20 ∧ mv_ln (t + 1) = 60 ∧ mv_sh t = 0) (ho : ops.length ≤ 60) (h0 : σ.1 10 0 = nI B) (h1 : σ.1 10 1 = nI n) (hn : n ≤ 9) (hB : B < 4 ^ 9)
    (hl : σ.1 t 1 = nI ops.length) (hp : ∀ i, i < ops.length → σ.1 (t + 1) i = nI (ops.getD i 0)) (hk : ∀ x, x ∈ ops → opk x) (hb : ∀ u v, ops = u ++ v → u.foldl (st1 n B) 0 < 32768)
    (hQ : Q (some (.int (if (ops.foldl (st1 n B) 0) % 2 = 1 then 1 else 0))) σ) : mv_wp X (d + 3) 26 [.ref t, .ref 10] σ Q := by
  have loop : ∀ v u, ops = u ++ v → mv_wf X (mv_wp X (d + 2)) m_Formula_accepts Q 4 [.ref t, .ref 10, .int (nI (u.foldl (st1 n B) 0)), .int (nI u.length)] [] σ := by
    intro v
    induction v with
    | nil =>
      intro u e
      rw [List.append_nil] at e
      subst e
      have hb := hb ops [] (List.append_nil _).symm
      refine h_Formula_accepts_4 ⟨ht.2.2.2, ?_⟩
      rw [hl, q_and1, show (nI (ops.foldl (st1 n B) 0 % 2) = 1) = (nI (ops.foldl (st1 n B) 0 % 2) = nI 1) from rfl, q_inj (by omega) (by omega)]
      refine ⟨fun _ => ?_, fun z => absurd (nI_le (Nat.le_refl _) (by omega)) z⟩
      by_cases e : ops.foldl (st1 n B) 0 % 2 = 1
      · rw [if_pos e] at hQ
        exact ⟨fun z => absurd e z, fun _ => ⟨Or.inr rfl, hQ⟩⟩
      · rw [if_neg e] at hQ
        exact ⟨fun _ => ⟨Or.inl rfl, hQ⟩, fun z => absurd z e⟩
    | cons x v ih =>
      intro u e
      have hlen : ops.length = u.length + (v.length + 1) := by rw [e, List.length_append]; rfl
      have hbu := hb u (x :: v) e
      have hx : opk x := hk x (by rw [e]; exact List.mem_append_right _ (List.mem_cons_self ..))
      have hg : ops.getD u.length 0 = x := by rw [e]; exact gt_mid u v x
      have nx := ih (u ++ [x]) (by rw [List.append_assoc]; exact e)
      rw [List.foldl_append, ln_s] at nx
      have nx : mv_wf X (mv_wp X (d + 2)) m_Formula_accepts Q 4 [.ref t, .ref 10, .int (nI (st1 n B (u.foldl (st1 n B) 0) x)), .int (nI (u.length + 1))] [] σ := nx
      refine h_Formula_accepts_4 ⟨ht.2.2.2, ?_⟩
      rw [hl, ht.1, nI_clamp (n := u.length) (by omega), hp u.length (by omega), hg, q_and15, nI_1]
      have vin : mv_sh (t + 1) = 20 ∧ vp_in (nI u.length) (mv_ln (t + 1)) := ⟨ht.2.1, by rw [ht.2.2.1]; exact vp_in_nI (by omega) (by omega)⟩
      refine ⟨fun z => absurd z (nI_ge (by omega) (by omega)), fun _ => ⟨ht.2.2.2, vin, ?_⟩⟩
      generalize u.foldl (st1 n B) 0 = T at *
      unfold st1 at nx
      rcases hx with rfl | rfl | rfl | hx
      · refine ⟨fun _ => ?_, fun z => absurd rfl z⟩
        rw [(st_and (by omega)).1]
        exact nx
      · refine ⟨fun z => absurd z (by decide), fun _ => ⟨fun _ => ?_, fun z => absurd (by decide) z⟩⟩
        rw [st_or (by omega)]
        exact nx
      · refine ⟨fun z => absurd z (by decide), fun _ => ⟨fun z => absurd z (by decide), fun _ => ⟨fun _ => ?_, fun z => absurd (by decide) z⟩⟩⟩
        rw [(st_and (by omega)).2]
        exact nx
      · have k3 := hx.2.1
        rw [if_neg (by omega), if_neg (by omega), if_neg (by omega)] at nx
        refine ⟨fun z => absurd (nI_28 (b := 0) (by omega) (by omega) z) (by omega), fun _ => ⟨fun z => absurd (nI_28 (b := 1) (by omega) (by omega) z) (by omega), fun _ => ⟨fun z => absurd (nI_28 (b := 2) (by omega) (by omega) z) (by omega), fun _ => ⟨ht.2.2.2, vin, ?_⟩⟩⟩⟩
        refine c_isSo hx hn hB h0 h1 ⟨_, rfl, ?_⟩
        have sh : nI T <<< ((1 : Int32) &&& 31) = nI (2 * T) := by rw [Nat.mul_comm]; exact q_shl (k := 1) (by omega) (by omega)
        by_cases e : atS x n B = true
        · rw [if_pos e] at nx ⊢
          refine ⟨fun z => absurd z (by decide), fun _ => ?_⟩
          have := fa_or_sum (k := 1) (a := 1) T (by decide)
          rw [show (2 : Nat) ^ 1 = 2 from rfl] at this
          rw [sh, show (1 : Int32) = nI 1 from rfl, this]
          exact nx
        · rw [if_neg e] at nx ⊢
          refine ⟨fun _ => ?_, fun z => absurd rfl z⟩
          rw [sh, Int32.or_zero]
          exact nx
  exact w_Formula_accepts (loop ops [] rfl)
end ATOMS
