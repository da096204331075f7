/-! ===== green: what is counted ===== -/
def mxp (p : Nat → Nat) : Nat → Nat
  | 0 => 0
  | i + 1 => if mxp p i < p i then p i else mxp p i
theorem mxp_pos {p : Nat → Nat} (h : ∀ i, 1 ≤ p i) : ∀ i, 1 ≤ i → 1 ≤ mxp p i
  | 0, h0 => by omega
  | i + 1, _ => by
    show 1 ≤ if mxp p i < p i then p i else mxp p i
    have := h i
    split <;> omega
theorem mxp_lt {p : Nat → Nat} {B : Nat} (h : ∀ i, p i < B) (hB : 0 < B) : ∀ i, mxp p i < B
  | 0 => hB
  | i + 1 => by
    show (if mxp p i < p i then p i else mxp p i) < B
    have := h i
    have := mxp_lt h hB i
    split <;> omega
def zb (g : Nat → Nat) (c : Nat) : Bool := (decide (th c (g 0) = c) && decide (th (g 0) c = c)) && ((decide (th c (g 1) = c) && decide (th (g 1) c = c)) && (decide (th c (g 2) = c) && decide (th (g 2) c = c)))
theorem zb_iff {g : Nat → Nat} {c : Nat} : zb g c = true ↔ ∀ l, l < 3 → th c (g l) = c ∧ th (g l) c = c := by
  unfold zb
  rw [Bool.and_eq_true, Bool.and_eq_true, Bool.and_eq_true, Bool.and_eq_true, Bool.and_eq_true, decide_eq_true_eq, decide_eq_true_eq, decide_eq_true_eq, decide_eq_true_eq, decide_eq_true_eq, decide_eq_true_eq]
  constructor
  · rintro ⟨h0, h1, h2⟩ l hl
    rcases l3_cs hl with rfl | rfl | rfl
    · exact h0
    · exact h1
    · exact h2
  · intro h
    exact ⟨h 0 (by decide), h 1 (by decide), h 2 (by decide)⟩
def zF (g : Nat → Nat) (c : Nat) : Nat → Nat → Bool
  | 0, _ => true
  | r + 1, l => (decide (th c (g l) = c) && decide (th (g l) c = c)) && zF g c r (l + 1)
theorem zF_eq (g : Nat → Nat) (c : Nat) : zF g c 3 0 = zb g c := by
  show (_ && (_ && (_ && true))) = _
  rw [Bool.and_true]
  rfl
theorem zb_un {g : Nat → Nat} {a b : Nat} (ha : inm g a) (hb : inm g b) (za : zb g a = true) (zb' : zb g b = true) : a = b := by
  rw [zb_iff] at za zb'
  have key : ∀ j, j < (eF g).1 → th a ((eF g).2.1 j) = a ∧ th ((eF g).2.1 j) b = b := by
    intro j
    induction j using Nat.strongRecOn with
    | ind j ih =>
      intro hj
      by_cases e : j = 0
      · subst e
        rw [eF_0.1, th_id2 (inm_lt ha), th_id1 (inm_lt hb)]
        exact ⟨rfl, rfl⟩
      · obtain ⟨s1, s2⟩ := eF_src (g := g) (k := j) (by omega) hj
        obtain ⟨i1, i2⟩ := ih _ s1 (by omega)
        rw [s2]
        unfold enx
        have hl : (eF g).2.2 j % 3 < 3 := by omega
        rw [← th_assoc, i1, (za _ hl).1, th_assoc, (zb' _ hl).2, i2]
        exact ⟨rfl, rfl⟩
  obtain ⟨i, hi, ei⟩ := ha
  obtain ⟨j, hj, ej⟩ := hb
  have h1 := (key j hj).1
  have h2 := (key i hi).2
  rw [ej] at h1
  rw [ei] at h2
  rw [← h1, h2]
def lz (z : Nat → Bool) : Nat → Int32
  | 0 => -1
  | i + 1 => if z i = true then nI i else lz z i
def fz (z : Nat → Bool) (n : Nat) : Int32 := if fa_first z n < n then nI (fa_first z n) else -1
theorem lz_fz {z : Nat → Bool} : ∀ n, (∀ i j, i < n → j < n → z i = true → z j = true → i = j) → lz z n = fz z n
  | 0, _ => by unfold fz; rw [if_neg (Nat.not_lt_zero _)]; rfl
  | n + 1, h => by
    have ih := lz_fz n (fun i j hi hj => h i j (by omega) (by omega))
    show (if z n = true then nI n else lz z n) = fz z (n + 1)
    unfold fz at ih ⊢
    by_cases e : z n = true
    · rw [if_pos e]
      have : fa_first z (n + 1) = n := ff_eq (fun k hk => by
        cases ek : z k
        · rfl
        · exact absurd (h k n (by omega) (by omega) ek e) (by omega)) (by omega) e
      rw [this, if_pos (by omega)]
    · rw [if_neg e, ih]
      by_cases e2 : fa_first z n < n
      · have : fa_first z (n + 1) = fa_first z n := if_pos e2
        rw [if_pos e2, this, if_pos (by omega)]
      · have h3 : fa_first z (n + 1) = n + 1 := by
          show (if fa_first z n < n then fa_first z n else if z n then n else n + 1) = n + 1
          rw [if_neg e2, if_neg e]
        rw [if_neg e2, h3, if_neg (by omega)]
/-! classes -/
section CLASSP
variable {g : Nat → Nat} {sd : Nat}
def mem (g : Nat → Nat) (sd i j : Nat) : Bool := decide (bf_ix (gF g sd ((eF g).2.1 j)) ((eF g).2.1 i) < (gF g sd ((eF g).2.1 j)).1)
def szf (S : bf_T) : Nat := S.1
theorem szf_eq (S : bf_T) : szf S = S.1 := rfl
def sz (g : Nat → Nat) (sd j : Nat) : Nat := szf (gF g sd ((eF g).2.1 j))
theorem sz_eq (j : Nat) : sz g sd j = (gF g sd ((eF g).2.1 j)).1 := by unfold sz; rw [szf_eq]
theorem gF_closed {c0 : Nat} (hc : c0 < 256) {i j : Nat} (hi : i < (gF g sd c0).1) (hj : j < 6) : ∃ k, k < (gF g sd c0).1 ∧ (gF g sd c0).2.1 k = gnx g sd ((gF g sd c0).2.1 i) j := by
  rw [gF_eq] at hi ⊢
  exact bf_closed (N := 256) (by decide) hc gnx_lt hi hj
theorem gF_inj {c0 : Nat} : bf_In (gF g sd c0) := by rw [gF_eq]; exact bf_inj _
theorem gF_0 {c0 : Nat} : (gF g sd c0).2.1 0 = c0 ∧ 1 ≤ (gF g sd c0).1 := by rw [gF_eq]; exact ⟨(bf_q0 _).1, bf_pos _⟩
theorem gF_sub {a b : Nat} (ha : a < 256) (hb : b < 256) (h : ∃ k, k < (gF g sd b).1 ∧ (gF g sd b).2.1 k = a) : ∀ k, k < (gF g sd a).1 → ∃ k', k' < (gF g sd b).1 ∧ (gF g sd b).2.1 k' = (gF g sd a).2.1 k := by
  intro k hk
  have := bf_all (nx := gnx g sd) (q0 := a) (J := 6) (P := fun x => ∃ k', k' < (gF g sd b).1 ∧ (gF g sd b).2.1 k' = x) (by decide) h (fun x j hx hj => by
    obtain ⟨k', hk', ek'⟩ := hx
    rw [← ek']
    exact gF_closed hb hk' hj) (6 * 256) k
  rw [← gF_eq] at this
  exact this hk
theorem mem_iff {i j : Nat} : mem g sd i j = true ↔ ∃ k, k < (gF g sd ((eF g).2.1 j)).1 ∧ (gF g sd ((eF g).2.1 j)).2.1 k = (eF g).2.1 i := by
  unfold mem
  rw [decide_eq_true_eq, bf_ix_iff]
theorem sub_le {a b : Nat} (h : ∀ k, k < (gF g sd a).1 → ∃ k', k' < (gF g sd b).1 ∧ (gF g sd b).2.1 k' = (gF g sd a).2.1 k) : (gF g sd a).1 ≤ (gF g sd b).1 := by
  refine pg_le _ _ (fun k => bf_ix (gF g sd b) ((gF g sd a).2.1 k)) (fun k hk => (bf_ix_iff _ _).mpr (h k hk)) (fun x y hxy hy e => ?_)
  have h1 := bf_ix_at ((bf_ix_iff _ _).mpr (h x (by omega)))
  have h2 := bf_ix_at ((bf_ix_iff _ _).mpr (h y hy))
  have e : bf_ix (gF g sd b) ((gF g sd a).2.1 x) = bf_ix (gF g sd b) ((gF g sd a).2.1 y) := e
  rw [e, h2] at h1
  exact gF_inj x y hxy hy h1.symm
theorem sub_eq {a b c : Nat} (h : ∀ k, k < (gF g sd a).1 → ∃ k', k' < (gF g sd b).1 ∧ (gF g sd b).2.1 k' = (gF g sd a).2.1 k) (he : (gF g sd a).1 = (gF g sd b).1) (hc : ∃ k, k < (gF g sd b).1 ∧ (gF g sd b).2.1 k = c) : ∃ k, k < (gF g sd a).1 ∧ (gF g sd a).2.1 k = c := by
  apply Classical.byContradiction
  intro hn
  have hn : ∀ k, k < (gF g sd a).1 → ¬ (gF g sd a).2.1 k = c := fun k hk e => hn ⟨k, hk, e⟩
  have hf : ∀ k, k < (gF g sd a).1 + 1 → ∃ k', k' < (gF g sd b).1 ∧ (gF g sd b).2.1 k' = (if k < (gF g sd a).1 then (gF g sd a).2.1 k else c) := by
    intro k hk
    by_cases e : k < (gF g sd a).1
    · rw [if_pos e]; exact h k e
    · rw [if_neg e]; exact hc
  have := pg_le (gF g sd b).1 ((gF g sd a).1 + 1) (fun k => bf_ix (gF g sd b) (if k < (gF g sd a).1 then (gF g sd a).2.1 k else c)) (fun k hk => (bf_ix_iff _ _).mpr (hf k hk)) (fun x y hxy hy e => by
    have h1 := bf_ix_at ((bf_ix_iff _ _).mpr (hf x (by omega)))
    have h2 := bf_ix_at ((bf_ix_iff _ _).mpr (hf y hy))
    have e : bf_ix (gF g sd b) (if x < (gF g sd a).1 then (gF g sd a).2.1 x else c) = bf_ix (gF g sd b) (if y < (gF g sd a).1 then (gF g sd a).2.1 y else c) := e
    rw [e, h2] at h1
    rw [if_pos (show x < (gF g sd a).1 by omega)] at h1
    by_cases ey : y < (gF g sd a).1
    · rw [if_pos ey] at h1; exact gF_inj x y hxy ey h1.symm
    · rw [if_neg ey] at h1; exact hn x (by omega) h1.symm)
  omega
theorem bl_aux {p q : Bool} {x y : Nat} (f1 : p = true → x ≤ y) (f2 : q = true → y ≤ x) (f3 : p = true → x = y → q = true) : (p && decide (x = y)) = (q && p) := by
  cases p with
  | false => rw [Bool.false_and, Bool.and_false]
  | true =>
    rw [Bool.true_and, Bool.and_true]
    by_cases e : x = y
    · rw [decide_eq_true e, f3 rfl e]
    · rw [decide_eq_false e]
      cases q with
      | false => rfl
      | true => exact absurd (Nat.le_antisymm (f1 rfl) (f2 rfl)) e
theorem mem_le {i j : Nat} (hi : i < (eF g).1) (hj : j < (eF g).1) (e : mem g sd i j = true) : sz g sd i ≤ sz g sd j := by
  rw [sz_eq, sz_eq]
  exact sub_le (gF_sub (eF_q hi) (eF_q hj) (mem_iff.mp e))
theorem mem_sy {i j : Nat} (hi : i < (eF g).1) (hj : j < (eF g).1) (e : mem g sd i j = true) (h : sz g sd i = sz g sd j) : mem g sd j i = true := by
  rw [mem_iff]
  rw [sz_eq, sz_eq] at h
  have h0 := gF_0 (g := g) (sd := sd) (c0 := (eF g).2.1 j)
  exact sub_eq (gF_sub (eF_q hi) (eF_q hj) (mem_iff.mp e)) h ⟨0, h0.2, h0.1⟩
theorem cls_eq {i j : Nat} (hi : i < (eF g).1) (hj : j < (eF g).1) : (mem g sd i j && decide (sz g sd i = sz g sd j)) = (mem g sd j i && mem g sd i j) :=
  bl_aux (mem_le hi hj) (mem_le hj hi) (mem_sy hi hj)
end CLASSP
def alb (P : Nat → Bool) : Nat → Bool
  | 0 => true
  | i + 1 => alb P i && !P i
theorem alb_cg {P Q : Nat → Bool} : ∀ n, (∀ i, i < n → P i = Q i) → alb P n = alb Q n
  | 0, _ => rfl
  | n + 1, h => by show (alb P n && !P n) = (alb Q n && !Q n); rw [alb_cg n (fun i hi => h i (by omega)), h n (by omega)]
theorem alb_f {P : Nat → Bool} {n : Nat} (m : Nat) (h : alb P n = false) : alb P (n + m) = false := by
  induction m with
  | zero => exact h
  | succ m ih => show (alb P (n + m) && !P (n + m)) = false; rw [ih]; rfl
section GREENC
variable {X : mv_X} {d : Nat} {σ : mv_S} {Q : mv_Q} {M : md_T}
theorem c_idems (m : moC M σ) (hQ : Q (some (.int (nI (fa_cnt (fun i => decide (th ((eF (gL M)).2.1 i) ((eF (gL M)).2.1 i) = (eF (gL M)).2.1 i)) (eF (gL M)).1)))) σ) : mv_wp X (d + 3) 68 [.ref 12] σ Q := by
  have hle := eF_le (g := gL M)
  have loop : ∀ r i, i + r = (eF (gL M)).1 → mv_wf X (mv_wp X (d + 2)) m_Monoid_idempotents Q 4 [.ref 12, .int (nI (fa_cnt (fun i => decide (th ((eF (gL M)).2.1 i) ((eF (gL M)).2.1 i) = (eF (gL M)).2.1 i)) i)), .int (nI i)] [] σ := by
    intro r
    induction r with
    | zero =>
      intro i hi
      refine h_Monoid_idempotents_4 ⟨rfl, ?_⟩
      rw [m.2.2.1.1]
      refine ⟨fun _ => ?_, fun z => absurd (nI_le (by omega) (by omega)) z⟩
      rw [show i = (eF (gL M)).1 by omega]
      exact hQ
    | succ r ih =>
      intro i hi
      refine h_Monoid_idempotents_4 ⟨rfl, ?_⟩
      rw [m.2.2.1.1]
      refine ⟨fun z => absurd z (nI_ge (by omega) (by omega)), fun _ => ⟨rfl, ?_⟩⟩
      refine c_code m (by omega) ⟨_, rfl, ?_⟩
      refine s_isIdem (eF_q (by omega)) ⟨_, rfl, ?_⟩
      have := ih (i + 1) (by omega)
      by_cases e : th ((eF (gL M)).2.1 i) ((eF (gL M)).2.1 i) = (eF (gL M)).2.1 i
      · rw [if_pos e]
        refine ⟨fun z => absurd z (by decide), fun _ => ?_⟩
        rw [fa_cnt_yes (decide_eq_true e)] at this
        rw [nI_1, nI_1]
        exact this
      · rw [if_neg e]
        refine ⟨fun _ => ?_, fun z => absurd rfl z⟩
        rw [fa_cnt_no (decide_eq_false e)] at this
        rw [nI_1]
        exact this
  exact w_Monoid_idempotents (loop (eF (gL M)).1 0 (by omega))
def prd (g : Nat → Nat) (i : Nat) : Nat := pr0 ((eF g).2.1 i) + 1
theorem pr0_le (c : Nat) : pr0 c ≤ 4 := fa_first_le _ _
theorem c_great (m : moC M σ) (hQ : Q (some (.int (nI (mxp (prd (gL M)) (eF (gL M)).1)))) σ) : mv_wp X (d + 3) 69 [.ref 12] σ Q := by
  have hle := eF_le (g := gL M)
  have hlt : ∀ i, prd (gL M) i < 6 := fun i => by unfold prd; have := pr0_le ((eF (gL M)).2.1 i); omega
  have hml := mxp_lt hlt (by decide)
  have loop : ∀ r i v, i + r = (eF (gL M)).1 → (v = mxp (prd (gL M)) i ∨ (i = 0 ∧ v = 1)) → mv_wf X (mv_wp X (d + 2)) m_Monoid_greatestPeriod Q 4 [.ref 12, .int (nI v), .int (nI i)] [] σ := by
    intro r
    induction r with
    | zero =>
      intro i v hi hv
      have hp := eF_pos (g := gL M)
      have hv : v = mxp (prd (gL M)) i := hv.resolve_right (by omega)
      refine h_Monoid_greatestPeriod_4 ⟨rfl, ?_⟩
      rw [m.2.2.1.1]
      refine ⟨fun _ => ?_, fun z => absurd (nI_le (by omega) (by omega)) z⟩
      rw [hv, show i = (eF (gL M)).1 by omega]
      exact hQ
    | succ r ih =>
      intro i v hi hv
      have h1 := hlt i
      have h2 := hml i
      refine h_Monoid_greatestPeriod_4 ⟨rfl, ?_⟩
      rw [m.2.2.1.1]
      refine ⟨fun z => absurd z (nI_ge (by omega) (by omega)), fun _ => ⟨rfl, ?_⟩⟩
      refine c_periodOf m (by omega) ⟨_, rfl, ?_⟩
      change mv_wf X (mv_wp X (d + 2)) m_Monoid_greatestPeriod Q 4 [.ref 12, .int (if nI v < nI (prd (gL M) i) then nI (prd (gL M) i) else nI v), .int (nI i + 1)] [] σ
      rw [nI_1]
      have hv6 : v < 6 := by rcases hv with z | z <;> omega
      have hs : mxp (prd (gL M)) (i + 1) = if mxp (prd (gL M)) i < prd (gL M) i then prd (gL M) i else mxp (prd (gL M)) i := rfl
      have hp1 : 1 ≤ prd (gL M) i := by unfold prd; omega
      by_cases e : v < prd (gL M) i
      · rw [if_pos (nI_lt e (by omega))]
        refine ih (i + 1) _ (by omega) (Or.inl ?_)
        rw [hs]
        rcases hv with z | ⟨z1, z2⟩
        · rw [← z, if_pos e]
        · subst z1
          rw [show mxp (prd (gL M)) 0 = 0 from rfl, if_pos (by omega)]
      · rw [if_neg (nI_nlt (by omega) (by omega))]
        refine ih (i + 1) _ (by omega) (Or.inl ?_)
        rw [hs]
        rcases hv with z | ⟨z1, z2⟩
        · rw [← z, if_neg e]
        · subst z1
          rw [show mxp (prd (gL M)) 0 = 0 from rfl, if_pos (by omega)]
          omega
  exact w_Monoid_greatestPeriod (loop (eF (gL M)).1 0 1 (by omega) (Or.inr ⟨rfl, rfl⟩))
def tkn (M : md_T) (i : Nat) : Bool := (lE M).testBit (at4 ((eF (gL M)).2.1 i) 0)
theorem lE_16 (hM : md_ok M) : lE M < 16 := by
  unfold lE
  have h1 := bs_lt (fun i => M.2.2.1.testBit ((lF M).2.1 i)) (lF M).1
  have h2 : 2 ^ (lF M).1 ≤ 2 ^ 4 := Nat.pow_le_pow_right (by decide) (lF_4 hM)
  omega
theorem c_isTaken {i : Nat} (hM : md_ok M) (m : moC M σ) (hi : i < (eF (gL M)).1) (hQ : Q (some (.int (if tkn M i = true then 1 else 0))) σ) : mv_wp X (d + 2) 65 [.ref 12, .int (nI i)] σ Q := by
  have h16 := lE_16 hM
  refine (w_Monoid_isTaken _ _ _ _ _).mpr ⟨rfl, rfl, rfl, ?_⟩
  refine c_code m hi ⟨_, rfl, ?_⟩
  have ea : at4 ((eF (gL M)).2.1 i) 0 = (eF (gL M)).2.1 i % 4 := by unfold at4; rw [Nat.pow_zero, Nat.div_one]
  rw [m.1.2.1, q_and3, ← ea]
  have hl := at4_lt ((eF (gL M)).2.1 i) 0
  have e := tb_1 (a := lE M) (k := at4 ((eF (gL M)).2.1 i) 0) (by omega) (by omega)
  by_cases h : tkn M i = true
  · rw [if_pos h] at hQ
    exact ⟨fun z => absurd (e.mpr h) z, fun _ => ⟨Or.inr rfl, hQ⟩⟩
  · rw [if_neg h] at hQ
    exact ⟨fun _ => ⟨Or.inl rfl, hQ⟩, fun z => absurd (e.mp z) h⟩
theorem c_taken (hM : md_ok M) (m : moC M σ) (hQ : Q (some (.int (nI (fa_cnt (tkn M) (eF (gL M)).1)))) σ) : mv_wp X (d + 3) 70 [.ref 12] σ Q := by
  have hle := eF_le (g := gL M)
  have loop : ∀ r i, i + r = (eF (gL M)).1 → mv_wf X (mv_wp X (d + 2)) m_Monoid_takenElements Q 4 [.ref 12, .int (nI (fa_cnt (tkn M) i)), .int (nI i)] [] σ := by
    intro r
    induction r with
    | zero =>
      intro i hi
      refine h_Monoid_takenElements_4 ⟨rfl, ?_⟩
      rw [m.2.2.1.1]
      refine ⟨fun _ => ?_, fun z => absurd (nI_le (by omega) (by omega)) z⟩
      rw [show i = (eF (gL M)).1 by omega]
      exact hQ
    | succ r ih =>
      intro i hi
      refine h_Monoid_takenElements_4 ⟨rfl, ?_⟩
      rw [m.2.2.1.1]
      refine ⟨fun z => absurd z (nI_ge (by omega) (by omega)), fun _ => ⟨rfl, ?_⟩⟩
      refine c_isTaken hM m (by omega) ⟨_, rfl, ?_⟩
      have := ih (i + 1) (by omega)
      by_cases e : tkn M i = true
      · rw [if_pos e]
        refine ⟨fun z => absurd z (by decide), fun _ => ?_⟩
        rw [fa_cnt_yes e] at this
        rw [nI_1, nI_1]
        exact this
      · rw [if_neg e]
        refine ⟨fun _ => ?_, fun z => absurd rfl z⟩
        rw [fa_cnt_no (Bool.eq_false_iff.mpr e)] at this
        rw [nI_1]
        exact this
  exact w_Monoid_takenElements (loop (eF (gL M)).1 0 (by omega))
theorem c_isZero {c : Nat} (hM : md_ok M) (m : moC M σ) (hc : c < 256) (hQ : Q (some (.int (if zb (gL M) c = true then 1 else 0))) σ) : mv_wp X (d + 3) 72 [.ref 12, .int (nI c)] σ Q := by
  have loop : ∀ r l, l + r = 3 → zb (gL M) c = zF (gL M) c r l → mv_wf X (mv_wp X (d + 2)) m_Monoid_isZero Q 2 [.ref 12, .int (nI c), .int (nI l)] [] σ := by
    intro r
    induction r with
    | zero =>
      intro l hl he
      obtain rfl : l = 3 := by omega
      rw [he] at hQ
      exact h_Monoid_isZero_2 ⟨fun _ => ⟨Or.inr rfl, hQ⟩, fun z => absurd (show (3 : Int32) ≤ nI 3 by decide) z⟩
    | succ r ih =>
      intro l hl he
      have hgl := gl_256 hM (show l < 3 by omega)
      have he : zb (gL M) c = ((decide (th c (gL M l) = c) && decide (th (gL M l) c = c)) && zF (gL M) c r (l + 1)) := he
      have t1 := th_lt c (gL M l)
      have t2 := th_lt (gL M l) c
      refine h_Monoid_isZero_2 ⟨fun z => absurd z (nI_ge (b := 3) (by omega) (by omega)), fun _ => ⟨rfl, ?_⟩⟩
      refine s_behind hc hgl (by omega) (m.2.1 l (by omega)) ⟨_, rfl, ?_⟩
      by_cases e1 : th c (gL M l) = c
      · rw [e1]
        refine ⟨fun z => absurd rfl z, fun _ => ⟨rfl, ?_⟩⟩
        refine s_ahead hc hgl (by omega) (m.2.1 l (by omega)) ⟨_, rfl, ?_⟩
        by_cases e2 : th (gL M l) c = c
        · rw [e2]
          refine ⟨fun _ => ?_, fun z => absurd rfl z⟩
          rw [decide_eq_true e1, decide_eq_true e2, Bool.true_and, Bool.true_and] at he
          rw [nI_1]
          exact ih (l + 1) (by omega) he
        · rw [decide_eq_false e2, Bool.and_false, Bool.false_and] at he
          rw [he] at hQ
          exact ⟨fun z => absurd (nI_28 (by omega) (by omega) z) e2, fun _ => ⟨Or.inl rfl, hQ⟩⟩
      · rw [decide_eq_false e1, Bool.false_and, Bool.false_and] at he
        rw [he] at hQ
        exact ⟨fun _ => ⟨Or.inl rfl, hQ⟩, fun z => absurd (nI_28 (by omega) (by omega) z) e1⟩
  exact w_Monoid_isZero (loop 3 0 rfl (zF_eq _ _).symm)
theorem c_zero (hM : md_ok M) (m : moC M σ) (hQ : Q (some (.int (fz (fun i => zb (gL M) ((eF (gL M)).2.1 i)) (eF (gL M)).1))) σ) : mv_wp X (d + 4) 71 [.ref 12] σ Q := by
  have hle := eF_le (g := gL M)
  have loop : ∀ r i, i + r = (eF (gL M)).1 → (∀ j, j < i → zb (gL M) ((eF (gL M)).2.1 j) = false) → mv_wf X (mv_wp X (d + 3)) m_Monoid_zero Q 2 [.ref 12, .int (nI i)] [] σ := by
    intro r
    induction r with
    | zero =>
      intro i hi hn
      refine h_Monoid_zero_2 ⟨rfl, ?_⟩
      rw [m.2.2.1.1]
      refine ⟨fun _ => ?_, fun z => absurd (nI_le (by omega) (by omega)) z⟩
      unfold fz at hQ
      rw [if_neg (ff_none (fun k hk => hn k (by omega)))] at hQ
      exact hQ
    | succ r ih =>
      intro i hi hn
      refine h_Monoid_zero_2 ⟨rfl, ?_⟩
      rw [m.2.2.1.1]
      refine ⟨fun z => absurd z (nI_ge (by omega) (by omega)), fun _ => ⟨rfl, ?_⟩⟩
      refine c_code m (by omega) ⟨_, rfl, rfl, ?_⟩
      refine c_isZero hM m (eF_q (by omega)) ⟨_, rfl, ?_⟩
      by_cases e : zb (gL M) ((eF (gL M)).2.1 i) = true
      · rw [if_pos e]
        refine ⟨fun z => absurd z (by decide), fun _ => ?_⟩
        have : fa_first (fun i => zb (gL M) ((eF (gL M)).2.1 i)) (eF (gL M)).1 = i := ff_eq hn (by omega) e
        unfold fz at hQ
        rw [this, if_pos (by omega)] at hQ
        exact hQ
      · rw [if_neg e]
        refine ⟨fun _ => ?_, fun z => absurd rfl z⟩
        rw [nI_1]
        refine ih (i + 1) (by omega) (fun j hj => ?_)
        by_cases ej : j = i
        · rw [ej]; exact Bool.eq_false_iff.mpr e
        · exact hn j (by omega)
  exact w_Monoid_zero (loop (eF (gL M)).1 0 (by omega) (fun j hj => absurd hj (Nat.not_lt_zero _)))
def clc (g : Nat → Nat) (sd j : Nat) : Bool := alb (fun i => mem g sd j i && mem g sd i j) j
def frc (σ τ : mv_S) : Prop := (∀ c j, ¬ (24 ≤ c ∧ c ≤ 26) → ¬ (c = 12 ∧ j = 13) → τ.1 c j = σ.1 c j) ∧ τ.2 = σ.2
theorem frc_C {τ : mv_S} (h : frc σ τ) (m : moC M σ) : moC M τ := moC_S (fun c j q => h.1 c j (by omega) (by omega)) m
theorem S_c {τ : mv_S} (h : frc σ τ) : frS σ τ := ⟨fun c j q => h.1 c j (fun z => q (by unfold sc2; omega)) (fun z => q (by unfold sc2; omega)), h.2⟩
theorem c_classes {G sd : Nat} (hG : G + 257 < 2 ^ 30) (hM : md_ok M) (m : moC M σ) (g0 : iv_G G σ) (hsd : sd < 3) (hQ : ∀ τ, iv_G (G + (eF (gL M)).1) τ → frc σ τ → Q (some (.int (nI (fa_cnt (clc (gL M) sd) (eF (gL M)).1)))) τ) : mv_wp X (d + 4) 77 [.ref 12, .int (nI sd)] σ Q := by
  have hle := eF_le (g := gL M)
  have outer : ∀ r j (τ : mv_S), j + r = (eF (gL M)).1 → iv_G (G + j) τ → (∀ i, i < j → τ.1 26 i = nI (sz (gL M) sd i)) → frc σ τ → mv_wf X (mv_wp X (d + 3)) m_Monoid_classesBy Q 4 [.ref 12, .int (nI sd), .int (nI (fa_cnt (clc (gL M) sd) j)), .int (nI j), .retAddr 0, .retAddr 0] [] τ := by
    intro r
    induction r with
    | zero =>
      intro j τ hj gj hs hf
      refine h_Monoid_classesBy_4 ⟨rfl, ?_⟩
      rw [(frc_C hf m).2.2.1.1]
      refine ⟨fun _ => ?_, fun z => absurd (nI_le (by omega) (by omega)) z⟩
      have := hQ τ (by rw [show (eF (gL M)).1 = j by omega]; exact gj) hf
      rw [show j = (eF (gL M)).1 by omega]
      exact this
    | succ r ih =>
      intro j τ hj gj hs hf
      have mj := frc_C hf m
      have hjl : j < (eF (gL M)).1 := by omega
      refine h_Monoid_classesBy_4 ⟨rfl, ?_⟩
      rw [mj.2.2.1.1]
      refine ⟨fun z => absurd z (nI_ge (by omega) (by omega)), fun _ => ⟨fun z => absurd z (nI_ge (b := 256) (by omega) (by omega)), fun _ => ⟨rfl, rfl, ?_⟩⟩⟩
      refine s_gatherFrom (by omega) hM mj gj hsd hjl (fun τ2 p1 p2 => ⟨_, rfl, ⟨rfl, vp_in_nI (N := 256) (by omega) (by omega)⟩, ?_⟩)
      rw [nI_clamp (by omega)]
      rw [← sz_eq]
      have lim : ∀ i, i < (eF (gL M)).1 → sz (gL M) sd i ≤ 256 := fun i hi => by rw [sz_eq]; exact gF_le (eF_q hi)
      generalize hυ : mv_pi τ2 26 j (nI (sz (gL M) sd j)) = υ
      have u1 : gaC (G + j + 1) (gF (gL M) sd ((eF (gL M)).2.1 j)) υ := by
        rw [← hυ]
        refine ⟨?_, fun i hi => ?_, fun c hc => ?_⟩
        · rw [mv_rn (by omega)]; exact p1.1
        · rw [mv_rn (by omega)]; exact p1.2.1 i hi
        · rw [mv_rn (by omega)]; exact p1.2.2 c hc
      have u2 : ∀ i, i < j + 1 → υ.1 26 i = nI (sz (gL M) sd i) := fun i hi => by
        rw [← hυ]
        by_cases e : i = j
        · subst e; exact mv_rd
        · rw [mv_rn (by omega), p2.1 26 i (by omega) (by omega) (by omega)]; exact hs i (by omega)
      have u3 : frc σ υ := ⟨fun c i q1 q2 => by rw [← hυ, mv_rn (by omega), p2.1 c i (by omega) (by omega) q2]; exact hf.1 c i q1 q2, by rw [← hυ]; exact p2.2.trans hf.2⟩
      have mυ := frc_C u3 m
      have cn : fa_cnt (clc (gL M) sd) (j + 1) = fa_cnt (clc (gL M) sd) j + if clc (gL M) sd j = true then 1 else 0 := rfl
      have nx := ih (j + 1) υ (by omega) (gaC_G u1) u2 u3
      have fin : ∀ b, b = clc (gL M) sd j → ((if b = true then (1 : Int32) else 0) = 0 → mv_wf X (mv_wp X (d + 3)) m_Monoid_classesBy Q 4 [.ref 12, .int (nI sd), .int (nI (fa_cnt (clc (gL M) sd) j)), .int (nI j + 1), .retAddr 0, .retAddr 0] [] υ) ∧ (¬ (if b = true then (1 : Int32) else 0) = 0 → mv_wf X (mv_wp X (d + 3)) m_Monoid_classesBy Q 4 [.ref 12, .int (nI sd), .int (nI (fa_cnt (clc (gL M) sd) j) + 1), .int (nI j + 1), .retAddr 0, .retAddr 0] [] υ) := by
        intro b hb
        rw [nI_1, nI_1]
        rw [cn, ← hb] at nx
        cases b with
        | false =>
          rw [if_neg (by decide)] at nx
          exact ⟨fun _ => nx, fun z => absurd rfl z⟩
        | true =>
          rw [if_pos rfl] at nx
          exact ⟨fun z => absurd z (by decide), fun _ => nx⟩
      have inner : ∀ s i b, i + s = j → b = alb (fun i => mem (gL M) sd j i && mem (gL M) sd i j) i → mv_wf X (mv_wp X (d + 3)) m_Monoid_classesBy Q 37 [.ref 12, .int (nI sd), .int (nI (fa_cnt (clc (gL M) sd) j)), .int (nI j), .int (if b = true then 1 else 0), .int (nI i)] [] υ := by
        intro s
        induction s with
        | zero =>
          intro i b hi hb
          obtain rfl : i = j := by omega
          exact h_Monoid_classesBy_37 ⟨fun _ => fin b hb, fun z => absurd (nI_le (Nat.le_refl _) (by omega)) z⟩
        | succ s ih2 =>
          intro i b hi hb
          refine h_Monoid_classesBy_37 ⟨fun z => absurd z (nI_ge (by omega) (by omega)), fun _ => ?_⟩
          cases b with
          | false =>
            have : clc (gL M) sd j = false := by
              unfold clc
              rw [show j = i + (j - i) by omega]
              rw [show i + (j - i) = j by omega]
              have h5 := alb_f (P := fun i => mem (gL M) sd j i && mem (gL M) sd i j) (n := i) (j - i) hb.symm
              rw [show i + (j - i) = j by omega] at h5
              exact h5
            have f0 := fin false this.symm
            exact ⟨fun _ => f0, fun z => absurd rfl z⟩
          | true =>
            refine ⟨fun z => absurd z (by decide), fun _ => ⟨rfl, ?_⟩⟩
            refine c_isGathered (by omega) mυ u1 (show i < (eF (gL M)).1 by omega) ⟨_, rfl, ?_⟩
            have st : ∀ v : Bool, v = (mem (gL M) sd j i && mem (gL M) sd i j) → alb (fun i => mem (gL M) sd j i && mem (gL M) sd i j) (i + 1) = !v := fun v hv => by
              show (alb (fun i => mem (gL M) sd j i && mem (gL M) sd i j) i && !(mem (gL M) sd j i && mem (gL M) sd i j)) = _
              rw [← hb, Bool.true_and, hv]
            have ce := cls_eq (g := gL M) (sd := sd) (show i < (eF (gL M)).1 by omega) hjl
            have me : mem (gL M) sd i j = decide (bf_ix (gF (gL M) sd ((eF (gL M)).2.1 j)) ((eF (gL M)).2.1 i) < (gF (gL M) sd ((eF (gL M)).2.1 j)).1) := rfl
            rw [nI_1]
            by_cases e : bf_ix (gF (gL M) sd ((eF (gL M)).2.1 j)) ((eF (gL M)).2.1 i) < (gF (gL M) sd ((eF (gL M)).2.1 j)).1
            · rw [if_pos e]
              rw [decide_eq_true e] at me
              rw [me, Bool.true_and] at ce
              rw [me] at st
              refine ⟨fun z => absurd z (by decide), fun _ => ⟨rfl, ⟨rfl, vp_in_nI (N := 256) (by omega) (by omega)⟩, rfl, ⟨rfl, vp_in_nI (N := 256) (by omega) (by omega)⟩, ?_⟩⟩
              rw [nI_clamp (by omega), nI_clamp (by omega), u2 i (by omega), u2 j (by omega)]
              have l1 := lim i (by omega)
              have l2 := lim j hjl
              by_cases es : sz (gL M) sd i = sz (gL M) sd j
              · rw [decide_eq_true es] at ce
                rw [es]
                exact ⟨fun _ => ih2 (i + 1) false (by omega) (st true ce).symm, fun z => absurd rfl z⟩
              · rw [decide_eq_false es] at ce
                exact ⟨fun z => absurd (nI_28 (by omega) (by omega) z) es, fun _ => ih2 (i + 1) true (by omega) (st false ce).symm⟩
            · rw [if_neg e]
              rw [decide_eq_false e] at me
              rw [me, Bool.and_false] at st
              exact ⟨fun _ => ih2 (i + 1) true (by omega) (st false rfl).symm, fun z => absurd rfl z⟩
      exact inner j 0 true (by omega) rfl
  exact w_Monoid_classesBy (outer (eF (gL M)).1 0 σ (by omega) g0 (fun i hi => absurd hi (Nat.not_lt_zero _)) ⟨fun _ _ _ _ => rfl, rfl⟩)
end GREENC
