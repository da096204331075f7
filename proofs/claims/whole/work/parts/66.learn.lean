/-! ===== the class learns a machine ===== -/
theorem l_sh (a k : Nat) (y : Int64) (hy : y.toBitVec.smod 64 = BitVec.ofNat 64 k) (hk : k < 64) : lN a <<< y = lN (a * 2 ^ k) := by
  apply Int64.toBitVec_inj.1
  rw [Int64.toBitVec_shiftLeft, hy]
  apply BitVec.eq_of_toNat_eq
  show (BitVec.ofNat 64 a <<< BitVec.ofNat 64 k).toNat = (BitVec.ofNat 64 (a * 2 ^ k)).toNat
  rw [BitVec.shiftLeft_eq', BitVec.toNat_shiftLeft, BitVec.toNat_ofNat, BitVec.toNat_ofNat, BitVec.toNat_ofNat, Nat.mod_eq_of_lt (show k < 2 ^ 64 by omega), Nat.shiftLeft_eq, Nat.mul_mod, Nat.mod_mod, ← Nat.mul_mod]
theorem fb_orL (a b : Nat) : lN a ||| lN b = lN (a ||| b) := by
  apply Int64.toBitVec_inj.1
  show BitVec.ofNat 64 a ||| BitVec.ofNat 64 b = BitVec.ofNat 64 (a ||| b)
  apply BitVec.eq_of_getLsbD_eq
  intro i hi
  simp [hi]
theorem l_s2 (a m : Nat) (hm : m < 4) : (lN a <<< ((2 : Int32).toInt64 &&& 63)) ||| (nI m).toInt64 = lN (a * 4 + m) := by
  rw [l_sh a 2 _ (by decide) (by decide), nI_l (by omega), fb_orL, Nat.mul_comm a, show 2 ^ 2 * a ||| m = 2 ^ 2 * a + m from (Nat.two_pow_add_eq_or_of_lt (by omega) _).symm]
theorem l_s4 (a m : Nat) (hm : m < 16) : (lN a <<< ((4 : Int32).toInt64 &&& 63)) ||| (nI m).toInt64 = lN (a * 16 + m) := by
  rw [l_sh a 4 _ (by decide) (by decide), nI_l (by omega), fb_orL, Nat.mul_comm a, show 2 ^ 4 * a ||| m = 2 ^ 4 * a + m from (Nat.two_pow_add_eq_or_of_lt (by omega) _).symm]
theorem lg_0 {a b : Int64} : lg_cmp a b = 0 ↔ a = b := by
  constructor
  · intro h
    have h1 : ¬ lg_cmp a b < 0 := by rw [h]; decide
    have h2 : ¬ 0 < lg_cmp a b := by rw [h]; decide
    rw [lg_cmp_lt, fa_lt64] at h1
    rw [lg_cmp_gt, fa_lt64] at h2
    rw [fa_eq64]
    omega
  · rintro rfl; exact lw_cmp a
def kq (M : md_T) : Nat → Nat
  | 0 => (M.1 * 4 + M.2.1) * 16 + M.2.2.1
  | j + 1 => kq M j * 4 + M.2.2.2 j
theorem kq_lt {M : md_T} (h : md_ok M) : kq M 12 < 2 ^ 40 := by
  have e := md_e16 h
  obtain ⟨o1, o2, o3, o4, o5, o6⟩ := h
  have b0 : kq M 0 < 320 := by show (M.1 * 4 + M.2.1) * 16 + M.2.2.1 < 320; omega
  have st : ∀ j, j ≤ 12 → kq M j < 320 * 4 ^ j := by
    intro j
    induction j with
    | zero => intro _; rw [Nat.pow_zero]; omega
    | succ j ih =>
      intro hj
      have := ih (by omega)
      have := o5 j (by omega)
      show kq M j * 4 + M.2.2.2 j < 320 * 4 ^ (j + 1)
      rw [Nat.pow_succ]
      omega
  exact Nat.lt_of_lt_of_le (st 12 (Nat.le_refl _)) (by decide)
/-- machines whose rows say nothing behind their end -/
def md_n (M : md_T) : Prop := ∀ j, 12 ≤ j → M.2.2.2 j = 0
def nrm (M : md_T) : md_T := (M.1, M.2.1, M.2.2.1, fun j => if j < 12 then M.2.2.2 j else 0)
theorem nrm_n (M : md_T) : md_n (nrm M) := fun j hj => if_neg (by omega)
theorem nrm_j (M : md_T) {j : Nat} (h : j < 12) : (nrm M).2.2.2 j = M.2.2.2 j := if_pos h
theorem nrm_ok {M : md_T} (h : md_ok M) : md_ok (nrm M) := by
  obtain ⟨o1, o2, o3, o4, o5, o6⟩ := h
  refine ⟨o1, o2, o3, o4, fun j hj => ?_, fun j hj => ?_⟩
  · rw [nrm_j M hj]; exact o5 j hj
  · have hj : j < 3 * M.1 := hj
    rw [nrm_j M (by omega)]; exact o6 j hj
theorem nrm_cl {σ : mv_S} {t : Nat} {M : md_T} (h : cl_M σ t M) : cl_M σ t (nrm M) := ⟨h.1, h.2.1, h.2.2.1, fun j hj => by rw [nrm_j M hj]; exact h.2.2.2 j hj⟩
theorem nrm_rf {σ : mv_S} {c k : Nat} {M : md_T} (h : rf_M σ c k M) : rf_M σ c k (nrm M) := ⟨h.1, h.2.1, h.2.2.1, fun j hj => by rw [nrm_j M hj]; exact h.2.2.2 j hj⟩
theorem md_ext {M N : md_T} (hM : md_n M) (hN : md_n N) (h1 : M.1 = N.1) (h2 : M.2.1 = N.2.1) (h3 : M.2.2.1 = N.2.2.1) (h4 : ∀ j, j < 12 → M.2.2.2 j = N.2.2.2 j) : M = N := by
  refine Prod.ext h1 (Prod.ext h2 (Prod.ext h3 (funext fun j => ?_)))
  by_cases e : j < 12
  · exact h4 j e
  · rw [hM j (by omega), hN j (by omega)]
theorem kq_inj {M N : md_T} (oM : md_ok M) (oN : md_ok N) (hM : md_n M) (hN : md_n N) (h : kq M 12 = kq N 12) : M = N := by
  have eM := md_e16 oM
  have eN := md_e16 oN
  obtain ⟨a1, a2, a3, a4, a5, a6⟩ := oM
  obtain ⟨b1, b2, b3, b4, b5, b6⟩ := oN
  have st : ∀ i, i ≤ 12 → kq M (12 - i) = kq N (12 - i) := by
    intro i
    induction i with
    | zero => intro _; exact h
    | succ i ih =>
      intro hi
      have := ih (by omega)
      rw [show 12 - i = (12 - (i + 1)) + 1 by omega] at this
      have this : kq M (12 - (i + 1)) * 4 + M.2.2.2 (12 - (i + 1)) = kq N (12 - (i + 1)) * 4 + N.2.2.2 (12 - (i + 1)) := this
      have := a5 (12 - (i + 1)) (by omega)
      have := b5 (12 - (i + 1)) (by omega)
      omega
  have z := st 12 (Nat.le_refl _)
  have z : (M.1 * 4 + M.2.1) * 16 + M.2.2.1 = (N.1 * 4 + N.2.1) * 16 + N.2.2.1 := z
  refine md_ext hM hN (by omega) (by omega) (by omega) (fun j hj => ?_)
  have s1 := st (12 - (j + 1)) (by omega)
  have s0 := st (12 - j) (by omega)
  rw [show 12 - (12 - (j + 1)) = j + 1 by omega] at s1
  rw [show 12 - (12 - j) = j by omega] at s0
  have s1 : kq M j * 4 + M.2.2.2 j = kq N j * 4 + N.2.2.2 j := s1
  omega
theorem lN_40 {a b : Nat} (ha : a < 2 ^ 40) (hb : b < 2 ^ 40) (h : lN a = lN b) : a = b := by
  have h1 : (lN a).toInt = (lN b).toInt := by rw [h]
  rw [show (lN a).toInt = (a : Int) from lg_ofNat_toInt (by omega), show (lN b).toInt = (b : Int) from lg_ofNat_toInt (by omega)] at h1
  omega
theorem lN_m1 {a : Nat} (ha : a < 2 ^ 40) : ¬ lN a = -1 := by
  intro h
  have h1 : (lN a).toInt = (-1 : Int64).toInt := by rw [h]
  rw [show (lN a).toInt = (a : Int) from lg_ofNat_toInt (by omega), show (-1 : Int64).toInt = -1 by decide] at h1
  omega
/-- what stands when s steps of the search are done -/
def elC (g : Nat → Nat) (s : Nat) (σ : mv_S) : Prop := σ.1 12 11 = nI (eS g s).1 ∧ σ.1 12 12 = (if tf g s = true then 1 else 0) ∧ (∀ i, i < (eS g s).1 → σ.1 18 i = nI ((eS g s).2.1 i) ∧ σ.1 20 i = nI ((eF g).2.2 i / 3) ∧ σ.1 21 i = nI ((eF g).2.2 i % 3) ∧ σ.1 22 i = nI (eln g i)) ∧ ∀ c, c < 256 → σ.1 19 c = if bf_ix (eS g s) c < (eS g s).1 then nI (bf_ix (eS g s) c) else -1
def frE (σ τ : mv_S) : Prop := (∀ c j, ¬ (c = 12 ∧ (j = 11 ∨ j = 12)) → ¬ (18 ≤ c ∧ c ≤ 22) → τ.1 c j = σ.1 c j) ∧ τ.2 = σ.2
theorem frE_tr {a b c : mv_S} (h : frE a b) (g : frE b c) : frE a c := ⟨fun x j q1 q2 => (g.1 x j q1 q2).trans (h.1 x j q1 q2), g.2.trans h.2⟩
section LEARN
variable {X : mv_X} {d : Nat} {σ : mv_S} {Q : mv_Q} {M : md_T} {t : Nat} {g : Nat → Nat}
theorem s_key (ht : mc_at t) (hM : md_ok M) (hc : cl_M σ t M) (hQ : Q (some (.long (lN (kq M 12)))) σ) : mv_wp X (d + 1) 17 [.ref t] σ Q := by
  have e16 := md_e16 hM
  have ht1 := ht.1
  have loop : ∀ r j, j + r = 12 → mv_wf X (mv_wp X d) m_Machine_key Q 28 [.ref t, .long (lN (kq M j)), .retAddr 0, .int (nI j)] [] σ := by
    intro r
    induction r with
    | zero =>
      intro j hj
      obtain rfl : j = 12 := by omega
      refine h_Machine_key_28 ⟨ht1, ?_⟩
      rw [ht.2.1, ht.2.2.1, ht.2.2.2]
      exact ⟨by decide, fun _ => hQ, fun z => absurd (show Int32.ofNat 12 ≤ nI 12 by decide) z⟩
    | succ r ih =>
      intro j hj
      refine h_Machine_key_28 ⟨ht1, ?_⟩
      rw [ht.2.1, ht.2.2.1, ht.2.2.2, nI_clamp (by omega), hc.2.2.2 j (by omega), l_s2 _ _ (hM.2.2.2.2.1 j (by omega)), nI_1]
      exact ⟨by decide, fun z => absurd z (nI_ge (b := 12) (by omega) (by omega)), fun _ => ⟨ht1, ⟨rfl, vp_in_nI (N := 12) (by omega) (by omega)⟩, ih (j + 1) (by omega)⟩⟩
  refine w_Machine_key ⟨ht1, ht1, ht1, ?_⟩
  have h1 := hM.2.1
  have h2 := hM.2.2.1
  rw [hc.1, hc.2.1, hc.2.2.1, nI_l (by omega), l_s2 _ _ (by omega), l_s4 _ _ e16]
  exact loop 12 0 rfl
theorem s_elL {i : Nat} (hi : i < 256) (h17 : ∀ l, l < 3 → σ.1 17 l = nI (g l)) (hg : ∀ l, l < 3 → g l < 256)
    (hK : ∀ τ, elC g (3 * i + 3) τ → frE σ τ → mv_wf X (mv_wp X (d + 2)) m_Monoid_findElements Q 29 [.ref 12, .int (nI (i + 1)), .retAddr 0, .retAddr 0] [] τ) :
    ∀ r l (τ : mv_S), l + r = 3 → i < (eS g (3 * i + l)).1 → elC g (3 * i + l) τ → frE σ τ → mv_wf X (mv_wp X (d + 2)) m_Monoid_findElements Q 46 [.ref 12, .int (nI i), .int (nI l), .retAddr 0] [] τ := by
  intro r
  induction r with
  | zero =>
    intro l τ hl hlt he hf
    obtain rfl : l = 3 := by omega
    refine h_Monoid_findElements_46 ⟨fun _ => ?_, fun z => absurd (show (3 : Int32) ≤ nI 3 by decide) z⟩
    rw [nI_1]
    exact hK τ he hf
  | succ r ih =>
    intro l τ hl hlt he hf
    have hs1 : (3 * i + l) / 3 = i := by omega
    have hs2 : (3 * i + l) % 3 = l := by omega
    have up := eS_up (g := g) (s := 3 * i + l) (by rw [hs1]; exact hlt)
    have nw := eln_new (g := g) (s := 3 * i + l) (by omega) (by rw [hs1]; exact hlt)
    have m1 := bf_mono1 (nx := enx g) (q0 := 228) (J := 3) (3 * i + l)
    rw [← eS_eq, ← eS_eq] at m1
    have tfe : tf g (3 * i + l + 1) = (tf g (3 * i + l) || decide (enx g ((eS g (3 * i + l)).2.1 i) l = 228)) := by
      show (tf g (3 * i + l) || (decide ((3 * i + l) / 3 < (eS g (3 * i + l)).1) && decide (enx g ((eS g (3 * i + l)).2.1 ((3 * i + l) / 3)) ((3 * i + l) % 3) = 228))) = _
      rw [hs1, hs2, decide_eq_true hlt, Bool.true_and]
    rw [hs1, hs2] at up nw
    have hq := eS_q (g := g) hlt
    have hle := eS_le (g := g) (3 * i + l)
    have hle1 := eS_le (g := g) (3 * i + l + 1)
    have h17' : τ.1 17 l = nI (g l) := (hf.1 _ _ (by omega) (by omega)).trans (h17 l (by omega))
    refine h_Monoid_findElements_46 ⟨fun z => absurd z (nI_ge (b := 3) (by omega) (by omega)), fun _ => ⟨rfl, ⟨rfl, vp_in_nI (N := 256) hi (by omega)⟩, rfl, ?_⟩⟩
    rw [nI_clamp (by omega), (he.2.2.1 i hlt).1]
    refine s_behind hq (hg l (by omega)) (by omega) h17' ⟨_, rfl, ?_⟩
    have hx := enx_lt (g := g) _ l hq (by omega)
    change enx g ((eS g (3 * i + l)).2.1 i) l < 256 at hx
    have exx : th ((eS g (3 * i + l)).2.1 i) (g l) = enx g ((eS g (3 * i + l)).2.1 i) l := rfl
    rw [exx]
    generalize hxd : enx g ((eS g (3 * i + l)).2.1 i) l = x at *
    have main : ∀ υ : mv_S, υ.1 12 11 = nI (eS g (3 * i + l)).1 → υ.1 12 12 = (if tf g (3 * i + l + 1) = true then 1 else 0) → (∀ c j, ¬ (c = 12 ∧ j = 12) → υ.1 c j = τ.1 c j) → υ.2 = τ.2 →
        mv_wp X (d + 2) 58 [.ref 12, .int (nI x)] υ (fun r2 σ2 => ∃ v2, r2 = some (.int v2) ∧ ((¬ v2 = (-1) → mv_wf X (mv_wp X (d + 2)) m_Monoid_findElements Q 46 [.ref 12, .int (nI i), .int (nI l + 1), .retAddr 0] [] σ2) ∧ (v2 = (-1) → mv_sh 12 = 5 ∧ mv_wp X (d + 2) 81 [.ref 12, .int (nI x), .int (nI i), .int (nI l)] σ2 (fun r3 σ3 => r3 = none ∧ (mv_wf X (mv_wp X (d + 2)) m_Monoid_findElements Q 46 [.ref 12, .int (nI i), .int (nI l + 1), .retAddr 0] [] σ3))))) := by
      intro υ u1 u2 u3 u4
      refine s_numberOf hx ⟨_, rfl, ?_⟩
      rw [u3 19 x (by omega), he.2.2.2 x hx, nI_1]
      by_cases e : bf_ix (eS g (3 * i + l)) x < (eS g (3 * i + l)).1
      · have eu : eS g (3 * i + l + 1) = eS g (3 * i + l) := up.trans (if_pos e)
        rw [if_pos e]
        have hne : ¬ nI (bf_ix (eS g (3 * i + l)) x) = (-1 : Int32) := by rw [fa_eq, nI_toInt (by omega), nI_m1]; omega
        refine ⟨fun _ => ?_, fun z => absurd z hne⟩
        refine ih (l + 1) υ (by omega) (by rw [← Nat.add_assoc, eu]; exact hlt) ⟨?_, u2, ?_, ?_⟩ ⟨fun c j q1 q2 => (u3 c j (by omega)).trans (hf.1 c j q1 q2), u4.trans hf.2⟩
        · rw [← Nat.add_assoc, eu]; exact u1
        · rw [← Nat.add_assoc, eu]
          intro k hk
          rw [u3 18 k (by omega), u3 20 k (by omega), u3 21 k (by omega), u3 22 k (by omega)]
          exact he.2.2.1 k hk
        · rw [← Nat.add_assoc, eu]
          intro c hc
          rw [u3 19 c (by omega)]
          exact he.2.2.2 c hc
      · have eu : eS g (3 * i + l + 1) = bf_add (eS g (3 * i + l)) x (3 * i + l) := up.trans (if_neg e)
        obtain ⟨nw1, nw2⟩ := nw eu
        rw [if_neg e]
        refine ⟨fun z => absurd rfl z, fun _ => ⟨rfl, ?_⟩⟩
        rw [eu, add_1] at hle1
        have hpos : ¬ (eS g (3 * i + l)).1 = 0 := by omega
        refine s_addElement (N := (eS g (3 * i + l)).1) (P := eln g i) u1 (by omega) hx hi (fun _ => by rw [u3 22 i (by omega)]; exact (he.2.2.1 i hlt).2.2.2) (fun υ2 w1 w2 w3 w4 w5 w6 w7 w8 => ⟨rfl, ?_⟩)
        rw [if_neg hpos] at w6
        refine ih (l + 1) υ2 (by omega) (by rw [← Nat.add_assoc, eu, add_1]; omega) ⟨?_, ?_, ?_, ?_⟩ ⟨fun c j q1 q2 => by rw [w7 c j (by omega) (by omega) (by omega) (by omega) (by omega) (by omega), u3 c j (by omega)]; exact hf.1 c j q1 q2, w8.trans (u4.trans hf.2)⟩
        · rw [← Nat.add_assoc, eu, add_1]; exact w1
        · rw [← Nat.add_assoc, w7 12 12 (by omega) (by omega) (by omega) (by omega) (by omega) (by omega)]; exact u2
        · rw [← Nat.add_assoc, eu]
          intro k hk
          rw [add_1] at hk
          by_cases ek : k = (eS g (3 * i + l)).1
          · subst ek
            rw [(add_n _ _ _).1, w2, w4, w5, w6, nw1, nw2, hs1, hs2]
            exact ⟨rfl, rfl, rfl, rfl⟩
          · rw [(add_o _ _ _ ek).1, w7 18 k (by omega) (by omega) (by omega) (by omega) (by omega) (by omega), w7 20 k (by omega) (by omega) (by omega) (by omega) (by omega) (by omega), w7 21 k (by omega) (by omega) (by omega) (by omega) (by omega) (by omega), w7 22 k (by omega) (by omega) (by omega) (by omega) (by omega) (by omega), u3 18 k (by omega), u3 20 k (by omega), u3 21 k (by omega), u3 22 k (by omega)]
            exact he.2.2.1 k (by omega)
        · rw [← Nat.add_assoc, eu]
          intro c hc
          rw [ix_add e, add_1]
          by_cases ec : c = x
          · subst ec
            rw [w3, if_neg e, if_pos rfl, if_pos (by omega)]
          · rw [w7 19 c (by omega) (by omega) (by omega) (by omega) (by omega) (by omega), u3 19 c (by omega), he.2.2.2 c hc]
            by_cases e2 : bf_ix (eS g (3 * i + l)) c < (eS g (3 * i + l)).1
            · rw [if_pos e2, if_pos e2, if_pos (by omega)]
            · rw [if_neg e2, if_neg e2, if_neg ec, if_neg (by omega)]
    by_cases e2 : x = 228
    · refine ⟨fun z => absurd (by rw [e2]; rfl) z, fun _ => ⟨⟨rfl, Or.inr rfl⟩, rfl, ?_⟩⟩
      refine main _ ?_ ?_ (fun c j q => mv_rn q) rfl
      · rw [mv_rn (by omega)]; exact he.1
      · rw [mv_rd, tfe, decide_eq_true e2, Bool.or_true]; rfl
    · have hne : ¬ nI x = (228 : Int32) := by rw [show (228 : Int32) = nI 228 from rfl, nI_eq (by omega) (by omega)]; exact e2
      refine ⟨fun _ => ⟨rfl, ?_⟩, fun z => absurd z hne⟩
      refine main τ he.1 ?_ (fun _ _ _ => rfl) rfl
      rw [he.2.1, tfe, decide_eq_false e2, Bool.or_false]
def enC (g : Nat → Nat) (σ : mv_S) : Prop := σ.1 12 11 = nI (eF g).1 ∧ σ.1 12 12 = (if tf g (3 * (eF g).1) = true then 1 else 0) ∧ (∀ i, i < (eF g).1 → σ.1 18 i = nI ((eF g).2.1 i) ∧ σ.1 20 i = nI ((eF g).2.2 i / 3) ∧ σ.1 21 i = nI ((eF g).2.2 i % 3) ∧ σ.1 22 i = nI (eln g i)) ∧ ∀ c, c < 256 → σ.1 19 c = if bf_ix (eF g) c < (eF g).1 then nI (bf_ix (eF g) c) else -1
theorem s_findElements (h17 : ∀ l, l < 3 → σ.1 17 l = nI (g l)) (hg : ∀ l, l < 3 → g l < 256) (hQ : ∀ τ, enC g τ → frE σ τ → Q none τ) : mv_wp X (d + 3) 80 [.ref 12] σ Q := by
  have outer : ∀ r i (τ : mv_S), i + r = 256 → i ≤ (eS g (3 * i)).1 → elC g (3 * i) τ → frE σ τ → mv_wf X (mv_wp X (d + 2)) m_Monoid_findElements Q 29 [.ref 12, .int (nI i), .retAddr 0, .retAddr 0] [] τ := by
    intro r
    have fin : ∀ i (τ : mv_S), (eS g (3 * i)).1 = i → elC g (3 * i) τ → frE σ τ → Q none τ := by
      intro i τ e he hf
      have eFF := eS_end e
      unfold elC at he
      rw [eFF] at he e
      have e3 : 3 * i = 3 * (eF g).1 := by rw [e]
      rw [e3] at he
      exact hQ τ he hf
    induction r with
    | zero =>
      intro i τ hi hle he hf
      have h5 := eS_le (g := g) (3 * i)
      have e : (eS g (3 * i)).1 = i := by omega
      refine h_Monoid_findElements_29 ⟨rfl, ?_⟩
      rw [he.1, e]
      exact ⟨fun _ => fin i τ e he hf, fun z => absurd (nI_le (Nat.le_refl _) (by omega)) z⟩
    | succ r ih =>
      intro i τ hi hle he hf
      have h5 := eS_le (g := g) (3 * i)
      refine h_Monoid_findElements_29 ⟨rfl, ?_⟩
      rw [he.1]
      by_cases e : (eS g (3 * i)).1 = i
      · rw [e]
        exact ⟨fun _ => fin i τ e he hf, fun z => absurd (nI_le (Nat.le_refl _) (by omega)) z⟩
      · have hlt : i < (eS g (3 * i)).1 := by omega
        refine ⟨fun z => absurd z (nI_ge hlt (by omega)), fun _ => ⟨fun z => absurd z (nI_ge (b := 256) (by omega) (by omega)), fun _ => ?_⟩⟩
        have m3 := bf_mono (nx := enx g) (q0 := 228) (J := 3) (3 * i) 3
        rw [← eS_eq, ← eS_eq] at m3
        exact s_elL (σ := σ) (by omega) h17 hg (fun τ2 q1 q2 => ih (i + 1) τ2 (by omega) (Nat.le_trans hlt m3.1) q1 q2) 3 0 τ rfl hlt he hf
  refine w_Monoid_findElements ⟨rfl, ?_⟩
  refine s_fillI (n := 256) rfl rfl (by decide) ⟨rfl, rfl, ⟨rfl, Or.inl rfl⟩, rfl, ?_⟩
  generalize hυ : mv_pi (mv_pi (mv_fo σ 19 0 (fun _ => -1) 256) 12 11 0) 12 12 0 = υ
  have u1 : υ.1 12 11 = nI 0 := by rw [← hυ, mv_rn (by omega), mv_rd]; rfl
  have u2 : υ.1 12 12 = 0 := by rw [← hυ, mv_rd]
  have u3 : ∀ c, c < 256 → υ.1 19 c = -1 := fun c hc => by
    rw [← hυ, mv_rn (by omega), mv_rn (by omega)]
    have := fo_in (σ := σ) (c := 19) (off := 0) (f := fun _ => (-1 : Int32)) (i := 256) hc
    rw [Nat.zero_add] at this
    exact this
  have u4 : ∀ c j, ¬ (c = 12 ∧ (j = 11 ∨ j = 12)) → ¬ c = 19 → υ.1 c j = σ.1 c j := fun c j q1 q2 => by rw [← hυ, mv_rn (by omega), mv_rn (by omega), fo_out (by omega)]
  have u5 : υ.2 = σ.2 := by rw [← hυ]; rfl
  refine s_addElement (c := 228) (i := 0) (l := 0) (N := 0) (P := 0) u1 (by decide) (by decide) (by decide) (fun z => absurd rfl z) (fun τ w1 w2 w3 w4 w5 w6 w7 w8 => ⟨rfl, ?_⟩)
  refine outer 256 0 τ rfl (Nat.zero_le _) ⟨w1, ?_, fun k hk => ?_, fun c hc => ?_⟩ ⟨fun c j q1 q2 => by rw [w7 c j (by omega) (by omega) (by omega) (by omega) (by omega) (by omega)]; exact u4 c j q1 (by omega), w8.trans u5⟩
  · rw [w7 12 12 (by omega) (by omega) (by omega) (by omega) (by omega) (by omega), u2]; rfl
  · have hk : k < 1 := hk
    obtain rfl : k = 0 := by omega
    rw [w2, w4, w5, w6, eF_0.2]
    exact ⟨rfl, rfl, rfl, by rw [if_pos rfl]; rfl⟩
  · have e0 : ¬ bf_ix ((0, fun _ => 228, fun _ => 0) : bf_T) 228 < 0 := Nat.not_lt_zero _
    have e1 : eS g (3 * 0) = bf_add (0, fun _ => 228, fun _ => 0) 228 0 := by
      rw [Nat.mul_zero, eS_eq]
      unfold bf bf_add
      refine Prod.ext rfl (Prod.ext ?_ ?_)
      · funext k; show 228 = (if k = 0 then 228 else 228); split <;> rfl
      · funext k; show 0 = (if k = 0 then 0 else 0); split <;> rfl
    rw [e1, ix_add e0, add_1]
    by_cases ec : c = 228
    · subst ec
      rw [w3, if_neg (Nat.not_lt_zero _), if_pos rfl, if_pos (show (0 : Nat) < 0 + 1 by decide)]
    · rw [w7 19 c (by omega) (by omega) (by omega) (by omega) (by omega) (by omega), u3 c hc, if_neg (Nat.not_lt_zero _), if_neg ec, if_neg (show ¬ (0 : Nat) + 1 < 0 + 1 by decide)]
/-- what the class knows of a machine -/
def moC (M : md_T) (σ : mv_S) : Prop := lpC M σ ∧ (∀ l, l < 3 → σ.1 17 l = nI (gL M l)) ∧ enC (gL M) σ ∧ ∀ i, i < (eF (gL M)).1 → σ.1 23 ((eF (gL M)).2.1 i) = nI (om ((eF (gL M)).2.1 i))
def iv_C (σ : mv_S) : Prop := σ.2 12 14 = -1 ∨ ∃ M, md_ok M ∧ md_n M ∧ σ.2 12 14 = lN (kq M 12) ∧ moC M σ
def frY (σ τ : mv_S) : Prop := (∀ c j, ¬ (c = 12 ∧ (j = 11 ∨ j = 12)) → ¬ (13 ≤ c ∧ c ≤ 23) → τ.1 c j = σ.1 c j) ∧ ∀ c j, ¬ (c = 12 ∧ j = 14) → τ.2 c j = σ.2 c j
theorem s_learn (ht : mc_at t) (ht3 : 33 ≤ t) (hM : md_ok M) (hn : md_n M) (hc : cl_M σ t M) (hC : iv_C σ) (hQ : ∀ τ, moC M τ → τ.2 12 14 = lN (kq M 12) → frY σ τ → Q none τ) : mv_wp X (d + 5) 55 [.ref 12, .ref t] σ Q := by
  have hgl : ∀ l, l < 3 → gL M l < 256 := fun l hl => (gL_fx hM hl).1
  have hk40 := kq_lt hM
  refine w_Monoid_learn ⟨ht.1, ?_⟩
  refine s_key ht hM hc ⟨_, rfl, rfl, ?_⟩
  rw [lg_0]
  by_cases e : lN (kq M 12) = σ.2 12 14
  · refine ⟨fun z => absurd e z, fun _ => ?_⟩
    rcases hC with z | ⟨N, oN, nN, kN, mN⟩
    · rw [z] at e; exact absurd e (lN_m1 hk40)
    · have : M = N := kq_inj hM oN hn nN (lN_40 hk40 (kq_lt oN) (e.trans kN))
      subst this
      exact hQ σ mN kN ⟨fun _ _ _ _ => rfl, fun _ _ _ => rfl⟩
  · refine ⟨fun _ => ⟨rfl, rfl, rfl, ?_⟩, fun z => absurd z e⟩
    have c0 : cl_M (mv_pl σ 12 14 (lN (kq M 12))) t M := hc
    refine s_minimise ht ht3 hM c0 (fun τ p1 p2 => ⟨rfl, ?_⟩)
    have k1 : τ.2 12 14 = lN (kq M 12) := by rw [p2.2, mv_ld]
    have k2 : ∀ c j, ¬ (c = 12 ∧ j = 14) → τ.2 c j = σ.2 c j := fun c j q => by rw [p2.2, mv_ln_ q]
    have letters : ∀ r l (υ : mv_S), l + r = 3 → lpC M υ → (∀ j, j < l → υ.1 17 j = nI (gL M j)) → (∀ c j, ¬ c = 17 → υ.1 c j = τ.1 c j) → υ.2 = τ.2 → mv_wf X (mv_wp X (d + 4)) m_Monoid_learn Q 31 [.ref 12, .retAddr 0, .long (lN (kq M 12)), .retAddr 0, .int (nI l)] [] υ := by
      intro r
      induction r with
      | zero =>
        intro l υ hl u1 u2 u3 u4
        obtain rfl : l = 3 := by omega
        refine h_Monoid_learn_31 ⟨fun _ => ⟨rfl, ?_⟩, fun z => absurd (show (3 : Int32) ≤ nI 3 by decide) z⟩
        refine s_findElements u2 hgl (fun ω w1 w2 => ⟨rfl, ?_⟩)
        have l2 : lpC M ω := ⟨(w2.1 _ _ (by omega) (by omega)).trans u1.1, (w2.1 _ _ (by omega) (by omega)).trans u1.2.1, fun i l hi hl => (w2.1 _ _ (by omega) (by omega)).trans (u1.2.2 i l hi hl)⟩
        have hN := eF_le (g := gL M)
        have om1 : ∀ r i (ρ : mv_S), i + r = (eF (gL M)).1 → enC (gL M) ρ → (∀ j, j < i → ρ.1 23 ((eF (gL M)).2.1 j) = nI (om ((eF (gL M)).2.1 j))) → (∀ c j, ¬ c = 23 → ρ.1 c j = ω.1 c j) → ρ.2 = ω.2 → mv_wf X (mv_wp X (d + 4)) m_Monoid_learn Q 63 [.ref 12, .retAddr 0, .long (lN (kq M 12)), .retAddr 0, .int (nI i)] [] ρ := by
          intro r
          induction r with
          | zero =>
            intro i ρ hi r1 r2 r3 r4
            refine h_Monoid_learn_63 ⟨rfl, ?_⟩
            rw [r1.1]
            refine ⟨fun _ => ?_, fun z => absurd (nI_le (by omega) (by omega)) z⟩
            refine hQ ρ ⟨⟨(r3 _ _ (by omega)).trans l2.1, (r3 _ _ (by omega)).trans l2.2.1, fun i l hi hl => (r3 _ _ (by omega)).trans (l2.2.2 i l hi hl)⟩, fun l hl => ?_, r1, fun j hj => r2 j (by omega)⟩ ?_ ⟨fun c j q1 q2 => ?_, fun c j q => ?_⟩
            · rw [r3 _ _ (by omega), w2.1 _ _ (by omega) (by omega)]; exact u2 l hl
            · rw [r4, w2.2, u4]; exact k1
            · rw [r3 c j (by omega), w2.1 c j q1 (by omega), u3 c j (by omega), p2.1 c j (by omega) (by omega) (by omega) (by omega)]; rfl
            · rw [r4, w2.2, u4]; exact k2 c j q
          | succ r ih =>
            intro i ρ hi r1 r2 r3 r4
            have hilt : i < (eF (gL M)).1 := by omega
            have hq := eF_q hilt
            refine h_Monoid_learn_63 ⟨rfl, ?_⟩
            rw [r1.1]
            refine ⟨fun z => absurd z (nI_ge hilt (by omega)), fun _ => ⟨fun z => absurd z (nI_ge (b := 256) (by omega) (by omega)), fun _ => ?_⟩⟩
            rw [nI_clamp (by omega), (r1.2.2.1 i hilt).1, q_and255, Nat.mod_eq_of_lt hq, nI_clamp (by omega)]
            refine ⟨rfl, rfl, ⟨rfl, vp_in_nI (N := 256) (by omega) (by omega)⟩, rfl, ⟨rfl, vp_in_nI (N := 256) (by omega) (by omega)⟩, rfl, ?_⟩
            refine s_findOmega hq ⟨_, rfl, ⟨rfl, vp_in_nI (N := 256) hq (by omega)⟩, ?_⟩
            rw [nI_1]
            refine ih (i + 1) _ (by omega) ⟨?_, ?_, fun k hk => ?_, fun c hc => ?_⟩ (fun j hj => ?_) (fun c j q => ?_) r4
            · rw [mv_rn (by omega)]; exact r1.1
            · rw [mv_rn (by omega)]; exact r1.2.1
            · rw [mv_rn (by omega), mv_rn (by omega), mv_rn (by omega), mv_rn (by omega)]; exact r1.2.2.1 k hk
            · rw [mv_rn (by omega)]; exact r1.2.2.2 c hc
            · by_cases ej : (eF (gL M)).2.1 j = (eF (gL M)).2.1 i
              · rw [ej, mv_rd]
              · rw [mv_rn (by omega)]
                refine r2 j ?_
                by_cases e3 : j = i
                · exact absurd (by rw [e3]) ej
                · omega
            · rw [mv_rn (by omega)]; exact r3 c j q
        exact om1 (eF (gL M)).1 0 ω (by omega) w1 (fun j hj => absurd hj (Nat.not_lt_zero _)) (fun _ _ _ => rfl) rfl
      | succ r ih =>
        intro l υ hl u1 u2 u3 u4
        refine h_Monoid_learn_31 ⟨fun z => absurd z (nI_ge (b := 3) (by omega) (by omega)), fun _ => ⟨rfl, rfl, ?_⟩⟩
        refine s_codeOfLetter hM u1 (by omega) ⟨_, rfl, ⟨rfl, vp_in_nI (N := 3) (by omega) (by omega)⟩, ?_⟩
        rw [nI_clamp (by omega), nI_1]
        refine ih (l + 1) _ (by omega) ⟨?_, ?_, fun i l2 hi hl2 => ?_⟩ (fun j hj => ?_) (fun c j q => ?_) u4
        · rw [mv_rn (by omega)]; exact u1.1
        · rw [mv_rn (by omega)]; exact u1.2.1
        · rw [mv_rn (by omega)]; exact u1.2.2 i l2 hi hl2
        · by_cases e3 : j = l
          · subst e3; exact mv_rd
          · rw [mv_rn (by omega)]; exact u2 j (by omega)
        · rw [mv_rn (by omega)]; exact u3 c j q
    exact letters 3 0 τ rfl p1 (fun j hj => absurd hj (Nat.not_lt_zero _)) (fun _ _ _ => rfl) rfl
end LEARN
