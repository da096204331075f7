/-! ===== takes; chance ===== -/
def scW (c j : Nat) : Prop := c = 10 ∨ c = 64 ∨ c = 90 ∨ c = 92 ∨ (c = 61 ∧ (j = 6 ∨ (44 ≤ j ∧ j ≤ 49)))
def aw_P (σ σ2 : mv_S) : Prop := (∀ c j, ¬ scW c j → σ2.1 c j = σ.1 c j) ∧ σ2.2 = σ.2
theorem aw_rf (σ : mv_S) : aw_P σ σ := ⟨fun _ _ _ => rfl, rfl⟩
theorem aw_tr {a b c : mv_S} (h : aw_P a b) (g : aw_P b c) : aw_P a c := ⟨fun x j hx => (g.1 x j hx).trans (h.1 x j hx), g.2.trans h.2⟩
theorem aw_W {σ τ : mv_S} (h : frW σ τ) : aw_P σ τ := ⟨fun c j hc => h.1 c j (fun z => hc (by unfold scW; omega)) (fun z => hc (by unfold scW; omega)), h.2⟩
theorem aw_10 {σ τ : mv_S} (h : fr1 10 σ τ) (h2 : τ.2 = σ.2) : aw_P σ τ := ⟨fun c j hc => h c j (fun z => hc (by unfold scW; omega)), h2⟩
theorem aw_cl {σ τ : mv_S} {t : Nat} {M : md_T} (h : aw_P σ τ) (ht : 33 ≤ t) (ht2 : t < 60) (hc : cl_M σ t M) : cl_M τ t M :=
  ⟨(h.1 _ _ (by unfold scW; omega)).trans hc.1, (h.1 _ _ (by unfold scW; omega)).trans hc.2.1, (h.1 _ _ (by unfold scW; omega)).trans hc.2.2.1, fun j hj => (h.1 _ _ (by unfold scW; omega)).trans (hc.2.2.2 j hj)⟩
theorem aw_rM {σ τ : mv_S} {k : Nat} {M : md_T} (h : aw_P σ τ) (hc : rf_M σ 62 k M) : rf_M τ 62 k M :=
  ⟨(h.1 _ _ (by unfold scW; omega)).trans hc.1, (h.1 _ _ (by unfold scW; omega)).trans hc.2.1, (h.1 _ _ (by unfold scW; omega)).trans hc.2.2.1, fun j hj => (h.1 _ _ (by unfold scW; omega)).trans (hc.2.2.2 j hj)⟩
section TAKES
variable {X : mv_X} {d : Nat} {σ : mv_S} {Q : mv_Q} {n : Nat} {Ms : Nat → md_T}
theorem s_read_y {m : Nat} (hm : m < 2 ^ 31) (hw : wis 9 m = true) (hQ : ∀ τ, cw τ (wls 9 m) → fr1 10 σ τ → τ.2 = σ.2 → Q (some (.int 1)) τ) : mv_wp X (d + 1) 2 [.ref 10, .int (nI m)] σ Q := by
  refine s_read hm (fun _ => hQ _ ⟨?_, mv_rd⟩ (fun c j hc => ?_) rfl) (fun z => absurd (z.symm.trans hw) (by decide))
  · rw [mv_rn (by omega), mv_rd]
  · rw [mv_rn (by omega), mv_rn (by omega)]
theorem s_read_n {m : Nat} (hm : m < 2 ^ 31) (hw : wis 9 m = false) (hQ : Q (some (.int 0)) σ) : mv_wp X (d + 1) 2 [.ref 10, .int (nI m)] σ Q :=
  s_read hm (fun z => absurd (z.symm.trans hw) (by decide)) (fun _ => hQ)
theorem r_isWord_y {m : Nat} (hm : m < 2 ^ 31) (hw : wis 9 m = true) (hQ : ∀ τ, rwd τ (wls 9 m) → frW σ τ → Q (some (.int 1)) τ) : mv_wp X (d + 2) 156 [.ref 61, .int (nI m)] σ Q :=
  r_isWord hm (fun _ => hQ) (fun z => absurd (z.symm.trans hw) (by decide))
theorem r_isWord_n {m : Nat} (hm : m < 2 ^ 31) (hw : wis 9 m = false) (hQ : ∀ τ, frW σ τ → Q (some (.int 0)) τ) : mv_wp X (d + 2) 156 [.ref 61, .int (nI m)] σ Q :=
  r_isWord hm (fun z => absurd (z.symm.trans hw) (by decide)) (fun _ => hQ)
theorem op_takes {a1 a2 : Int32} (h : iv_M n Ms σ) : lw_op X (d + 5) (aw_P σ) 103 167 [.int a1, .int a2] σ := by
  unfold lw_op
  obtain ⟨b1, b2, b3, b4⟩ := h
  rw [w_WM_takes]
  rcases ix_cs a1 n (by omega) with ⟨c1, c2⟩ | ⟨k, hk, rfl, c1⟩
  · rw [s_machineAt_no b2 c1]
    refine ⟨rfl, Or.inl ⟨rfl, _, rfl, ?_⟩⟩
    rw [w_Ref_takes, r_isMachine b3 b1, if_neg c2]
    exact ⟨rfl, _, rfl, fun _ => ⟨rfl, aw_rf σ⟩, fun z => absurd rfl z⟩
  obtain ⟨m1, m2, m3⟩ := b4 k hk
  have ht : mc_at (33 + 4 * k) := (mc_now k (by omega)).1
  rw [s_machineAt_ok b2 b1 hk]
  refine ⟨rfl, Or.inr ⟨_, rfl, rfl, rfl, ?_⟩⟩
  rcases ix_cs2 a2 with e | ⟨x, hx, rfl⟩
  · refine s_read_neg e ⟨_, rfl, fun z => absurd rfl z, fun _ => ⟨_, rfl, ?_⟩⟩
    rw [w_Ref_takes, r_isMachine b3 b1, if_pos c1]
    refine ⟨rfl, _, rfl, fun z => absurd z (by decide), fun _ => ⟨rfl, ?_⟩⟩
    exact r_isWord_neg e ⟨_, rfl, fun _ => ⟨rfl, aw_rf σ⟩, fun z => absurd rfl z⟩
  by_cases hw : wis 9 x = true
  · refine s_read_y hx hw (fun τ q1 q2 q3 => ⟨_, rfl, fun _ => ⟨rfl, ht.1, ?_⟩, fun z => absurd z (by decide)⟩)
    have w1 := aw_10 q2 q3
    refine s_accepts ht m1 (aw_cl w1 (by omega) (by omega) m2) q1 (wk_n hw) ⟨_, rfl, ?_⟩
    have rf : mv_wp X (d + 5) 167 [.ref 61, .int (nI k), .int (nI x)] τ (fun r2 σ2 => r2 = some (.int (if tkM (Ms k) (wls 9 x) = true then 1 else 0)) ∧ aw_P σ σ2) := by
      rw [w_Ref_takes, r_isMachine (by rw [w1.1 _ _ (by unfold scW; omega)]; exact b3) b1, if_pos c1]
      refine ⟨rfl, _, rfl, fun z => absurd z (by decide), fun _ => ⟨rfl, ?_⟩⟩
      refine r_isWord_y hx hw (fun τ2 p1 p2 => ⟨_, rfl, fun z => absurd z (by decide), fun _ => ⟨rfl, ?_⟩⟩)
      have w2 := aw_tr w1 (aw_W p2)
      refine r_takesNow (by omega) m1 (aw_rM w2 m3) p1 (wk_n hw) ⟨_, rfl, ?_⟩
      exact r_bit.mpr ⟨_, rfl, rfl, w2⟩
    by_cases ht : tkM (Ms k) (wls 9 x) = true
    · rw [if_pos ht] at rf ⊢
      exact ⟨fun z => absurd z (by decide), fun _ => ⟨_, rfl, rf⟩⟩
    · rw [if_neg ht] at rf ⊢
      exact ⟨fun _ => ⟨_, rfl, rf⟩, fun z => absurd rfl z⟩
  · have hw := Bool.eq_false_iff.mpr hw
    refine s_read_n hx hw ⟨_, rfl, fun z => absurd rfl z, fun _ => ⟨_, rfl, ?_⟩⟩
    rw [w_Ref_takes, r_isMachine b3 b1, if_pos c1]
    refine ⟨rfl, _, rfl, fun z => absurd z (by decide), fun _ => ⟨rfl, ?_⟩⟩
    exact r_isWord_n hx hw (fun τ p => ⟨_, rfl, fun _ => ⟨rfl, aw_W p⟩, fun z => absurd rfl z⟩)
/-! lots -/
def lotE (z : Int32) : Int32 := (z.toUInt32 >>> ((9 : Int32).toUInt32 &&& Int32.toUInt32 31)).toInt32
theorem lot_n (z : Int32) : ∃ m, m < 2 ^ 23 ∧ lotE z = nI m := by
  refine ⟨(z.toUInt32 >>> ((9 : Int32).toUInt32 &&& Int32.toUInt32 31)).toNat, ?_, ?_⟩
  · rw [UInt32.toNat_shiftRight, show ((9 : Int32).toUInt32 &&& Int32.toUInt32 31).toNat % 32 = 9 by decide, Nat.shiftRight_eq_div_pow]
    have := z.toUInt32.toNat_lt
    omega
  · unfold lotE
    apply Int32.toBitVec_inj.mp
    apply BitVec.eq_of_toNat_eq
    show (z.toUInt32 >>> ((9 : Int32).toUInt32 &&& Int32.toUInt32 31)).toNat = (BitVec.ofNat 32 _).toNat
    rw [BitVec.toNat_ofNat, Nat.mod_eq_of_lt (UInt32.toNat_lt _)]
def lot (z : Int32) : Nat := (lotE z).toNatClampNeg % 3
theorem lot_lt (z : Int32) : lot z < 3 := Nat.mod_lt _ (by decide)
theorem lot_eq (z : Int32) : lotE z - lotE z / 3 * 3 = nI (lot z) := by
  obtain ⟨m, hm, e⟩ := lot_n z
  unfold lot
  rw [e, q_rem3 (by omega), nI_clamp (by omega)]
def dr (M : md_T) : Nat → Int32 → Nat → Nat
  | 0, _, p => p
  | n + 1, z, p => dr M n (z * 1103515245 + 12345) (M.2.2.2 (3 * p + lot (z * 1103515245 + 12345)))
theorem s_lot {z : Int32} (hQ : Q (some (.int (nI (lot z)))) σ) : mv_wp X (d + 1) 144 [.int z] σ Q := by
  refine (w_WM_lotLetter _ _ _ _ _).mpr ⟨by decide, ?_⟩
  rw [← lot_eq] at hQ
  exact hQ
theorem s_takesDrawn {t n : Nat} {M : md_T} {z : Int32} (ht : mc_at t) (hM : md_ok M) (hc : cl_M σ t M) (hn : n ≤ 99) (hQ : Q (some (.int (if M.2.2.1.testBit (dr M n z M.2.1) = true then 1 else 0))) σ) : mv_wp X (d + 2) 145 [.ref t, .int z, .int (nI n)] σ Q := by
  have ht1 := ht.1
  have loop : ∀ r k (y : Int32) (p : Nat), k + r = n → p < 4 → dr M n z M.2.1 = dr M r y p → mv_wf X (mv_wp X (d + 1)) m_WM_takesDrawn Q 11 [.ref t, .retAddr 0, .int (nI n), .int y, .int (nI p), .int (nI k)] [] σ := by
    intro r
    induction r with
    | zero =>
      intro k y p hk hp he
      refine h_WM_takesDrawn_11 ?_
      repeat (first
          | (refine And.intro (show mv_sh _ = _ from rfl) ?_)
          | (refine And.intro (show mv_sh _ = _ by assumption) ?_)
          | (refine And.intro (show _ ≤ mv_sh _ from Nat.le_of_ble_eq_true rfl) ?_)
          | (refine And.intro (show _ ≤ mv_sh _ ∧ vp_in _ _ from ⟨Nat.le_of_ble_eq_true rfl, by (first | (simp (disch := omega) only [ln_64, ln_62, not_true_eq_false, not_false_eq_true, Classical.not_not, ofn, b_z, b_nz, b_z', b_nz', mv_rd, mv_rn, mv_ld, mv_ln_, lit, nI_add, pk_mul, nI_clamp]; exact vp_in_nI (by omega) (by omega)) | (exact vp_in_nI (by omega) (by omega)))⟩) ?_)
          | (refine And.intro (show (_ : Int32) = 0 ∨ (_ : Int32) = 1 from by first | exact Or.inl rfl | exact Or.inr rfl | exact bI_01 _) ?_)
          | (refine And.intro (show mv_sh _ = _ ∧ vp_in _ _ from ⟨rfl, by (first | (simp (disch := omega) only [ln_64, ln_62, not_true_eq_false, not_false_eq_true, Classical.not_not, ofn, b_z, b_nz, b_z', b_nz', mv_rd, mv_rn, mv_ld, mv_ln_, lit, nI_add, pk_mul, nI_clamp]; exact vp_in_nI (by omega) (by omega)) | (exact vp_in_nI (by omega) (by omega)))⟩) ?_)
          | (refine And.intro (show mv_sh _ = _ ∧ vp_in _ _ from ⟨by assumption, by (first | (simp (disch := omega) only [ln_64, ln_62, not_true_eq_false, not_false_eq_true, Classical.not_not, ofn, b_z, b_nz, b_z', b_nz', mv_rd, mv_rn, mv_ld, mv_ln_, lit, nI_add, pk_mul, nI_clamp]; exact vp_in_nI (by omega) (by omega)) | (exact vp_in_nI (by omega) (by omega)))⟩) ?_)
          | (refine And.intro (show ¬ (_ : Int32) = 0 by decide) ?_)
          | (refine ⟨_, rfl, ?_⟩)
          | (refine And.intro (show (none : Option Value) = none from rfl) ?_)
          | (refine Or.inl ⟨rfl, ?_⟩)
          | (refine Or.inr ⟨_, rfl, ?_⟩)
          | (refine dt (by (first | assumption | omega | ((try simp (disch := omega) only [not_true_eq_false, not_false_eq_true, Classical.not_not, ofn, b_z, b_nz, b_z', b_nz', mv_rd, mv_rn, mv_ld, mv_ln_, lit, nI_add, pk_mul, nI_clamp]); (try simp (disch := omega) only [fa_lt, fa_le, fa_eq, nI_toInt, pk_sub_toInt, nI_m1, nI_m1', not_false_eq_true, true_and, and_true]); first | done | omega))) ?_)
          | (refine df (by (first | assumption | omega | ((try simp (disch := omega) only [not_true_eq_false, not_false_eq_true, Classical.not_not, ofn, b_z, b_nz, b_z', b_nz', mv_rd, mv_rn, mv_ld, mv_ln_, lit, nI_add, pk_mul, nI_clamp]); (try simp (disch := omega) only [fa_lt, fa_le, fa_eq, nI_toInt, pk_sub_toInt, nI_m1, nI_m1', not_false_eq_true, true_and, and_true]); first | done | omega))) ?_)
          | (refine dt' (by (first | assumption | omega | ((try simp (disch := omega) only [not_true_eq_false, not_false_eq_true, Classical.not_not, ofn, b_z, b_nz, b_z', b_nz', mv_rd, mv_rn, mv_ld, mv_ln_, lit, nI_add, pk_mul, nI_clamp]); (try simp (disch := omega) only [fa_lt, fa_le, fa_eq, nI_toInt, pk_sub_toInt, nI_m1, nI_m1', not_false_eq_true, true_and, and_true]); first | done | omega))) ?_)
          | (refine df' (by (first | assumption | omega | ((try simp (disch := omega) only [not_true_eq_false, not_false_eq_true, Classical.not_not, ofn, b_z, b_nz, b_z', b_nz', mv_rd, mv_rn, mv_ld, mv_ln_, lit, nI_add, pk_mul, nI_clamp]); (try simp (disch := omega) only [fa_lt, fa_le, fa_eq, nI_toInt, pk_sub_toInt, nI_m1, nI_m1', not_false_eq_true, true_and, and_true]); first | done | omega))) ?_)
          | (refine s_isEndM ht hc hM hp ?_)
          )
      rw [he] at hQ
      exact hQ
    | succ r ih =>
      intro k y p hk hp he
      have hl := lot_lt (y * 1103515245 + 12345)
      refine h_WM_takesDrawn_11 ?_
      repeat (first
          | (refine And.intro (show mv_sh _ = _ from rfl) ?_)
          | (refine And.intro (show mv_sh _ = _ by assumption) ?_)
          | (refine And.intro (show _ ≤ mv_sh _ from Nat.le_of_ble_eq_true rfl) ?_)
          | (refine And.intro (show _ ≤ mv_sh _ ∧ vp_in _ _ from ⟨Nat.le_of_ble_eq_true rfl, by (first | (simp (disch := omega) only [ln_64, ln_62, not_true_eq_false, not_false_eq_true, Classical.not_not, ofn, b_z, b_nz, b_z', b_nz', mv_rd, mv_rn, mv_ld, mv_ln_, lit, nI_add, pk_mul, nI_clamp]; exact vp_in_nI (by omega) (by omega)) | (exact vp_in_nI (by omega) (by omega)))⟩) ?_)
          | (refine And.intro (show (_ : Int32) = 0 ∨ (_ : Int32) = 1 from by first | exact Or.inl rfl | exact Or.inr rfl | exact bI_01 _) ?_)
          | (refine And.intro (show mv_sh _ = _ ∧ vp_in _ _ from ⟨rfl, by (first | (simp (disch := omega) only [ln_64, ln_62, not_true_eq_false, not_false_eq_true, Classical.not_not, ofn, b_z, b_nz, b_z', b_nz', mv_rd, mv_rn, mv_ld, mv_ln_, lit, nI_add, pk_mul, nI_clamp]; exact vp_in_nI (by omega) (by omega)) | (exact vp_in_nI (by omega) (by omega)))⟩) ?_)
          | (refine And.intro (show mv_sh _ = _ ∧ vp_in _ _ from ⟨by assumption, by (first | (simp (disch := omega) only [ln_64, ln_62, not_true_eq_false, not_false_eq_true, Classical.not_not, ofn, b_z, b_nz, b_z', b_nz', mv_rd, mv_rn, mv_ld, mv_ln_, lit, nI_add, pk_mul, nI_clamp]; exact vp_in_nI (by omega) (by omega)) | (exact vp_in_nI (by omega) (by omega)))⟩) ?_)
          | (refine And.intro (show ¬ (_ : Int32) = 0 by decide) ?_)
          | (refine ⟨_, rfl, ?_⟩)
          | (refine And.intro (show (none : Option Value) = none from rfl) ?_)
          | (refine Or.inl ⟨rfl, ?_⟩)
          | (refine Or.inr ⟨_, rfl, ?_⟩)
          | (refine dt (by (first | assumption | omega | ((try simp (disch := omega) only [not_true_eq_false, not_false_eq_true, Classical.not_not, ofn, b_z, b_nz, b_z', b_nz', mv_rd, mv_rn, mv_ld, mv_ln_, lit, nI_add, pk_mul, nI_clamp]); (try simp (disch := omega) only [fa_lt, fa_le, fa_eq, nI_toInt, pk_sub_toInt, nI_m1, nI_m1', not_false_eq_true, true_and, and_true]); first | done | omega))) ?_)
          | (refine df (by (first | assumption | omega | ((try simp (disch := omega) only [not_true_eq_false, not_false_eq_true, Classical.not_not, ofn, b_z, b_nz, b_z', b_nz', mv_rd, mv_rn, mv_ld, mv_ln_, lit, nI_add, pk_mul, nI_clamp]); (try simp (disch := omega) only [fa_lt, fa_le, fa_eq, nI_toInt, pk_sub_toInt, nI_m1, nI_m1', not_false_eq_true, true_and, and_true]); first | done | omega))) ?_)
          | (refine dt' (by (first | assumption | omega | ((try simp (disch := omega) only [not_true_eq_false, not_false_eq_true, Classical.not_not, ofn, b_z, b_nz, b_z', b_nz', mv_rd, mv_rn, mv_ld, mv_ln_, lit, nI_add, pk_mul, nI_clamp]); (try simp (disch := omega) only [fa_lt, fa_le, fa_eq, nI_toInt, pk_sub_toInt, nI_m1, nI_m1', not_false_eq_true, true_and, and_true]); first | done | omega))) ?_)
          | (refine df' (by (first | assumption | omega | ((try simp (disch := omega) only [not_true_eq_false, not_false_eq_true, Classical.not_not, ofn, b_z, b_nz, b_z', b_nz', mv_rd, mv_rn, mv_ld, mv_ln_, lit, nI_add, pk_mul, nI_clamp]); (try simp (disch := omega) only [fa_lt, fa_le, fa_eq, nI_toInt, pk_sub_toInt, nI_m1, nI_m1', not_false_eq_true, true_and, and_true]); first | done | omega))) ?_)
          | (refine (w_WM_nextLot _ _ _ _ _).mpr ?_)
          | (refine s_lot ?_)
          | (refine s_nextM ht hc hp hl ?_)
          )
      rw [nI_1]
      exact ih (k + 1) _ _ (by omega) (hM.2.2.2.2.1 _ (by omega)) he
  refine w_WM_takesDrawn ⟨ht1, ?_⟩
  rw [hc.2.1]
  exact loop n 0 z _ (by omega) (by have := hM.2.1; have := hM.2.2.1; omega) rfl
theorem r_isDrawnTaken {k n : Nat} {M : md_T} {z : Int32} (hk : k < 3) (hM : md_ok M) (hr : rf_M σ 62 k M) (hn : n ≤ 99) (hQ : Q (some (.int (if M.2.2.1.testBit (dr M n z M.2.1) = true then 1 else 0))) σ) : mv_wp X (d + 2) 229 [.ref 61, .int (nI k), .int z, .int (nI n)] σ Q := by
  have loop : ∀ r i (y : Int32) (p : Nat), i + r = n → p < 4 → dr M n z M.2.1 = dr M r y p → mv_wf X (mv_wp X (d + 1)) m_Ref_isDrawnTaken Q 13 [.ref 61, .int (nI k), .retAddr 0, .int (nI n), .int y, .int (nI p), .int (nI i)] [] σ := by
    intro r
    induction r with
    | zero =>
      intro i y p hi hp he
      refine h_Ref_isDrawnTaken_13 ?_
      repeat (first
          | (refine And.intro (show mv_sh _ = _ from rfl) ?_)
          | (refine And.intro (show mv_sh _ = _ by assumption) ?_)
          | (refine And.intro (show _ ≤ mv_sh _ from Nat.le_of_ble_eq_true rfl) ?_)
          | (refine And.intro (show _ ≤ mv_sh _ ∧ vp_in _ _ from ⟨Nat.le_of_ble_eq_true rfl, by (first | (simp (disch := omega) only [ln_64, ln_62, not_true_eq_false, not_false_eq_true, Classical.not_not, ofn, b_z, b_nz, b_z', b_nz', mv_rd, mv_rn, mv_ld, mv_ln_, lit, nI_add, pk_mul, nI_clamp]; exact vp_in_nI (by omega) (by omega)) | (exact vp_in_nI (by omega) (by omega)))⟩) ?_)
          | (refine And.intro (show (_ : Int32) = 0 ∨ (_ : Int32) = 1 from by first | exact Or.inl rfl | exact Or.inr rfl | exact bI_01 _) ?_)
          | (refine And.intro (show mv_sh _ = _ ∧ vp_in _ _ from ⟨rfl, by (first | (simp (disch := omega) only [ln_64, ln_62, not_true_eq_false, not_false_eq_true, Classical.not_not, ofn, b_z, b_nz, b_z', b_nz', mv_rd, mv_rn, mv_ld, mv_ln_, lit, nI_add, pk_mul, nI_clamp]; exact vp_in_nI (by omega) (by omega)) | (exact vp_in_nI (by omega) (by omega)))⟩) ?_)
          | (refine And.intro (show mv_sh _ = _ ∧ vp_in _ _ from ⟨by assumption, by (first | (simp (disch := omega) only [ln_64, ln_62, not_true_eq_false, not_false_eq_true, Classical.not_not, ofn, b_z, b_nz, b_z', b_nz', mv_rd, mv_rn, mv_ld, mv_ln_, lit, nI_add, pk_mul, nI_clamp]; exact vp_in_nI (by omega) (by omega)) | (exact vp_in_nI (by omega) (by omega)))⟩) ?_)
          | (refine And.intro (show ¬ (_ : Int32) = 0 by decide) ?_)
          | (refine ⟨_, rfl, ?_⟩)
          | (refine And.intro (show (none : Option Value) = none from rfl) ?_)
          | (refine Or.inl ⟨rfl, ?_⟩)
          | (refine Or.inr ⟨_, rfl, ?_⟩)
          | (refine dt (by (first | assumption | omega | ((try simp (disch := omega) only [not_true_eq_false, not_false_eq_true, Classical.not_not, ofn, b_z, b_nz, b_z', b_nz', mv_rd, mv_rn, mv_ld, mv_ln_, lit, nI_add, pk_mul, nI_clamp]); (try simp (disch := omega) only [fa_lt, fa_le, fa_eq, nI_toInt, pk_sub_toInt, nI_m1, nI_m1', not_false_eq_true, true_and, and_true]); first | done | omega))) ?_)
          | (refine df (by (first | assumption | omega | ((try simp (disch := omega) only [not_true_eq_false, not_false_eq_true, Classical.not_not, ofn, b_z, b_nz, b_z', b_nz', mv_rd, mv_rn, mv_ld, mv_ln_, lit, nI_add, pk_mul, nI_clamp]); (try simp (disch := omega) only [fa_lt, fa_le, fa_eq, nI_toInt, pk_sub_toInt, nI_m1, nI_m1', not_false_eq_true, true_and, and_true]); first | done | omega))) ?_)
          | (refine dt' (by (first | assumption | omega | ((try simp (disch := omega) only [not_true_eq_false, not_false_eq_true, Classical.not_not, ofn, b_z, b_nz, b_z', b_nz', mv_rd, mv_rn, mv_ld, mv_ln_, lit, nI_add, pk_mul, nI_clamp]); (try simp (disch := omega) only [fa_lt, fa_le, fa_eq, nI_toInt, pk_sub_toInt, nI_m1, nI_m1', not_false_eq_true, true_and, and_true]); first | done | omega))) ?_)
          | (refine df' (by (first | assumption | omega | ((try simp (disch := omega) only [not_true_eq_false, not_false_eq_true, Classical.not_not, ofn, b_z, b_nz, b_z', b_nz', mv_rd, mv_rn, mv_ld, mv_ln_, lit, nI_add, pk_mul, nI_clamp]); (try simp (disch := omega) only [fa_lt, fa_le, fa_eq, nI_toInt, pk_sub_toInt, nI_m1, nI_m1', not_false_eq_true, true_and, and_true]); first | done | omega))) ?_)
          | (refine r_isEndM hk hM hr hp ?_)
          )
      rw [he] at hQ
      exact hQ
    | succ r ih =>
      intro i y p hi hp he
      have hl := lot_lt (y * 1103515245 + 12345)
      have hlt : ¬ nI n ≤ nI i := nI_ge (by omega) (by omega)
      refine h_Ref_isDrawnTaken_13 ⟨fun q => absurd q hlt, fun _ => ⟨by decide, rfl, ?_⟩⟩
      have e := lot_eq (y * 1103515245 + 12345)
      unfold lotE at e
      rw [e]
      refine r_toM hk hr hp hl ⟨_, rfl, ?_⟩
      rw [nI_1]
      exact ih (i + 1) _ _ (by omega) (hM.2.2.2.2.1 _ (by omega)) he
  refine w_Ref_isDrawnTaken ?_
  repeat (first
      | (refine And.intro (show mv_sh _ = _ from rfl) ?_)
      | (refine And.intro (show mv_sh _ = _ by assumption) ?_)
      | (refine And.intro (show _ ≤ mv_sh _ from Nat.le_of_ble_eq_true rfl) ?_)
      | (refine And.intro (show _ ≤ mv_sh _ ∧ vp_in _ _ from ⟨Nat.le_of_ble_eq_true rfl, by (first | (simp (disch := omega) only [ln_64, ln_62, not_true_eq_false, not_false_eq_true, Classical.not_not, ofn, b_z, b_nz, b_z', b_nz', mv_rd, mv_rn, mv_ld, mv_ln_, lit, nI_add, pk_mul, nI_clamp]; exact vp_in_nI (by omega) (by omega)) | (exact vp_in_nI (by omega) (by omega)))⟩) ?_)
      | (refine And.intro (show (_ : Int32) = 0 ∨ (_ : Int32) = 1 from by first | exact Or.inl rfl | exact Or.inr rfl | exact bI_01 _) ?_)
      | (refine And.intro (show mv_sh _ = _ ∧ vp_in _ _ from ⟨rfl, by (first | (simp (disch := omega) only [ln_64, ln_62, not_true_eq_false, not_false_eq_true, Classical.not_not, ofn, b_z, b_nz, b_z', b_nz', mv_rd, mv_rn, mv_ld, mv_ln_, lit, nI_add, pk_mul, nI_clamp]; exact vp_in_nI (by omega) (by omega)) | (exact vp_in_nI (by omega) (by omega)))⟩) ?_)
      | (refine And.intro (show mv_sh _ = _ ∧ vp_in _ _ from ⟨by assumption, by (first | (simp (disch := omega) only [ln_64, ln_62, not_true_eq_false, not_false_eq_true, Classical.not_not, ofn, b_z, b_nz, b_z', b_nz', mv_rd, mv_rn, mv_ld, mv_ln_, lit, nI_add, pk_mul, nI_clamp]; exact vp_in_nI (by omega) (by omega)) | (exact vp_in_nI (by omega) (by omega)))⟩) ?_)
      | (refine And.intro (show ¬ (_ : Int32) = 0 by decide) ?_)
      | (refine ⟨_, rfl, ?_⟩)
      | (refine And.intro (show (none : Option Value) = none from rfl) ?_)
      | (refine Or.inl ⟨rfl, ?_⟩)
      | (refine Or.inr ⟨_, rfl, ?_⟩)
      | (refine dt (by (first | assumption | omega | ((try simp (disch := omega) only [not_true_eq_false, not_false_eq_true, Classical.not_not, ofn, b_z, b_nz, b_z', b_nz', mv_rd, mv_rn, mv_ld, mv_ln_, lit, nI_add, pk_mul, nI_clamp]); (try simp (disch := omega) only [fa_lt, fa_le, fa_eq, nI_toInt, pk_sub_toInt, nI_m1, nI_m1', not_false_eq_true, true_and, and_true]); first | done | omega))) ?_)
      | (refine df (by (first | assumption | omega | ((try simp (disch := omega) only [not_true_eq_false, not_false_eq_true, Classical.not_not, ofn, b_z, b_nz, b_z', b_nz', mv_rd, mv_rn, mv_ld, mv_ln_, lit, nI_add, pk_mul, nI_clamp]); (try simp (disch := omega) only [fa_lt, fa_le, fa_eq, nI_toInt, pk_sub_toInt, nI_m1, nI_m1', not_false_eq_true, true_and, and_true]); first | done | omega))) ?_)
      | (refine dt' (by (first | assumption | omega | ((try simp (disch := omega) only [not_true_eq_false, not_false_eq_true, Classical.not_not, ofn, b_z, b_nz, b_z', b_nz', mv_rd, mv_rn, mv_ld, mv_ln_, lit, nI_add, pk_mul, nI_clamp]); (try simp (disch := omega) only [fa_lt, fa_le, fa_eq, nI_toInt, pk_sub_toInt, nI_m1, nI_m1', not_false_eq_true, true_and, and_true]); first | done | omega))) ?_)
      | (refine df' (by (first | assumption | omega | ((try simp (disch := omega) only [not_true_eq_false, not_false_eq_true, Classical.not_not, ofn, b_z, b_nz, b_z', b_nz', mv_rd, mv_rn, mv_ld, mv_ln_, lit, nI_add, pk_mul, nI_clamp]); (try simp (disch := omega) only [fa_lt, fa_le, fa_eq, nI_toInt, pk_sub_toInt, nI_m1, nI_m1', not_false_eq_true, true_and, and_true]); first | done | omega))) ?_)
      | (refine r_startM hk hr ?_)
      )
  exact loop n 0 z _ (by omega) (by have := hM.2.1; have := hM.2.2.1; omega) rfl
def gc : Nat → Nat → Nat → Nat
  | 0, a, _ => a
  | f + 1, a, b => if b = 0 then a else gc f b (a % b)
theorem gc_ok : ∀ m, m < 21 → ∀ t, t < 21 → t ≤ m → gc 20 m t = Nat.gcd m t ∧ Nat.gcd t m = Nat.gcd m t := by decide +kernel
theorem s_common {a b : Nat} (ha : a < 21) (hb : b < 21) (hQ : Q (some (.int (nI (gc 20 a b)))) σ) : mv_wp X (d + 1) 146 [.int (nI a), .int (nI b)] σ Q := by
  have loop : ∀ f k x y, k + f = 20 → x < 21 → y < 21 → gc 20 a b = gc f x y → mv_wf X (mv_wp X d) m_WM_commonDivisor Q 7 [.retAddr 0, .retAddr 0, .int (nI x), .int (nI y), .int (nI k), .retAddr 0] [] σ := by
    intro f
    induction f with
    | zero =>
      intro k x y hk hx hy he
      refine h_WM_commonDivisor_7 ?_
      repeat (first
          | (refine And.intro (show mv_sh _ = _ from rfl) ?_)
          | (refine And.intro (show mv_sh _ = _ by assumption) ?_)
          | (refine And.intro (show _ ≤ mv_sh _ from Nat.le_of_ble_eq_true rfl) ?_)
          | (refine And.intro (show _ ≤ mv_sh _ ∧ vp_in _ _ from ⟨Nat.le_of_ble_eq_true rfl, by (first | (simp (disch := omega) only [ln_64, ln_62, not_true_eq_false, not_false_eq_true, Classical.not_not, ofn, b_z, b_nz, b_z', b_nz', mv_rd, mv_rn, mv_ld, mv_ln_, lit, nI_add, pk_mul, nI_clamp]; exact vp_in_nI (by omega) (by omega)) | (exact vp_in_nI (by omega) (by omega)))⟩) ?_)
          | (refine And.intro (show (_ : Int32) = 0 ∨ (_ : Int32) = 1 from by first | exact Or.inl rfl | exact Or.inr rfl | exact bI_01 _) ?_)
          | (refine And.intro (show mv_sh _ = _ ∧ vp_in _ _ from ⟨rfl, by (first | (simp (disch := omega) only [ln_64, ln_62, not_true_eq_false, not_false_eq_true, Classical.not_not, ofn, b_z, b_nz, b_z', b_nz', mv_rd, mv_rn, mv_ld, mv_ln_, lit, nI_add, pk_mul, nI_clamp]; exact vp_in_nI (by omega) (by omega)) | (exact vp_in_nI (by omega) (by omega)))⟩) ?_)
          | (refine And.intro (show mv_sh _ = _ ∧ vp_in _ _ from ⟨by assumption, by (first | (simp (disch := omega) only [ln_64, ln_62, not_true_eq_false, not_false_eq_true, Classical.not_not, ofn, b_z, b_nz, b_z', b_nz', mv_rd, mv_rn, mv_ld, mv_ln_, lit, nI_add, pk_mul, nI_clamp]; exact vp_in_nI (by omega) (by omega)) | (exact vp_in_nI (by omega) (by omega)))⟩) ?_)
          | (refine And.intro (show ¬ (_ : Int32) = 0 by decide) ?_)
          | (refine ⟨_, rfl, ?_⟩)
          | (refine And.intro (show (none : Option Value) = none from rfl) ?_)
          | (refine Or.inl ⟨rfl, ?_⟩)
          | (refine Or.inr ⟨_, rfl, ?_⟩)
          | (refine dt (by (first | assumption | omega | ((try simp (disch := omega) only [not_true_eq_false, not_false_eq_true, Classical.not_not, ofn, b_z, b_nz, b_z', b_nz', mv_rd, mv_rn, mv_ld, mv_ln_, lit, nI_add, pk_mul, nI_clamp]); (try simp (disch := omega) only [fa_lt, fa_le, fa_eq, nI_toInt, pk_sub_toInt, nI_m1, nI_m1', not_false_eq_true, true_and, and_true]); first | done | omega))) ?_)
          | (refine df (by (first | assumption | omega | ((try simp (disch := omega) only [not_true_eq_false, not_false_eq_true, Classical.not_not, ofn, b_z, b_nz, b_z', b_nz', mv_rd, mv_rn, mv_ld, mv_ln_, lit, nI_add, pk_mul, nI_clamp]); (try simp (disch := omega) only [fa_lt, fa_le, fa_eq, nI_toInt, pk_sub_toInt, nI_m1, nI_m1', not_false_eq_true, true_and, and_true]); first | done | omega))) ?_)
          | (refine dt' (by (first | assumption | omega | ((try simp (disch := omega) only [not_true_eq_false, not_false_eq_true, Classical.not_not, ofn, b_z, b_nz, b_z', b_nz', mv_rd, mv_rn, mv_ld, mv_ln_, lit, nI_add, pk_mul, nI_clamp]); (try simp (disch := omega) only [fa_lt, fa_le, fa_eq, nI_toInt, pk_sub_toInt, nI_m1, nI_m1', not_false_eq_true, true_and, and_true]); first | done | omega))) ?_)
          | (refine df' (by (first | assumption | omega | ((try simp (disch := omega) only [not_true_eq_false, not_false_eq_true, Classical.not_not, ofn, b_z, b_nz, b_z', b_nz', mv_rd, mv_rn, mv_ld, mv_ln_, lit, nI_add, pk_mul, nI_clamp]); (try simp (disch := omega) only [fa_lt, fa_le, fa_eq, nI_toInt, pk_sub_toInt, nI_m1, nI_m1', not_false_eq_true, true_and, and_true]); first | done | omega))) ?_)
          )
      rw [he] at hQ
      exact hQ
    | succ f ih =>
      intro k x y hk hx hy he
      refine h_WM_commonDivisor_7 ?_
      by_cases e : y = 0
      · subst e
        repeat (first
            | (refine And.intro (show mv_sh _ = _ from rfl) ?_)
            | (refine And.intro (show mv_sh _ = _ by assumption) ?_)
            | (refine And.intro (show _ ≤ mv_sh _ from Nat.le_of_ble_eq_true rfl) ?_)
            | (refine And.intro (show _ ≤ mv_sh _ ∧ vp_in _ _ from ⟨Nat.le_of_ble_eq_true rfl, by (first | (simp (disch := omega) only [ln_64, ln_62, not_true_eq_false, not_false_eq_true, Classical.not_not, ofn, b_z, b_nz, b_z', b_nz', mv_rd, mv_rn, mv_ld, mv_ln_, lit, nI_add, pk_mul, nI_clamp]; exact vp_in_nI (by omega) (by omega)) | (exact vp_in_nI (by omega) (by omega)))⟩) ?_)
            | (refine And.intro (show (_ : Int32) = 0 ∨ (_ : Int32) = 1 from by first | exact Or.inl rfl | exact Or.inr rfl | exact bI_01 _) ?_)
            | (refine And.intro (show mv_sh _ = _ ∧ vp_in _ _ from ⟨rfl, by (first | (simp (disch := omega) only [ln_64, ln_62, not_true_eq_false, not_false_eq_true, Classical.not_not, ofn, b_z, b_nz, b_z', b_nz', mv_rd, mv_rn, mv_ld, mv_ln_, lit, nI_add, pk_mul, nI_clamp]; exact vp_in_nI (by omega) (by omega)) | (exact vp_in_nI (by omega) (by omega)))⟩) ?_)
            | (refine And.intro (show mv_sh _ = _ ∧ vp_in _ _ from ⟨by assumption, by (first | (simp (disch := omega) only [ln_64, ln_62, not_true_eq_false, not_false_eq_true, Classical.not_not, ofn, b_z, b_nz, b_z', b_nz', mv_rd, mv_rn, mv_ld, mv_ln_, lit, nI_add, pk_mul, nI_clamp]; exact vp_in_nI (by omega) (by omega)) | (exact vp_in_nI (by omega) (by omega)))⟩) ?_)
            | (refine And.intro (show ¬ (_ : Int32) = 0 by decide) ?_)
            | (refine ⟨_, rfl, ?_⟩)
            | (refine And.intro (show (none : Option Value) = none from rfl) ?_)
            | (refine Or.inl ⟨rfl, ?_⟩)
            | (refine Or.inr ⟨_, rfl, ?_⟩)
            | (refine dt (by (first | assumption | omega | ((try simp (disch := omega) only [not_true_eq_false, not_false_eq_true, Classical.not_not, ofn, b_z, b_nz, b_z', b_nz', mv_rd, mv_rn, mv_ld, mv_ln_, lit, nI_add, pk_mul, nI_clamp]); (try simp (disch := omega) only [fa_lt, fa_le, fa_eq, nI_toInt, pk_sub_toInt, nI_m1, nI_m1', not_false_eq_true, true_and, and_true]); first | done | omega))) ?_)
            | (refine df (by (first | assumption | omega | ((try simp (disch := omega) only [not_true_eq_false, not_false_eq_true, Classical.not_not, ofn, b_z, b_nz, b_z', b_nz', mv_rd, mv_rn, mv_ld, mv_ln_, lit, nI_add, pk_mul, nI_clamp]); (try simp (disch := omega) only [fa_lt, fa_le, fa_eq, nI_toInt, pk_sub_toInt, nI_m1, nI_m1', not_false_eq_true, true_and, and_true]); first | done | omega))) ?_)
            | (refine dt' (by (first | assumption | omega | ((try simp (disch := omega) only [not_true_eq_false, not_false_eq_true, Classical.not_not, ofn, b_z, b_nz, b_z', b_nz', mv_rd, mv_rn, mv_ld, mv_ln_, lit, nI_add, pk_mul, nI_clamp]); (try simp (disch := omega) only [fa_lt, fa_le, fa_eq, nI_toInt, pk_sub_toInt, nI_m1, nI_m1', not_false_eq_true, true_and, and_true]); first | done | omega))) ?_)
            | (refine df' (by (first | assumption | omega | ((try simp (disch := omega) only [not_true_eq_false, not_false_eq_true, Classical.not_not, ofn, b_z, b_nz, b_z', b_nz', mv_rd, mv_rn, mv_ld, mv_ln_, lit, nI_add, pk_mul, nI_clamp]); (try simp (disch := omega) only [fa_lt, fa_le, fa_eq, nI_toInt, pk_sub_toInt, nI_m1, nI_m1', not_false_eq_true, true_and, and_true]); first | done | omega))) ?_)
            )
        rw [he, show gc (f + 1) x 0 = x from if_pos rfl] at hQ
        exact hQ
      · have e0 : ¬ nI y = (0 : Int32) := nI_ne0 (by omega) (by omega)
        have e1 : ¬ nI y ≤ (0 : Int32) := nI_ge (a := 0) (by omega) (by omega)
        have e2 : ¬ (20 : Int32) ≤ nI k := nI_ge (b := 20) (by omega) (by omega)
        refine ⟨fun q => absurd q e2, fun _ => ⟨fun q => absurd q e1, fun _ => ⟨e0, ?_⟩⟩⟩
        rw [pk_rem (by omega) (by omega) (by omega), nI_1]
        have hr := Nat.mod_lt x (show y > 0 by omega)
        exact ih (k + 1) y (x % y) (by omega) hy (by omega) (he.trans (if_neg e))
  exact w_WM_commonDivisor (loop 20 0 a b rfl ha hb rfl)
theorem r_common {s t p : Nat} (hs : s < 21) (ht : t < 21) (hs0 : 0 < s) (hp : p < 2) (hQ : Q (some (.int (if p = 0 then nI (t / Nat.gcd t s) else nI (s / Nat.gcd t s)))) σ) : ∀ y x, x < 21 → y < 21 → Nat.gcd x y = Nat.gcd t s → mv_wf X (mv_wp X d) m_Ref_chance Q 91 [.retAddr 0, .retAddr 0, .retAddr 0, .int (nI s), .retAddr 0, .int (nI p), .int (nI t), .int (nI x), .int (nI y), .retAddr 0] [] σ := by
  intro y
  induction y using Nat.strongRecOn with
  | ind y ih =>
    intro x hx hy he
    refine h_Ref_chance_91 ?_
    by_cases e : y = 0
    · subst e
      rw [Nat.gcd_zero_right] at he
      have hx0 : 0 < x := by rw [he]; exact Nat.gcd_pos_of_pos_right _ hs0
      have e0 : ¬ nI x = (0 : Int32) := nI_ne0 hx0 (by omega)
      rw [← he] at hQ
      by_cases ep : p = 0
      · subst ep
        rw [if_pos rfl] at hQ
        refine ⟨fun _ => ⟨fun q => absurd rfl q, fun _ => ⟨e0, ?_⟩⟩, fun q => absurd rfl q⟩
        rw [pk_div (by omega) hx0 (by omega)]
        exact hQ
      · rw [if_neg ep] at hQ
        refine ⟨fun _ => ⟨fun _ => ⟨e0, ?_⟩, fun q => absurd q (nI_ne0 (by omega) (by omega))⟩, fun q => absurd rfl q⟩
        rw [pk_div (by omega) hx0 (by omega)]
        exact hQ
    · have e0 : ¬ nI y = (0 : Int32) := nI_ne0 (by omega) (by omega)
      refine ⟨fun q => absurd q e0, fun _ => ⟨e0, ?_⟩⟩
      rw [pk_rem (by omega) (by omega) (by omega)]
      have hr := Nat.mod_lt x (show y > 0 by omega)
      refine ih (x % y) hr y hy (by omega) ?_
      rw [Nat.gcd_comm y, ← Nat.gcd_rec, Nat.gcd_comm]
      exact he
def dcn (M : md_T) (z : Int32) (n : Nat) : Nat → Nat := fa_cnt (fun j => M.2.2.1.testBit (dr M n (z + nI j) M.2.1))
theorem op_chance {a1 a2 a3 a4 a5 : Int32} (h : iv_M n Ms σ) : lw_op X (d + 5) (fun σ2 => σ2 = σ) 124 230 [.int a1, .int a2, .int a3, .int a4, .int a5] σ := by
  unfold lw_op
  obtain ⟨b1, b2, b3, b4⟩ := h
  rcases ix_cs a1 n (by omega) with ⟨c1, c2⟩ | ⟨k, hk, rfl, c1⟩
  · refine w_WM_chance ⟨rfl, ?_⟩
    rw [s_machineAt_no b2 c1]
    refine Or.inl ⟨rfl, _, rfl, ?_⟩
    refine w_Ref_chance ⟨rfl, ?_⟩
    rw [r_isMachine b3 b1, if_neg c2]
    exact ⟨_, rfl, fun _ => ⟨rfl, rfl⟩, fun z => absurd rfl z⟩
  obtain ⟨m1, m2, m3⟩ := b4 k hk
  have ht : mc_at (33 + 4 * k) := (mc_now k (by omega)).1
  have ht1 := ht.1
  have bad : ¬ ((1 ≤ a3.toInt ∧ a3.toInt ≤ 20) ∧ (0 ≤ a4.toInt ∧ a4.toInt ≤ 99) ∧ (0 ≤ a5.toInt ∧ a5.toInt ≤ 1)) → mv_wp X (d + 5) 230 [.ref 61, .int (nI k), .int a2, .int a3, .int a4, .int a5] σ (fun r2 σ2 => r2 = some (.int (-2)) ∧ σ2 = σ) := by
    intro hb
    refine w_Ref_chance ⟨rfl, ?_⟩
    rw [r_isMachine b3 b1, if_pos c1]
    refine ⟨_, rfl, fun z => absurd z (by decide), fun _ => ?_⟩
    rw [r_inI (A := 1) (C := 20) rfl rfl]
    by_cases e1 : 1 ≤ a3.toInt ∧ a3.toInt ≤ 20
    · rw [if_pos e1]
      refine ⟨_, rfl, fun z => absurd z (by decide), fun _ => ?_⟩
      rw [r_inI (A := 0) (C := 99) rfl rfl]
      by_cases e2 : 0 ≤ a4.toInt ∧ a4.toInt ≤ 99
      · rw [if_pos e2]
        refine ⟨_, rfl, fun z => absurd z (by decide), fun _ => ?_⟩
        rw [r_inI (A := 0) (C := 1) rfl rfl, if_neg (fun e3 => hb ⟨e1, e2, e3⟩)]
        exact ⟨_, rfl, fun z => absurd rfl z, fun _ => ⟨rfl, rfl⟩⟩
      · rw [if_neg e2]
        exact ⟨_, rfl, fun _ => ⟨rfl, rfl⟩, fun z => absurd rfl z⟩
    · rw [if_neg e1]
      exact ⟨_, rfl, fun _ => ⟨rfl, rfl⟩, fun z => absurd rfl z⟩
  refine w_WM_chance ⟨rfl, ?_⟩
  rw [s_machineAt_ok b2 b1 hk]
  refine Or.inr ⟨_, rfl, ?_⟩
  by_cases e1 : a3.toInt < 1
  · repeat (first
        | (refine And.intro (show mv_sh _ = _ from rfl) ?_)
        | (refine And.intro (show mv_sh _ = _ by assumption) ?_)
        | (refine And.intro (show _ ≤ mv_sh _ from Nat.le_of_ble_eq_true rfl) ?_)
        | (refine And.intro (show _ ≤ mv_sh _ ∧ vp_in _ _ from ⟨Nat.le_of_ble_eq_true rfl, by (first | (simp (disch := omega) only [ln_64, ln_62, not_true_eq_false, not_false_eq_true, Classical.not_not, ofn, b_z, b_nz, b_z', b_nz', mv_rd, mv_rn, mv_ld, mv_ln_, lit, nI_add, pk_mul, nI_clamp]; exact vp_in_nI (by omega) (by omega)) | (exact vp_in_nI (by omega) (by omega)))⟩) ?_)
        | (refine And.intro (show (_ : Int32) = 0 ∨ (_ : Int32) = 1 from by first | exact Or.inl rfl | exact Or.inr rfl | exact bI_01 _) ?_)
        | (refine And.intro (show mv_sh _ = _ ∧ vp_in _ _ from ⟨rfl, by (first | (simp (disch := omega) only [ln_64, ln_62, not_true_eq_false, not_false_eq_true, Classical.not_not, ofn, b_z, b_nz, b_z', b_nz', mv_rd, mv_rn, mv_ld, mv_ln_, lit, nI_add, pk_mul, nI_clamp]; exact vp_in_nI (by omega) (by omega)) | (exact vp_in_nI (by omega) (by omega)))⟩) ?_)
        | (refine And.intro (show mv_sh _ = _ ∧ vp_in _ _ from ⟨by assumption, by (first | (simp (disch := omega) only [ln_64, ln_62, not_true_eq_false, not_false_eq_true, Classical.not_not, ofn, b_z, b_nz, b_z', b_nz', mv_rd, mv_rn, mv_ld, mv_ln_, lit, nI_add, pk_mul, nI_clamp]; exact vp_in_nI (by omega) (by omega)) | (exact vp_in_nI (by omega) (by omega)))⟩) ?_)
        | (refine And.intro (show ¬ (_ : Int32) = 0 by decide) ?_)
        | (refine ⟨_, rfl, ?_⟩)
        | (refine And.intro (show (none : Option Value) = none from rfl) ?_)
        | (refine Or.inl ⟨rfl, ?_⟩)
        | (refine Or.inr ⟨_, rfl, ?_⟩)
        | (refine dt (by (first | assumption | omega | ((try simp (disch := omega) only [not_true_eq_false, not_false_eq_true, Classical.not_not, ofn, b_z, b_nz, b_z', b_nz', mv_rd, mv_rn, mv_ld, mv_ln_, lit, nI_add, pk_mul, nI_clamp]); (try simp (disch := omega) only [fa_lt, fa_le, fa_eq, nI_toInt, pk_sub_toInt, nI_m1, nI_m1', not_false_eq_true, true_and, and_true]); first | done | omega))) ?_)
        | (refine df (by (first | assumption | omega | ((try simp (disch := omega) only [not_true_eq_false, not_false_eq_true, Classical.not_not, ofn, b_z, b_nz, b_z', b_nz', mv_rd, mv_rn, mv_ld, mv_ln_, lit, nI_add, pk_mul, nI_clamp]); (try simp (disch := omega) only [fa_lt, fa_le, fa_eq, nI_toInt, pk_sub_toInt, nI_m1, nI_m1', not_false_eq_true, true_and, and_true]); first | done | omega))) ?_)
        | (refine dt' (by (first | assumption | omega | ((try simp (disch := omega) only [not_true_eq_false, not_false_eq_true, Classical.not_not, ofn, b_z, b_nz, b_z', b_nz', mv_rd, mv_rn, mv_ld, mv_ln_, lit, nI_add, pk_mul, nI_clamp]); (try simp (disch := omega) only [fa_lt, fa_le, fa_eq, nI_toInt, pk_sub_toInt, nI_m1, nI_m1', not_false_eq_true, true_and, and_true]); first | done | omega))) ?_)
        | (refine df' (by (first | assumption | omega | ((try simp (disch := omega) only [not_true_eq_false, not_false_eq_true, Classical.not_not, ofn, b_z, b_nz, b_z', b_nz', mv_rd, mv_rn, mv_ld, mv_ln_, lit, nI_add, pk_mul, nI_clamp]); (try simp (disch := omega) only [fa_lt, fa_le, fa_eq, nI_toInt, pk_sub_toInt, nI_m1, nI_m1', not_false_eq_true, true_and, and_true]); first | done | omega))) ?_)
        )
    exact bad (by omega)
  by_cases e2 : 20 < a3.toInt
  · repeat (first
        | (refine And.intro (show mv_sh _ = _ from rfl) ?_)
        | (refine And.intro (show mv_sh _ = _ by assumption) ?_)
        | (refine And.intro (show _ ≤ mv_sh _ from Nat.le_of_ble_eq_true rfl) ?_)
        | (refine And.intro (show _ ≤ mv_sh _ ∧ vp_in _ _ from ⟨Nat.le_of_ble_eq_true rfl, by (first | (simp (disch := omega) only [ln_64, ln_62, not_true_eq_false, not_false_eq_true, Classical.not_not, ofn, b_z, b_nz, b_z', b_nz', mv_rd, mv_rn, mv_ld, mv_ln_, lit, nI_add, pk_mul, nI_clamp]; exact vp_in_nI (by omega) (by omega)) | (exact vp_in_nI (by omega) (by omega)))⟩) ?_)
        | (refine And.intro (show (_ : Int32) = 0 ∨ (_ : Int32) = 1 from by first | exact Or.inl rfl | exact Or.inr rfl | exact bI_01 _) ?_)
        | (refine And.intro (show mv_sh _ = _ ∧ vp_in _ _ from ⟨rfl, by (first | (simp (disch := omega) only [ln_64, ln_62, not_true_eq_false, not_false_eq_true, Classical.not_not, ofn, b_z, b_nz, b_z', b_nz', mv_rd, mv_rn, mv_ld, mv_ln_, lit, nI_add, pk_mul, nI_clamp]; exact vp_in_nI (by omega) (by omega)) | (exact vp_in_nI (by omega) (by omega)))⟩) ?_)
        | (refine And.intro (show mv_sh _ = _ ∧ vp_in _ _ from ⟨by assumption, by (first | (simp (disch := omega) only [ln_64, ln_62, not_true_eq_false, not_false_eq_true, Classical.not_not, ofn, b_z, b_nz, b_z', b_nz', mv_rd, mv_rn, mv_ld, mv_ln_, lit, nI_add, pk_mul, nI_clamp]; exact vp_in_nI (by omega) (by omega)) | (exact vp_in_nI (by omega) (by omega)))⟩) ?_)
        | (refine And.intro (show ¬ (_ : Int32) = 0 by decide) ?_)
        | (refine ⟨_, rfl, ?_⟩)
        | (refine And.intro (show (none : Option Value) = none from rfl) ?_)
        | (refine Or.inl ⟨rfl, ?_⟩)
        | (refine Or.inr ⟨_, rfl, ?_⟩)
        | (refine dt (by (first | assumption | omega | ((try simp (disch := omega) only [not_true_eq_false, not_false_eq_true, Classical.not_not, ofn, b_z, b_nz, b_z', b_nz', mv_rd, mv_rn, mv_ld, mv_ln_, lit, nI_add, pk_mul, nI_clamp]); (try simp (disch := omega) only [fa_lt, fa_le, fa_eq, nI_toInt, pk_sub_toInt, nI_m1, nI_m1', not_false_eq_true, true_and, and_true]); first | done | omega))) ?_)
        | (refine df (by (first | assumption | omega | ((try simp (disch := omega) only [not_true_eq_false, not_false_eq_true, Classical.not_not, ofn, b_z, b_nz, b_z', b_nz', mv_rd, mv_rn, mv_ld, mv_ln_, lit, nI_add, pk_mul, nI_clamp]); (try simp (disch := omega) only [fa_lt, fa_le, fa_eq, nI_toInt, pk_sub_toInt, nI_m1, nI_m1', not_false_eq_true, true_and, and_true]); first | done | omega))) ?_)
        | (refine dt' (by (first | assumption | omega | ((try simp (disch := omega) only [not_true_eq_false, not_false_eq_true, Classical.not_not, ofn, b_z, b_nz, b_z', b_nz', mv_rd, mv_rn, mv_ld, mv_ln_, lit, nI_add, pk_mul, nI_clamp]); (try simp (disch := omega) only [fa_lt, fa_le, fa_eq, nI_toInt, pk_sub_toInt, nI_m1, nI_m1', not_false_eq_true, true_and, and_true]); first | done | omega))) ?_)
        | (refine df' (by (first | assumption | omega | ((try simp (disch := omega) only [not_true_eq_false, not_false_eq_true, Classical.not_not, ofn, b_z, b_nz, b_z', b_nz', mv_rd, mv_rn, mv_ld, mv_ln_, lit, nI_add, pk_mul, nI_clamp]); (try simp (disch := omega) only [fa_lt, fa_le, fa_eq, nI_toInt, pk_sub_toInt, nI_m1, nI_m1', not_false_eq_true, true_and, and_true]); first | done | omega))) ?_)
        )
    exact bad (by omega)
  by_cases e3 : a4.toInt < 0
  · repeat (first
        | (refine And.intro (show mv_sh _ = _ from rfl) ?_)
        | (refine And.intro (show mv_sh _ = _ by assumption) ?_)
        | (refine And.intro (show _ ≤ mv_sh _ from Nat.le_of_ble_eq_true rfl) ?_)
        | (refine And.intro (show _ ≤ mv_sh _ ∧ vp_in _ _ from ⟨Nat.le_of_ble_eq_true rfl, by (first | (simp (disch := omega) only [ln_64, ln_62, not_true_eq_false, not_false_eq_true, Classical.not_not, ofn, b_z, b_nz, b_z', b_nz', mv_rd, mv_rn, mv_ld, mv_ln_, lit, nI_add, pk_mul, nI_clamp]; exact vp_in_nI (by omega) (by omega)) | (exact vp_in_nI (by omega) (by omega)))⟩) ?_)
        | (refine And.intro (show (_ : Int32) = 0 ∨ (_ : Int32) = 1 from by first | exact Or.inl rfl | exact Or.inr rfl | exact bI_01 _) ?_)
        | (refine And.intro (show mv_sh _ = _ ∧ vp_in _ _ from ⟨rfl, by (first | (simp (disch := omega) only [ln_64, ln_62, not_true_eq_false, not_false_eq_true, Classical.not_not, ofn, b_z, b_nz, b_z', b_nz', mv_rd, mv_rn, mv_ld, mv_ln_, lit, nI_add, pk_mul, nI_clamp]; exact vp_in_nI (by omega) (by omega)) | (exact vp_in_nI (by omega) (by omega)))⟩) ?_)
        | (refine And.intro (show mv_sh _ = _ ∧ vp_in _ _ from ⟨by assumption, by (first | (simp (disch := omega) only [ln_64, ln_62, not_true_eq_false, not_false_eq_true, Classical.not_not, ofn, b_z, b_nz, b_z', b_nz', mv_rd, mv_rn, mv_ld, mv_ln_, lit, nI_add, pk_mul, nI_clamp]; exact vp_in_nI (by omega) (by omega)) | (exact vp_in_nI (by omega) (by omega)))⟩) ?_)
        | (refine And.intro (show ¬ (_ : Int32) = 0 by decide) ?_)
        | (refine ⟨_, rfl, ?_⟩)
        | (refine And.intro (show (none : Option Value) = none from rfl) ?_)
        | (refine Or.inl ⟨rfl, ?_⟩)
        | (refine Or.inr ⟨_, rfl, ?_⟩)
        | (refine dt (by (first | assumption | omega | ((try simp (disch := omega) only [not_true_eq_false, not_false_eq_true, Classical.not_not, ofn, b_z, b_nz, b_z', b_nz', mv_rd, mv_rn, mv_ld, mv_ln_, lit, nI_add, pk_mul, nI_clamp]); (try simp (disch := omega) only [fa_lt, fa_le, fa_eq, nI_toInt, pk_sub_toInt, nI_m1, nI_m1', not_false_eq_true, true_and, and_true]); first | done | omega))) ?_)
        | (refine df (by (first | assumption | omega | ((try simp (disch := omega) only [not_true_eq_false, not_false_eq_true, Classical.not_not, ofn, b_z, b_nz, b_z', b_nz', mv_rd, mv_rn, mv_ld, mv_ln_, lit, nI_add, pk_mul, nI_clamp]); (try simp (disch := omega) only [fa_lt, fa_le, fa_eq, nI_toInt, pk_sub_toInt, nI_m1, nI_m1', not_false_eq_true, true_and, and_true]); first | done | omega))) ?_)
        | (refine dt' (by (first | assumption | omega | ((try simp (disch := omega) only [not_true_eq_false, not_false_eq_true, Classical.not_not, ofn, b_z, b_nz, b_z', b_nz', mv_rd, mv_rn, mv_ld, mv_ln_, lit, nI_add, pk_mul, nI_clamp]); (try simp (disch := omega) only [fa_lt, fa_le, fa_eq, nI_toInt, pk_sub_toInt, nI_m1, nI_m1', not_false_eq_true, true_and, and_true]); first | done | omega))) ?_)
        | (refine df' (by (first | assumption | omega | ((try simp (disch := omega) only [not_true_eq_false, not_false_eq_true, Classical.not_not, ofn, b_z, b_nz, b_z', b_nz', mv_rd, mv_rn, mv_ld, mv_ln_, lit, nI_add, pk_mul, nI_clamp]); (try simp (disch := omega) only [fa_lt, fa_le, fa_eq, nI_toInt, pk_sub_toInt, nI_m1, nI_m1', not_false_eq_true, true_and, and_true]); first | done | omega))) ?_)
        )
    exact bad (by omega)
  by_cases e4 : 99 < a4.toInt
  · repeat (first
        | (refine And.intro (show mv_sh _ = _ from rfl) ?_)
        | (refine And.intro (show mv_sh _ = _ by assumption) ?_)
        | (refine And.intro (show _ ≤ mv_sh _ from Nat.le_of_ble_eq_true rfl) ?_)
        | (refine And.intro (show _ ≤ mv_sh _ ∧ vp_in _ _ from ⟨Nat.le_of_ble_eq_true rfl, by (first | (simp (disch := omega) only [ln_64, ln_62, not_true_eq_false, not_false_eq_true, Classical.not_not, ofn, b_z, b_nz, b_z', b_nz', mv_rd, mv_rn, mv_ld, mv_ln_, lit, nI_add, pk_mul, nI_clamp]; exact vp_in_nI (by omega) (by omega)) | (exact vp_in_nI (by omega) (by omega)))⟩) ?_)
        | (refine And.intro (show (_ : Int32) = 0 ∨ (_ : Int32) = 1 from by first | exact Or.inl rfl | exact Or.inr rfl | exact bI_01 _) ?_)
        | (refine And.intro (show mv_sh _ = _ ∧ vp_in _ _ from ⟨rfl, by (first | (simp (disch := omega) only [ln_64, ln_62, not_true_eq_false, not_false_eq_true, Classical.not_not, ofn, b_z, b_nz, b_z', b_nz', mv_rd, mv_rn, mv_ld, mv_ln_, lit, nI_add, pk_mul, nI_clamp]; exact vp_in_nI (by omega) (by omega)) | (exact vp_in_nI (by omega) (by omega)))⟩) ?_)
        | (refine And.intro (show mv_sh _ = _ ∧ vp_in _ _ from ⟨by assumption, by (first | (simp (disch := omega) only [ln_64, ln_62, not_true_eq_false, not_false_eq_true, Classical.not_not, ofn, b_z, b_nz, b_z', b_nz', mv_rd, mv_rn, mv_ld, mv_ln_, lit, nI_add, pk_mul, nI_clamp]; exact vp_in_nI (by omega) (by omega)) | (exact vp_in_nI (by omega) (by omega)))⟩) ?_)
        | (refine And.intro (show ¬ (_ : Int32) = 0 by decide) ?_)
        | (refine ⟨_, rfl, ?_⟩)
        | (refine And.intro (show (none : Option Value) = none from rfl) ?_)
        | (refine Or.inl ⟨rfl, ?_⟩)
        | (refine Or.inr ⟨_, rfl, ?_⟩)
        | (refine dt (by (first | assumption | omega | ((try simp (disch := omega) only [not_true_eq_false, not_false_eq_true, Classical.not_not, ofn, b_z, b_nz, b_z', b_nz', mv_rd, mv_rn, mv_ld, mv_ln_, lit, nI_add, pk_mul, nI_clamp]); (try simp (disch := omega) only [fa_lt, fa_le, fa_eq, nI_toInt, pk_sub_toInt, nI_m1, nI_m1', not_false_eq_true, true_and, and_true]); first | done | omega))) ?_)
        | (refine df (by (first | assumption | omega | ((try simp (disch := omega) only [not_true_eq_false, not_false_eq_true, Classical.not_not, ofn, b_z, b_nz, b_z', b_nz', mv_rd, mv_rn, mv_ld, mv_ln_, lit, nI_add, pk_mul, nI_clamp]); (try simp (disch := omega) only [fa_lt, fa_le, fa_eq, nI_toInt, pk_sub_toInt, nI_m1, nI_m1', not_false_eq_true, true_and, and_true]); first | done | omega))) ?_)
        | (refine dt' (by (first | assumption | omega | ((try simp (disch := omega) only [not_true_eq_false, not_false_eq_true, Classical.not_not, ofn, b_z, b_nz, b_z', b_nz', mv_rd, mv_rn, mv_ld, mv_ln_, lit, nI_add, pk_mul, nI_clamp]); (try simp (disch := omega) only [fa_lt, fa_le, fa_eq, nI_toInt, pk_sub_toInt, nI_m1, nI_m1', not_false_eq_true, true_and, and_true]); first | done | omega))) ?_)
        | (refine df' (by (first | assumption | omega | ((try simp (disch := omega) only [not_true_eq_false, not_false_eq_true, Classical.not_not, ofn, b_z, b_nz, b_z', b_nz', mv_rd, mv_rn, mv_ld, mv_ln_, lit, nI_add, pk_mul, nI_clamp]); (try simp (disch := omega) only [fa_lt, fa_le, fa_eq, nI_toInt, pk_sub_toInt, nI_m1, nI_m1', not_false_eq_true, true_and, and_true]); first | done | omega))) ?_)
        )
    exact bad (by omega)
  by_cases e5 : a5.toInt < 0
  · repeat (first
        | (refine And.intro (show mv_sh _ = _ from rfl) ?_)
        | (refine And.intro (show mv_sh _ = _ by assumption) ?_)
        | (refine And.intro (show _ ≤ mv_sh _ from Nat.le_of_ble_eq_true rfl) ?_)
        | (refine And.intro (show _ ≤ mv_sh _ ∧ vp_in _ _ from ⟨Nat.le_of_ble_eq_true rfl, by (first | (simp (disch := omega) only [ln_64, ln_62, not_true_eq_false, not_false_eq_true, Classical.not_not, ofn, b_z, b_nz, b_z', b_nz', mv_rd, mv_rn, mv_ld, mv_ln_, lit, nI_add, pk_mul, nI_clamp]; exact vp_in_nI (by omega) (by omega)) | (exact vp_in_nI (by omega) (by omega)))⟩) ?_)
        | (refine And.intro (show (_ : Int32) = 0 ∨ (_ : Int32) = 1 from by first | exact Or.inl rfl | exact Or.inr rfl | exact bI_01 _) ?_)
        | (refine And.intro (show mv_sh _ = _ ∧ vp_in _ _ from ⟨rfl, by (first | (simp (disch := omega) only [ln_64, ln_62, not_true_eq_false, not_false_eq_true, Classical.not_not, ofn, b_z, b_nz, b_z', b_nz', mv_rd, mv_rn, mv_ld, mv_ln_, lit, nI_add, pk_mul, nI_clamp]; exact vp_in_nI (by omega) (by omega)) | (exact vp_in_nI (by omega) (by omega)))⟩) ?_)
        | (refine And.intro (show mv_sh _ = _ ∧ vp_in _ _ from ⟨by assumption, by (first | (simp (disch := omega) only [ln_64, ln_62, not_true_eq_false, not_false_eq_true, Classical.not_not, ofn, b_z, b_nz, b_z', b_nz', mv_rd, mv_rn, mv_ld, mv_ln_, lit, nI_add, pk_mul, nI_clamp]; exact vp_in_nI (by omega) (by omega)) | (exact vp_in_nI (by omega) (by omega)))⟩) ?_)
        | (refine And.intro (show ¬ (_ : Int32) = 0 by decide) ?_)
        | (refine ⟨_, rfl, ?_⟩)
        | (refine And.intro (show (none : Option Value) = none from rfl) ?_)
        | (refine Or.inl ⟨rfl, ?_⟩)
        | (refine Or.inr ⟨_, rfl, ?_⟩)
        | (refine dt (by (first | assumption | omega | ((try simp (disch := omega) only [not_true_eq_false, not_false_eq_true, Classical.not_not, ofn, b_z, b_nz, b_z', b_nz', mv_rd, mv_rn, mv_ld, mv_ln_, lit, nI_add, pk_mul, nI_clamp]); (try simp (disch := omega) only [fa_lt, fa_le, fa_eq, nI_toInt, pk_sub_toInt, nI_m1, nI_m1', not_false_eq_true, true_and, and_true]); first | done | omega))) ?_)
        | (refine df (by (first | assumption | omega | ((try simp (disch := omega) only [not_true_eq_false, not_false_eq_true, Classical.not_not, ofn, b_z, b_nz, b_z', b_nz', mv_rd, mv_rn, mv_ld, mv_ln_, lit, nI_add, pk_mul, nI_clamp]); (try simp (disch := omega) only [fa_lt, fa_le, fa_eq, nI_toInt, pk_sub_toInt, nI_m1, nI_m1', not_false_eq_true, true_and, and_true]); first | done | omega))) ?_)
        | (refine dt' (by (first | assumption | omega | ((try simp (disch := omega) only [not_true_eq_false, not_false_eq_true, Classical.not_not, ofn, b_z, b_nz, b_z', b_nz', mv_rd, mv_rn, mv_ld, mv_ln_, lit, nI_add, pk_mul, nI_clamp]); (try simp (disch := omega) only [fa_lt, fa_le, fa_eq, nI_toInt, pk_sub_toInt, nI_m1, nI_m1', not_false_eq_true, true_and, and_true]); first | done | omega))) ?_)
        | (refine df' (by (first | assumption | omega | ((try simp (disch := omega) only [not_true_eq_false, not_false_eq_true, Classical.not_not, ofn, b_z, b_nz, b_z', b_nz', mv_rd, mv_rn, mv_ld, mv_ln_, lit, nI_add, pk_mul, nI_clamp]); (try simp (disch := omega) only [fa_lt, fa_le, fa_eq, nI_toInt, pk_sub_toInt, nI_m1, nI_m1', not_false_eq_true, true_and, and_true]); first | done | omega))) ?_)
        )
    exact bad (by omega)
  by_cases e6 : 1 < a5.toInt
  · repeat (first
        | (refine And.intro (show mv_sh _ = _ from rfl) ?_)
        | (refine And.intro (show mv_sh _ = _ by assumption) ?_)
        | (refine And.intro (show _ ≤ mv_sh _ from Nat.le_of_ble_eq_true rfl) ?_)
        | (refine And.intro (show _ ≤ mv_sh _ ∧ vp_in _ _ from ⟨Nat.le_of_ble_eq_true rfl, by (first | (simp (disch := omega) only [ln_64, ln_62, not_true_eq_false, not_false_eq_true, Classical.not_not, ofn, b_z, b_nz, b_z', b_nz', mv_rd, mv_rn, mv_ld, mv_ln_, lit, nI_add, pk_mul, nI_clamp]; exact vp_in_nI (by omega) (by omega)) | (exact vp_in_nI (by omega) (by omega)))⟩) ?_)
        | (refine And.intro (show (_ : Int32) = 0 ∨ (_ : Int32) = 1 from by first | exact Or.inl rfl | exact Or.inr rfl | exact bI_01 _) ?_)
        | (refine And.intro (show mv_sh _ = _ ∧ vp_in _ _ from ⟨rfl, by (first | (simp (disch := omega) only [ln_64, ln_62, not_true_eq_false, not_false_eq_true, Classical.not_not, ofn, b_z, b_nz, b_z', b_nz', mv_rd, mv_rn, mv_ld, mv_ln_, lit, nI_add, pk_mul, nI_clamp]; exact vp_in_nI (by omega) (by omega)) | (exact vp_in_nI (by omega) (by omega)))⟩) ?_)
        | (refine And.intro (show mv_sh _ = _ ∧ vp_in _ _ from ⟨by assumption, by (first | (simp (disch := omega) only [ln_64, ln_62, not_true_eq_false, not_false_eq_true, Classical.not_not, ofn, b_z, b_nz, b_z', b_nz', mv_rd, mv_rn, mv_ld, mv_ln_, lit, nI_add, pk_mul, nI_clamp]; exact vp_in_nI (by omega) (by omega)) | (exact vp_in_nI (by omega) (by omega)))⟩) ?_)
        | (refine And.intro (show ¬ (_ : Int32) = 0 by decide) ?_)
        | (refine ⟨_, rfl, ?_⟩)
        | (refine And.intro (show (none : Option Value) = none from rfl) ?_)
        | (refine Or.inl ⟨rfl, ?_⟩)
        | (refine Or.inr ⟨_, rfl, ?_⟩)
        | (refine dt (by (first | assumption | omega | ((try simp (disch := omega) only [not_true_eq_false, not_false_eq_true, Classical.not_not, ofn, b_z, b_nz, b_z', b_nz', mv_rd, mv_rn, mv_ld, mv_ln_, lit, nI_add, pk_mul, nI_clamp]); (try simp (disch := omega) only [fa_lt, fa_le, fa_eq, nI_toInt, pk_sub_toInt, nI_m1, nI_m1', not_false_eq_true, true_and, and_true]); first | done | omega))) ?_)
        | (refine df (by (first | assumption | omega | ((try simp (disch := omega) only [not_true_eq_false, not_false_eq_true, Classical.not_not, ofn, b_z, b_nz, b_z', b_nz', mv_rd, mv_rn, mv_ld, mv_ln_, lit, nI_add, pk_mul, nI_clamp]); (try simp (disch := omega) only [fa_lt, fa_le, fa_eq, nI_toInt, pk_sub_toInt, nI_m1, nI_m1', not_false_eq_true, true_and, and_true]); first | done | omega))) ?_)
        | (refine dt' (by (first | assumption | omega | ((try simp (disch := omega) only [not_true_eq_false, not_false_eq_true, Classical.not_not, ofn, b_z, b_nz, b_z', b_nz', mv_rd, mv_rn, mv_ld, mv_ln_, lit, nI_add, pk_mul, nI_clamp]); (try simp (disch := omega) only [fa_lt, fa_le, fa_eq, nI_toInt, pk_sub_toInt, nI_m1, nI_m1', not_false_eq_true, true_and, and_true]); first | done | omega))) ?_)
        | (refine df' (by (first | assumption | omega | ((try simp (disch := omega) only [not_true_eq_false, not_false_eq_true, Classical.not_not, ofn, b_z, b_nz, b_z', b_nz', mv_rd, mv_rn, mv_ld, mv_ln_, lit, nI_add, pk_mul, nI_clamp]); (try simp (disch := omega) only [fa_lt, fa_le, fa_eq, nI_toInt, pk_sub_toInt, nI_m1, nI_m1', not_false_eq_true, true_and, and_true]); first | done | omega))) ?_)
        )
    exact bad (by omega)
  clear bad
  obtain ⟨s, hs, rfl⟩ := (ix_cs2 a3).resolve_left (by omega)
  obtain ⟨m, hm, rfl⟩ := (ix_cs2 a4).resolve_left (by omega)
  obtain ⟨p, hp, rfl⟩ := (ix_cs2 a5).resolve_left (by omega)
  rw [nI_toInt hs] at e1 e2
  rw [nI_toInt hm] at e3 e4
  rw [nI_toInt hp] at e5 e6
  have rloop : ∀ (Q : mv_Q), (Q (some (.int (if p = 0 then nI (dcn (Ms k) a2 m s / Nat.gcd (dcn (Ms k) a2 m s) s) else nI (s / Nat.gcd (dcn (Ms k) a2 m s) s)))) σ) → ∀ r i, i + r = s → mv_wf X (mv_wp X (d + 4)) m_Ref_chance Q 53 [.ref 61, .int (nI k), .int a2, .int (nI s), .int (nI m), .int (nI p), .int (nI (dcn (Ms k) a2 m i)), .int (nI i), .retAddr 0, .retAddr 0] [] σ := by
    intro Q hQ r
    induction r with
    | zero =>
      intro i hi
      obtain rfl : i = s := by omega
      refine h_Ref_chance_53 ⟨fun _ => ?_, fun q => absurd (nI_le (Nat.le_refl _) hs) q⟩
      have hle : dcn (Ms k) a2 m i ≤ i := fa_cnt_le _ _
      exact r_common (by omega) (by omega) (by omega) (by omega) hQ _ _ (by omega) (by omega) rfl
    | succ r ih =>
      intro i hi
      refine h_Ref_chance_53 ⟨fun q => absurd q (nI_ge (by omega) hs), fun _ => ⟨rfl, ?_⟩⟩
      refine r_isDrawnTaken (by omega) m1 m3 (by omega) ⟨_, rfl, ?_⟩
      refine r_bit.mpr ⟨_, rfl, ?_⟩
      have := ih (i + 1) (by omega)
      rw [nI_1]
      have e : dcn (Ms k) a2 m (i + 1) = dcn (Ms k) a2 m i + if (Ms k).2.2.1.testBit (dr (Ms k) m (a2 + nI i) (Ms k).2.1) = true then 1 else 0 := rfl
      rw [e] at this
      by_cases eb : (Ms k).2.2.1.testBit (dr (Ms k) m (a2 + nI i) (Ms k).2.1) = true
      · rw [if_pos eb] at this ⊢
        rw [show (1 : Int32) = nI 1 from rfl, nI_add]
        exact this
      · rw [if_neg eb] at this ⊢
        rw [show (0 : Int32) = nI 0 from rfl, nI_add]
        exact this
  have hsum : ∀ r i, i + r = s → mv_wf X (mv_wp X (d + 4)) m_WM_chance (fun r1 σ1 => ∃ v, r1 = some (.int v) ∧ mv_wp X (d + 5) 230 (.ref 61 :: [.int (nI k), .int a2, .int (nI s), .int (nI m), .int (nI p)]) σ1 (fun r2 σ2 => r2 = some (.int v) ∧ σ2 = σ)) 55 [.retAddr 0, .retAddr 0, .int a2, .int (nI s), .int (nI m), .int (nI p), .ref (33 + 4 * k), .int (nI (dcn (Ms k) a2 m i)), .int (nI i), .retAddr 0] [] σ := by
    intro r
    induction r with
    | zero =>
      intro i hi
      obtain rfl : i = s := by omega
      have hle : dcn (Ms k) a2 m i ≤ i := fa_cnt_le _ _
      refine h_WM_chance_55 ⟨fun _ => ?_, fun q => absurd (nI_le (Nat.le_refl _) hs) q⟩
      refine s_common (by omega) (by omega) ⟨_, rfl, ?_⟩
      have hg := gc_ok i (by omega) (dcn (Ms k) a2 m i) (by omega) hle
      have hg0 : 0 < Nat.gcd i (dcn (Ms k) a2 m i) := Nat.gcd_pos_of_pos_left _ (by omega)
      have hg1 : Nat.gcd i (dcn (Ms k) a2 m i) ≤ i := Nat.gcd_le_left _ (by omega)
      rw [hg.1]
      have n0 : ¬ nI (Nat.gcd i (dcn (Ms k) a2 m i)) ≤ 0 := nI_ge (a := 0) hg0 (by omega)
      have n1 : ¬ nI (Nat.gcd i (dcn (Ms k) a2 m i)) = 0 := nI_ne0 hg0 (by omega)
      have fin : ∀ v, v = (if p = 0 then nI (dcn (Ms k) a2 m i / Nat.gcd (dcn (Ms k) a2 m i) i) else nI (i / Nat.gcd (dcn (Ms k) a2 m i) i)) → mv_wp X (d + 5) 230 (.ref 61 :: [.int (nI k), .int a2, .int (nI i), .int (nI m), .int (nI p)]) σ (fun r2 σ2 => r2 = some (.int v) ∧ σ2 = σ) := by
        intro v hv
        refine w_Ref_chance ⟨rfl, ?_⟩
        rw [r_isMachine b3 b1, if_pos c1]
        refine ⟨_, rfl, fun z => absurd z (by decide), fun _ => ?_⟩
        rw [r_inI (A := 1) (C := 20) rfl rfl, if_pos (by rw [nI_toInt hs]; omega)]
        refine ⟨_, rfl, fun z => absurd z (by decide), fun _ => ?_⟩
        rw [r_inI (A := 0) (C := 99) rfl rfl, if_pos (by rw [nI_toInt hm]; omega)]
        refine ⟨_, rfl, fun z => absurd z (by decide), fun _ => ?_⟩
        rw [r_inI (A := 0) (C := 1) rfl rfl, if_pos (by rw [nI_toInt hp]; omega)]
        refine ⟨_, rfl, fun _ => ?_, fun z => absurd z (by decide)⟩
        exact rloop _ ⟨by rw [hv], rfl⟩ i 0 (by omega)
      by_cases ep : p = 0
      · subst ep
        refine ⟨fun q => absurd rfl q, fun _ => ⟨fun q => absurd q n0, fun _ => ⟨n1, _, rfl, fin _ ?_⟩⟩⟩
        rw [if_pos rfl, pk_div (by omega) hg0 (by omega), hg.2]
      · refine ⟨fun _ => ⟨fun q => absurd q n0, fun _ => ⟨n1, _, rfl, fin _ ?_⟩⟩, fun q => absurd q (nI_ne0 (by omega) (by omega))⟩
        rw [if_neg ep, pk_div (by omega) hg0 (by omega), hg.2]
    | succ r ih =>
      intro i hi
      refine h_WM_chance_55 ⟨fun q => absurd q (nI_ge (by omega) hs), fun _ => ?_⟩
      refine s_takesDrawn ht m1 m2 (by omega) ⟨_, rfl, ?_⟩
      have := ih (i + 1) (by omega)
      have e : dcn (Ms k) a2 m (i + 1) = dcn (Ms k) a2 m i + if (Ms k).2.2.1.testBit (dr (Ms k) m (a2 + nI i) (Ms k).2.1) = true then 1 else 0 := rfl
      rw [e] at this
      by_cases eb : (Ms k).2.2.1.testBit (dr (Ms k) m (a2 + nI i) (Ms k).2.1) = true
      · rw [if_pos eb] at this ⊢
        refine ⟨fun z => absurd z (by decide), fun _ => ?_⟩
        rw [nI_1, nI_1]
        exact this
      · rw [if_neg eb] at this ⊢
        refine ⟨fun _ => ?_, fun z => absurd rfl z⟩
        rw [nI_1]
        exact this
  repeat (first
      | (refine And.intro (show mv_sh _ = _ from rfl) ?_)
      | (refine And.intro (show mv_sh _ = _ by assumption) ?_)
      | (refine And.intro (show _ ≤ mv_sh _ from Nat.le_of_ble_eq_true rfl) ?_)
      | (refine And.intro (show _ ≤ mv_sh _ ∧ vp_in _ _ from ⟨Nat.le_of_ble_eq_true rfl, by (first | (simp (disch := omega) only [ln_64, ln_62, not_true_eq_false, not_false_eq_true, Classical.not_not, ofn, b_z, b_nz, b_z', b_nz', mv_rd, mv_rn, mv_ld, mv_ln_, lit, nI_add, pk_mul, nI_clamp]; exact vp_in_nI (by omega) (by omega)) | (exact vp_in_nI (by omega) (by omega)))⟩) ?_)
      | (refine And.intro (show (_ : Int32) = 0 ∨ (_ : Int32) = 1 from by first | exact Or.inl rfl | exact Or.inr rfl | exact bI_01 _) ?_)
      | (refine And.intro (show mv_sh _ = _ ∧ vp_in _ _ from ⟨rfl, by (first | (simp (disch := omega) only [ln_64, ln_62, not_true_eq_false, not_false_eq_true, Classical.not_not, ofn, b_z, b_nz, b_z', b_nz', mv_rd, mv_rn, mv_ld, mv_ln_, lit, nI_add, pk_mul, nI_clamp]; exact vp_in_nI (by omega) (by omega)) | (exact vp_in_nI (by omega) (by omega)))⟩) ?_)
      | (refine And.intro (show mv_sh _ = _ ∧ vp_in _ _ from ⟨by assumption, by (first | (simp (disch := omega) only [ln_64, ln_62, not_true_eq_false, not_false_eq_true, Classical.not_not, ofn, b_z, b_nz, b_z', b_nz', mv_rd, mv_rn, mv_ld, mv_ln_, lit, nI_add, pk_mul, nI_clamp]; exact vp_in_nI (by omega) (by omega)) | (exact vp_in_nI (by omega) (by omega)))⟩) ?_)
      | (refine And.intro (show ¬ (_ : Int32) = 0 by decide) ?_)
      | (refine ⟨_, rfl, ?_⟩)
      | (refine And.intro (show (none : Option Value) = none from rfl) ?_)
      | (refine Or.inl ⟨rfl, ?_⟩)
      | (refine Or.inr ⟨_, rfl, ?_⟩)
      | (refine dt (by (first | assumption | omega | ((try simp (disch := omega) only [not_true_eq_false, not_false_eq_true, Classical.not_not, ofn, b_z, b_nz, b_z', b_nz', mv_rd, mv_rn, mv_ld, mv_ln_, lit, nI_add, pk_mul, nI_clamp]); (try simp (disch := omega) only [fa_lt, fa_le, fa_eq, nI_toInt, pk_sub_toInt, nI_m1, nI_m1', not_false_eq_true, true_and, and_true]); first | done | omega))) ?_)
      | (refine df (by (first | assumption | omega | ((try simp (disch := omega) only [not_true_eq_false, not_false_eq_true, Classical.not_not, ofn, b_z, b_nz, b_z', b_nz', mv_rd, mv_rn, mv_ld, mv_ln_, lit, nI_add, pk_mul, nI_clamp]); (try simp (disch := omega) only [fa_lt, fa_le, fa_eq, nI_toInt, pk_sub_toInt, nI_m1, nI_m1', not_false_eq_true, true_and, and_true]); first | done | omega))) ?_)
      | (refine dt' (by (first | assumption | omega | ((try simp (disch := omega) only [not_true_eq_false, not_false_eq_true, Classical.not_not, ofn, b_z, b_nz, b_z', b_nz', mv_rd, mv_rn, mv_ld, mv_ln_, lit, nI_add, pk_mul, nI_clamp]); (try simp (disch := omega) only [fa_lt, fa_le, fa_eq, nI_toInt, pk_sub_toInt, nI_m1, nI_m1', not_false_eq_true, true_and, and_true]); first | done | omega))) ?_)
      | (refine df' (by (first | assumption | omega | ((try simp (disch := omega) only [not_true_eq_false, not_false_eq_true, Classical.not_not, ofn, b_z, b_nz, b_z', b_nz', mv_rd, mv_rn, mv_ld, mv_ln_, lit, nI_add, pk_mul, nI_clamp]); (try simp (disch := omega) only [fa_lt, fa_le, fa_eq, nI_toInt, pk_sub_toInt, nI_m1, nI_m1', not_false_eq_true, true_and, and_true]); first | done | omega))) ?_)
      )
  exact hsum s 0 (by omega)
end TAKES
