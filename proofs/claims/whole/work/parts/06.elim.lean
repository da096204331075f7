/-! ===== the small machine's steps are the machine's ===== -/
theorem mv_i1_e {st : List Value} {k : Int32 → List Value → Prop} (h : mv_i1 st k) : ∃ a r, st = .int a :: r ∧ k a r := by
  unfold mv_i1 at h; split at h
  · exact ⟨_, _, rfl, h⟩
  · exact h.elim
theorem mv_i2_e {st : List Value} {k : Int32 → Int32 → List Value → Prop} (h : mv_i2 st k) : ∃ a b r, st = .int b :: .int a :: r ∧ k a b r := by
  unfold mv_i2 at h; split at h
  · exact ⟨_, _, _, rfl, h⟩
  · exact h.elim
theorem mv_l1_e {st : List Value} {k : Int64 → List Value → Prop} (h : mv_l1 st k) : ∃ a r, st = .long a :: r ∧ k a r := by
  unfold mv_l1 at h; split at h
  · exact ⟨_, _, rfl, h⟩
  · exact h.elim
theorem mv_l2_e {st : List Value} {k : Int64 → Int64 → List Value → Prop} (h : mv_l2 st k) : ∃ a b r, st = .long b :: .long a :: r ∧ k a b r := by
  unfold mv_l2 at h; split at h
  · exact ⟨_, _, _, rfl, h⟩
  · exact h.elim
theorem mv_r1_e {st : List Value} {k : Nat → List Value → Prop} (h : mv_r1 st k) : ∃ a r, st = .ref a :: r ∧ k a r := by
  unfold mv_r1 at h; split at h
  · exact ⟨_, _, rfl, h⟩
  · exact h.elim
theorem mv_ir_e {st : List Value} {k : Int32 → Nat → List Value → Prop} (h : mv_ir st k) : ∃ i c r, st = .int i :: .ref c :: r ∧ k i c r := by
  unfold mv_ir at h; split at h
  · exact ⟨_, _, _, rfl, h⟩
  · exact h.elim
theorem mv_iir_e {st : List Value} {k : Int32 → Int32 → Nat → List Value → Prop} (h : mv_iir st k) : ∃ x i c r, st = .int x :: .int i :: .ref c :: r ∧ k x i c r := by
  unfold mv_iir at h; split at h
  · exact ⟨_, _, _, _, rfl, h⟩
  · exact h.elim
theorem mv_lir_e {st : List Value} {k : Int64 → Int32 → Nat → List Value → Prop} (h : mv_lir st k) : ∃ x i c r, st = .long x :: .int i :: .ref c :: r ∧ k x i c r := by
  unfold mv_lir at h; split at h
  · exact ⟨_, _, _, _, rfl, h⟩
  · exact h.elim
theorem mv_il_e {st : List Value} {k : Int64 → Int32 → List Value → Prop} (h : mv_il st k) : ∃ x y r, st = .int y :: .long x :: r ∧ k x y r := by
  unfold mv_il at h; split at h
  · exact ⟨_, _, _, rfl, h⟩
  · exact h.elim
theorem mv_isI_e {v : Value} {k : Int32 → Prop} (h : mv_isI v k) : ∃ x, v = .int x ∧ k x := by
  cases v <;> first | exact ⟨_, rfl, h⟩ | exact h.elim
theorem mv_isL_e {v : Value} {k : Int64 → Prop} (h : mv_isL v k) : ∃ x, v = .long x ∧ k x := by
  cases v <;> first | exact ⟨_, rfl, h⟩ | exact h.elim
theorem mv_isA_e {v : Value} {k : Prop} (h : mv_isA v k) : (v = .null ∨ (∃ c, v = .ref c) ∨ ∃ n, v = .retAddr (n + 1)) ∧ k := by
  cases v with
  | null => exact ⟨Or.inl rfl, h⟩
  | ref c => exact ⟨Or.inr (Or.inl ⟨c, rfl⟩), h⟩
  | retAddr n =>
    cases n with
    | zero => exact h.elim
    | succ n => exact ⟨Or.inr (Or.inr ⟨n, rfl⟩), h⟩
  | _ => exact h.elim
theorem mv_st1_e {ls : List Value} {i : Nat} {v : Value} {k : List Value → Prop} (h : mv_st1 ls i v k) : mv_free ls i = true ∧ i < ls.length ∧ k (mv_set ls i v) := by
  unfold mv_st1 at h; split at h
  · rename_i e
    rw [Bool.and_eq_true] at e
    exact ⟨e.1, Nat.le_of_ble_eq_true e.2, h⟩
  · exact h.elim
theorem mv_st2_e {ls : List Value} {i : Nat} {v : Value} {k : List Value → Prop} (h : mv_st2 ls i v k) : mv_free ls i = true ∧ i + 1 < ls.length ∧ k (mv_set (mv_set ls i v) (i + 1) (.retAddr 0)) := by
  unfold mv_st2 at h; split at h
  · rename_i e
    rw [Bool.and_eq_true] at e
    exact ⟨e.1, Nat.le_of_ble_eq_true e.2, h⟩
  · exact h.elim
theorem mv_a1_e {st : List Value} {k : Value → List Value → Prop} (h : mv_a1 st k) : (∃ r, st = .null :: r ∧ k .null r) ∨ ∃ c r, st = .ref c :: r ∧ k (.ref c) r := by
  unfold mv_a1 at h; split at h
  · exact Or.inl ⟨_, rfl, h⟩
  · exact Or.inr ⟨_, _, rfl, h⟩
  · exact h.elim
theorem mv_c1_e {st : List Value} {k : Value → List Value → Prop} (h : mv_c1 st k) : ∃ v r, st = v :: r ∧ v.category = 1 ∧ k v r := by
  unfold mv_c1 at h; split at h
  · exact ⟨_, _, rfl, rfl, h⟩
  · exact ⟨_, _, rfl, rfl, h⟩
  · exact h.elim
theorem mv_c2_e {st : List Value} {k : Value → Value → List Value → Prop} (h : mv_c2 st k) : ∃ v w r, st = v :: w :: r ∧ v.category = 1 ∧ w.category = 1 ∧ k v w r := by
  unfold mv_c2 at h; split at h
  · exact ⟨_, _, _, rfl, rfl, rfl, h⟩
  · exact ⟨_, _, _, rfl, rfl, rfl, h⟩
  · exact h.elim
theorem mv_nul_e {st : List Value} {k j : List Value → Prop} (h : mv_nul st k j) : (∃ r, st = .null :: r ∧ k r) ∨ ∃ c r, st = .ref c :: r ∧ j r := by
  unfold mv_nul at h; split at h
  · exact Or.inl ⟨_, rfl, h⟩
  · exact Or.inr ⟨_, _, rfl, h⟩
  · exact h.elim
theorem mv_alen_e {X : mv_X} {st : List Value} {k : Int32 → List Value → Prop} (h : mv_alen X st k) : (∃ c r, st = .ref c :: r ∧ 20 ≤ mv_sh c ∧ k (Int32.ofNat (mv_ln c)) r) ∨ ∃ r, st = .retAddr 1 :: r ∧ k (Int32.ofNat X.1) r := by
  unfold mv_alen at h; split at h
  · exact Or.inl ⟨_, _, rfl, h⟩
  · exact Or.inr ⟨_, rfl, h⟩
  · exact h.elim
theorem mv_iald_e {X : mv_X} {σ : mv_S} {st : List Value} {k : Int32 → List Value → Prop} (h : mv_iald X σ st k) : (∃ i c r, st = .int i :: .ref c :: r ∧ (mv_sh c = 20 ∧ vp_in i (mv_ln c)) ∧ k (σ.1 c i.toNatClampNeg) r) ∨ ∃ i r, st = .int i :: .retAddr 1 :: r ∧ vp_in i X.1 ∧ k (X.2 i.toNatClampNeg) r := by
  unfold mv_iald at h; split at h
  · exact Or.inl ⟨_, _, _, rfl, h⟩
  · exact Or.inr ⟨_, _, rfl, h⟩
  · exact h.elim
theorem mv_vret_e {rk : Nat} {st : List Value} {k : Prop} (h : mv_vret rk st k) : rk = 0 ∧ st = [] ∧ k := by
  unfold mv_vret at h; split at h
  · exact ⟨rfl, rfl, h⟩
  · exact h.elim
theorem mv_iret_e {rk : Nat} {st : List Value} {k : Int32 → Prop} (h : mv_iret rk st k) : ∃ v, st = [.int v] ∧ k v ∧ (rk = 1 ∨ (rk = 2 ∧ (v = 0 ∨ v = 1))) := by
  unfold mv_iret at h; split at h
  · exact ⟨_, rfl, h, Or.inl rfl⟩
  · exact ⟨_, rfl, h.2, Or.inr ⟨rfl, h.1⟩⟩
  · exact h.elim
theorem mv_lret_e {rk : Nat} {st : List Value} {k : Int64 → Prop} (h : mv_lret rk st k) : ∃ v, st = [.long v] ∧ k v ∧ rk = 3 := by
  unfold mv_lret at h; split at h
  · exact ⟨_, rfl, h, rfl⟩
  · exact h.elim
theorem mv_aret_e {rk : Nat} {st : List Value} {k : Value → Prop} (h : mv_aret rk st k) : ∃ v, st = [v] ∧ k v ∧ rk = 4 ∧ (v = .null ∨ ∃ c, v = .ref c) := by
  unfold mv_aret at h; split at h
  · exact ⟨_, rfl, h, rfl, Or.inl rfl⟩
  · exact ⟨_, rfl, h, rfl, Or.inr ⟨_, rfl⟩⟩
  · exact h.elim
theorem mv_pop_e {k : List Value → List Value → Prop} : ∀ (n : Nat) (acc st : List Value), mv_pop n acc st k → ∃ as r, st = as ++ r ∧ as.length = n ∧ k (as.reverse ++ acc) r
  | 0, acc, st, h => ⟨[], st, rfl, rfl, h⟩
  | _ + 1, _, [], h => h.elim
  | n + 1, acc, v :: st, h => by
    obtain ⟨as, r, h1, h2, h3⟩ := mv_pop_e n (v :: acc) st h
    refine ⟨v :: as, r, by rw [h1]; rfl, by rw [List.length_cons, h2], ?_⟩
    rw [List.reverse_cons, List.append_assoc]
    exact h3
theorem mv_getf_e {inf : List Nat} {st : List Value} {σ : mv_S} {k : Value → List Value → Prop} (h : mv_getf inf st σ k) : ∃ ci j kd c r, inf = [ci, j, kd] ∧ st = .ref c :: r ∧ mv_sh c = ci ∧ ((kd = 0 ∧ k (.int (σ.1 c j)) r) ∨ (kd = 1 ∧ k (.long (σ.2 c j)) r) ∨ (kd = 2 ∧ k (.ref (mv_rf c j)) r) ∨ (kd = 3 ∧ k (.int (σ.1 c j)) r)) := by
  unfold mv_getf at h
  split at h
  · obtain ⟨c, r, h1, h2, h3⟩ := mv_r1_e h
    exact ⟨_, _, _, c, r, rfl, h1, h2, Or.inl ⟨rfl, h3⟩⟩
  · obtain ⟨c, r, h1, h2, h3⟩ := mv_r1_e h
    exact ⟨_, _, _, c, r, rfl, h1, h2, Or.inr (Or.inl ⟨rfl, h3⟩)⟩
  · obtain ⟨c, r, h1, h2, h3⟩ := mv_r1_e h
    exact ⟨_, _, _, c, r, rfl, h1, h2, Or.inr (Or.inr (Or.inl ⟨rfl, h3⟩))⟩
  · obtain ⟨c, r, h1, h2, h3⟩ := mv_r1_e h
    exact ⟨_, _, _, c, r, rfl, h1, h2, Or.inr (Or.inr (Or.inr ⟨rfl, h3⟩))⟩
  · exact h.elim
theorem mv_putf_e {inf : List Nat} {st : List Value} {σ : mv_S} {k : List Value → mv_S → Prop} (h : mv_putf inf st σ k) : ∃ ci j kd c r, inf = [ci, j, kd] ∧ mv_sh c = ci ∧ ((∃ v, (kd = 0 ∨ (kd = 3 ∧ (v = 0 ∨ v = 1))) ∧ st = .int v :: .ref c :: r ∧ k r (mv_pi σ c j v)) ∨ (∃ v, kd = 1 ∧ st = .long v :: .ref c :: r ∧ k r (mv_pl σ c j v))) := by
  unfold mv_putf at h
  split at h
  · split at h
    · exact ⟨_, _, _, _, _, rfl, h.1, Or.inl ⟨_, Or.inl rfl, rfl, h.2⟩⟩
    · exact h.elim
  · split at h
    · exact ⟨_, _, _, _, _, rfl, h.1, Or.inr ⟨_, rfl, rfl, h.2⟩⟩
    · exact h.elim
  · split at h
    · exact ⟨_, _, _, _, _, rfl, h.1.1, Or.inl ⟨_, Or.inr ⟨rfl, h.1.2⟩, rfl, h.2⟩⟩
    · exact h.elim
  · exact h.elim
theorem mv_cat_eq : ∀ r : List Value, mv_cat r = (r.map fun v => v.category).sum
  | [] => rfl
  | v :: t => by
    show mv_catv v + mv_cat t = _
    rw [mv_catv_eq, mv_cat_eq t, List.map_cons, List.sum_cons]
theorem mv_cat_tr (ad : Nat → Nat) (b : Nat) (r : List Value) : ((r.map (mv_tr ad b)).map fun v => v.category).sum = mv_cat r := by
  rw [mv_cat_eq, List.map_map]
  congr 1
  apply List.map_congr_left
  intro v _
  exact mv_tr_cat ad b v
