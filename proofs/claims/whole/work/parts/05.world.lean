/-! ===== the world: the cells as the small machine's store has them ===== -/
def mv_tr (ad : Nat → Nat) (b : Nat) : Value → Value
  | .ref c => .ref (ad c)
  | .retAddr (_ + 1) => .ref b
  | v => v
def mv_fv (ad : Nat → Nat) (σ : mv_S) (c k : Nat) : Value := match mv_fk (mv_sh c) k with
  | 2 => .ref (ad (mv_rf c k))
  | 1 => .long (σ.2 c k)
  | _ => .int (σ.1 c k)
def mv_cell (ad : Nat → Nat) (aC : Nat → ClassId) (σ : mv_S) (c : Nat) : va_E :=
  if mv_sh c < 20 then .inr (mv_sh c, (List.range (mv_clN (mv_sh c))).map (mv_fv ad σ c))
  else if mv_sh c < 23 then .inl (aC (mv_sh c), mv_ln c, .inl (σ.1 c))
  else if mv_sh c = 23 then .inl (aC (mv_sh c), mv_ln c, .inr (.inl (σ.2 c)))
  else .inl (aC (mv_sh c), mv_ln c, .inr (.inr (.inr (.inr (fun j => some (ad (mv_rf c j)))))))
def mv_w (ad : Nat → Nat) (aC : Nat → ClassId) (σ : mv_S) : va_W := (List.range 96).map (fun c => (ad c, mv_cell ad aC σ c))
def mv_tys (aC : Nat → ClassId) : List (ClassId × FieldType) := [(aC 20, .int), (aC 21, .byte), (aC 22, .boolean), (aC 23, .long), (aC 24, .object "WordMonoids$Machine"), (aC 25, .object "WordMonoids$Formula"), (aC 26, .object "WordMonoids$Sheet")]
def mv_A (ad : Nat → Nat) : Nat → Prop := fun q => ∃ c, c < 96 ∧ ad c = q
def mv_inj (ad : Nat → Nat) : Prop := ∀ i j, i < 96 → j < 96 → ad i = ad j → i = j
theorem mv_sh_out {c : Nat} (h : ¬ c < 96) : mv_sh c = 19 := by
  unfold mv_sh
  rw [List.getD_eq_getElem?_getD, List.getElem?_eq_none (by show 96 ≤ c; omega)]
  rfl
theorem mv_sh_in {c k : Nat} (h : mv_sh c = k) (hk : ¬ k = 19) : c < 96 := Decidable.byContradiction fun q => hk (h.symm.trans (mv_sh_out q))
theorem mv_ln_out {c : Nat} (h : ¬ c < 96) : mv_ln c = 0 := by
  unfold mv_ln
  rw [List.getD_eq_getElem?_getD, List.getElem?_eq_none (by show 96 ≤ c; omega)]
  rfl
section MW
variable {ad : Nat → Nat} {aC : Nat → ClassId} {σ : mv_S}
theorem mv_w_at {c : Nat} (h : c < 96) : (mv_w ad aC σ)[c]? = some (ad c, mv_cell ad aC σ c) := by
  unfold mv_w
  rw [List.getElem?_map, List.getElem?_range h]
  rfl
theorem mv_w_some {k : Nat} {q : Nat × va_E} (h : (mv_w ad aC σ)[k]? = some q) : k < 96 ∧ q = (ad k, mv_cell ad aC σ k) := by
  have hk : k < 96 := by
    have h1 := (List.getElem?_eq_some_iff.mp h).1
    unfold mv_w at h1
    rw [List.length_map, List.length_range] at h1
    exact h1
  rw [mv_w_at hk] at h
  exact ⟨hk, (Option.some.inj h).symm⟩
theorem mv_w_D (hi : mv_inj ad) : va_D (mv_A ad) (mv_w ad aC σ) := by
  refine ⟨fun i j p q hp hq h => ?_, fun k q hk => ?_⟩
  · obtain ⟨h1, rfl⟩ := mv_w_some hp
    obtain ⟨h2, rfl⟩ := mv_w_some hq
    exact hi i j h1 h2 h
  · obtain ⟨h1, rfl⟩ := mv_w_some hk
    exact ⟨k, h1, rfl⟩
theorem mv_cell_o {c ci : Nat} (h : mv_sh c = ci) (hc : ci < 20) : mv_cell ad aC σ c = .inr (ci, (List.range (mv_clN ci)).map (mv_fv ad σ c)) := by
  unfold mv_cell
  rw [h, if_pos hc]
theorem mv_cell_i {c k : Nat} (h : mv_sh c = k) (h1 : ¬ k < 20) (h2 : k < 23) : mv_cell ad aC σ c = .inl (aC k, mv_ln c, .inl (σ.1 c)) := by
  unfold mv_cell
  rw [h, if_neg h1, if_pos h2]
theorem mv_cell_l {c : Nat} (h : mv_sh c = 23) : mv_cell ad aC σ c = .inl (aC 23, mv_ln c, .inr (.inl (σ.2 c))) := by
  unfold mv_cell
  rw [h, if_neg (by omega), if_neg (by omega), if_pos rfl]
theorem mv_cell_r {c : Nat} (h : 24 ≤ mv_sh c) : mv_cell ad aC σ c = .inl (aC (mv_sh c), mv_ln c, .inr (.inr (.inr (.inr (fun j => some (ad (mv_rf c j))))))) := by
  unfold mv_cell
  rw [if_neg (by omega), if_neg (by omega), if_neg (by omega)]
theorem mv_cell_a {c : Nat} (h : 20 ≤ mv_sh c) : ∃ y, mv_cell ad aC σ c = .inl (aC (mv_sh c), mv_ln c, y) := by
  unfold mv_cell
  rw [if_neg (by omega)]
  split
  · exact ⟨_, rfl⟩
  · split
    · exact ⟨_, rfl⟩
    · exact ⟨_, rfl⟩
theorem mv_cell_congr {σ' : mv_S} {c : Nat} (h1 : σ'.1 c = σ.1 c) (h2 : σ'.2 c = σ.2 c) : mv_cell ad aC σ' c = mv_cell ad aC σ c := by
  have e : mv_fv ad σ' c = mv_fv ad σ c := by
    funext k
    unfold mv_fv
    rw [h1, h2]
  unfold mv_cell
  rw [e, h1, h2]
theorem mv_w_set {σ' : mv_S} {c : Nat} {y : va_E} (hc : c < 96) (h : mv_cell ad aC σ' c = y) (ho : ∀ j, ¬ j = c → σ'.1 j = σ.1 j ∧ σ'.2 j = σ.2 j) : (mv_w ad aC σ).set c (ad c, y) = mv_w ad aC σ' := by
  apply List.ext_getElem?
  intro k
  by_cases hk : k < 96
  · rw [mv_w_at hk]
    by_cases e : k = c
    · subst e
      rw [List.getElem?_set_self (by unfold mv_w; rw [List.length_map, List.length_range]; exact hk), h]
    · rw [List.getElem?_set_ne (fun q => e q.symm), mv_w_at hk, mv_cell_congr (ho k e).1 (ho k e).2]
  · rw [List.getElem?_eq_none (by rw [List.length_set]; unfold mv_w; rw [List.length_map, List.length_range]; omega), List.getElem?_eq_none (by unfold mv_w; rw [List.length_map, List.length_range]; omega)]
theorem mv_pi_1 {c k : Nat} {v : Int32} : (mv_pi σ c k v).1 c = upd (σ.1 c) k v := by
  funext j
  unfold mv_pi upd
  by_cases h : j = k
  · simp [h]
  · simp [h]
theorem mv_pi_o {c k : Nat} {v : Int32} (j : Nat) (h : ¬ j = c) : (mv_pi σ c k v).1 j = σ.1 j ∧ (mv_pi σ c k v).2 j = σ.2 j := by
  refine ⟨?_, rfl⟩
  funext i
  unfold mv_pi
  simp [h]
theorem mv_pl_2 {c k : Nat} {v : Int64} (j : Nat) : (mv_pl σ c k v).2 c j = if j = k then v else σ.2 c j := by
  unfold mv_pl
  simp
theorem mv_pl_o {c k : Nat} {v : Int64} (j : Nat) (h : ¬ j = c) : (mv_pl σ c k v).1 j = σ.1 j ∧ (mv_pl σ c k v).2 j = σ.2 j := by
  refine ⟨rfl, ?_⟩
  funext i
  unfold mv_pl
  simp [h]
/-- a field's write, in the list of the object's values -/
theorem mv_fset {σ' : mv_S} {c ci k : Nat} {v : Value} (hs : mv_sh c = ci) (hc : ci < 20) (hk : k < mv_clN ci) (hv : mv_fv ad σ' c k = v) (ho : ∀ j, ¬ j = k → mv_fv ad σ' c j = mv_fv ad σ c j) : mv_cell ad aC σ' c = .inr (ci, ((List.range (mv_clN ci)).map (mv_fv ad σ c)).set k v) := by
  rw [mv_cell_o hs hc]
  congr 2
  apply List.ext_getElem?
  intro j
  by_cases hj : j < mv_clN ci
  · rw [List.getElem?_map, List.getElem?_range hj]
    by_cases e : j = k
    · subst e
      rw [List.getElem?_set_self (by rw [List.length_map, List.length_range]; exact hj)]
      show some _ = _
      rw [hv]
    · rw [List.getElem?_set_ne (fun q => e q.symm), List.getElem?_map, List.getElem?_range hj]
      show some _ = some _
      rw [ho j e]
  · rw [List.getElem?_eq_none (by rw [List.length_map, List.length_range]; omega), List.getElem?_eq_none (by rw [List.length_set, List.length_map, List.length_range]; omega)]
theorem mv_fv_pi {c ci k : Nat} {v : Int32} (hs : mv_sh c = ci) (h1 : ¬ mv_fk ci k = 2) (h2 : ¬ mv_fk ci k = 1) : mv_fv ad (mv_pi σ c k v) c k = .int v := by
  unfold mv_fv
  rw [hs]
  split
  · exact absurd (by assumption) h1
  · exact absurd (by assumption) h2
  · unfold mv_pi
    simp
theorem mv_fv_pi_o {c k : Nat} {v : Int32} (j : Nat) (h : ¬ j = k) : mv_fv ad (mv_pi σ c k v) c j = mv_fv ad σ c j := by
  unfold mv_fv mv_pi
  simp [h]
theorem mv_fv_pl {c ci k : Nat} {v : Int64} (hs : mv_sh c = ci) (h1 : mv_fk ci k = 1) : mv_fv ad (mv_pl σ c k v) c k = .long v := by
  unfold mv_fv
  rw [hs, h1]
  unfold mv_pl
  simp
theorem mv_fv_pl_o {c k : Nat} {v : Int64} (j : Nat) (h : ¬ j = k) : mv_fv ad (mv_pl σ c k v) c j = mv_fv ad σ c j := by
  unfold mv_fv mv_pl
  simp [h]
end MW
/-! the locals -/
def mv_al (ad : Nat → Nat) (b : Nat) (ls : List Value) : List (Nat × Value) := (List.range ls.length).filterMap (fun i => match mv_get ls i with
  | .retAddr 0 => none
  | v => some (i, mv_tr ad b v))
def mv_lr (ad : Nat → Nat) (b nL : Nat) (lsr : Array Slot) (ls : List Value) : Prop := ls.length = nL ∧ lv_has lsr nL (mv_al ad b ls)
theorem mv_get_out : ∀ (ls : List Value) (i : Nat), ls.length ≤ i → mv_get ls i = .retAddr 0
  | [], _, _ => rfl
  | _ :: _, 0, h => absurd h (by simp)
  | _ :: t, i + 1, h => mv_get_out t i (by simpa using h)
theorem mv_set_len : ∀ (ls : List Value) (i : Nat) (v : Value), (mv_set ls i v).length = ls.length
  | [], _, _ => rfl
  | _ :: _, 0, _ => rfl
  | _ :: t, i + 1, v => congrArg (· + 1) (mv_set_len t i v)
theorem mv_get_set : ∀ (ls : List Value) (i : Nat) (v : Value), i < ls.length → mv_get (mv_set ls i v) i = v
  | [], _, _, h => absurd h (by simp)
  | _ :: _, 0, _, _ => rfl
  | _ :: t, i + 1, v, h => mv_get_set t i v (by simpa using h)
theorem mv_get_set_ne : ∀ (ls : List Value) (i : Nat) (v : Value) (j : Nat), ¬ j = i → mv_get (mv_set ls i v) j = mv_get ls j
  | [], _, _, _, _ => rfl
  | _ :: _, 0, _, 0, h => absurd rfl h
  | _ :: _, 0, _, _ + 1, _ => rfl
  | _ :: _, _ + 1, _, 0, _ => rfl
  | _ :: t, i + 1, v, j + 1, h => mv_get_set_ne t i v j (by omega)
theorem mv_al_mem {ad : Nat → Nat} {b : Nat} {ls : List Value} {q : Nat × Value} : q ∈ mv_al ad b ls ↔ q.1 < ls.length ∧ ¬ mv_get ls q.1 = .retAddr 0 ∧ q.2 = mv_tr ad b (mv_get ls q.1) := by
  unfold mv_al
  rw [List.mem_filterMap]
  constructor
  · rintro ⟨i, hi, h⟩
    rw [List.mem_range] at hi
    split at h
    · cases h
    · rename_i hne
      cases h
      exact ⟨hi, hne, rfl⟩
  · rintro ⟨h1, h2, h3⟩
    refine ⟨q.1, List.mem_range.mpr h1, ?_⟩
    split
    · exact absurd (by assumption) h2
    · rw [← h3]
theorem mv_lr_at {ad : Nat → Nat} {b nL : Nat} {lsr : Array Slot} {ls : List Value} (h : mv_lr ad b nL lsr ls) {i : Nat} {v : Value} (hg : mv_get ls i = v) (hv : ¬ v = .retAddr 0) : lsr[i]? = some (.val (mv_tr ad b v)) := by
  subst hg
  refine h.2.2.2 (i, _) (mv_al_mem.mpr ⟨?_, hv, rfl⟩)
  exact Decidable.byContradiction fun q => hv (mv_get_out ls i (by omega))
theorem mv_lr_k {ad : Nat → Nat} {b nL : Nat} {lsr : Array Slot} {ls : List Value} {i : Nat} {v : Value} (hg : mv_get ls i = v) (hv : ¬ v = .retAddr 0) : ∃ k : Nat, (mv_al ad b ls)[k]? = some (i, mv_tr ad b v) := by
  subst hg
  refine List.getElem?_of_mem (mv_al_mem.mpr ⟨?_, hv, rfl⟩)
  exact Decidable.byContradiction fun q => hv (mv_get_out ls i (by omega))
theorem mv_tr_cat (ad : Nat → Nat) (b : Nat) (v : Value) : (mv_tr ad b v).category = v.category := by
  cases v with
  | retAddr n => cases n <;> rfl
  | _ => rfl
theorem mv_catv_eq (v : Value) : mv_catv v = v.category := by cases v <;> rfl
theorem mv_free_cat {ls : List Value} {i : Nat} (h : mv_free ls i = true) (j : Nat) (hj : j + 1 = i) : ¬ (mv_get ls j).category = 2 := by
  subst hj
  have h2 : (match mv_get ls j with | .long _ => false | .double _ => false | _ => true) = true := h
  cases hg : mv_get ls j <;> rw [hg] at h2 <;> first | (exact absurd (show false = true from h2) (by decide)) | (intro q; cases q)
theorem mv_lr_st1 {ad : Nat → Nat} {b nL : Nat} {lsr : Array Slot} {ls : List Value} (h0 : ls.length = nL) {i : Nat} {v : Value} (hf : mv_free ls i = true) (hi : i < ls.length)
    (h : lv_has lsr nL ((i, mv_tr ad b v) :: (mv_al ad b ls).filter (fun q => !(q.1 == i) && !(q.1 + 1 == i && q.2.category == 2)))) : mv_lr ad b nL lsr (mv_set ls i v) := by
  refine ⟨by rw [mv_set_len]; exact h0, h.1, h.2.1, fun q hq => ?_⟩
  obtain ⟨h1, h2, h3⟩ := mv_al_mem.mp hq
  rw [mv_set_len] at h1
  by_cases e : q.1 = i
  · rw [e, mv_get_set ls i v hi] at h3
    have := h.2.2 (i, mv_tr ad b v) List.mem_cons_self
    rw [e, h3]
    exact this
  · rw [mv_get_set_ne ls i v q.1 e] at h2 h3
    refine h.2.2 q (List.mem_cons_of_mem _ (List.mem_filter.mpr ⟨mv_al_mem.mpr ⟨h1, h2, h3⟩, ?_⟩))
    simp only [Bool.and_eq_true, Bool.not_eq_true', beq_eq_false_iff_ne, ne_eq, Bool.and_eq_false_iff]
    refine ⟨e, ?_⟩
    by_cases e2 : q.1 + 1 = i
    · right
      rw [h3, mv_tr_cat]
      exact mv_free_cat hf q.1 e2
    · left
      exact e2
theorem mv_lr_st2 {ad : Nat → Nat} {b nL : Nat} {lsr : Array Slot} {ls : List Value} (h0 : ls.length = nL) {i : Nat} {v : Value} (hf : mv_free ls i = true) (hi : i + 1 < ls.length)
    (h : lv_has lsr nL ((i, mv_tr ad b v) :: (mv_al ad b ls).filter (fun q => !(q.1 == i) && (!(q.1 == i + 1) && !(q.1 + 1 == i && q.2.category == 2))))) : mv_lr ad b nL lsr (mv_set (mv_set ls i v) (i + 1) (.retAddr 0)) := by
  refine ⟨by rw [mv_set_len, mv_set_len]; exact h0, h.1, h.2.1, fun q hq => ?_⟩
  obtain ⟨h1, h2, h3⟩ := mv_al_mem.mp hq
  rw [mv_set_len, mv_set_len] at h1
  by_cases e1 : q.1 = i + 1
  · rw [e1, mv_get_set _ (i + 1) _ (by rw [mv_set_len]; exact hi)] at h2
    exact absurd rfl h2
  · rw [mv_get_set_ne _ (i + 1) _ q.1 e1] at h2 h3
    by_cases e : q.1 = i
    · rw [e, mv_get_set ls i v (by omega)] at h3
      have := h.2.2 (i, mv_tr ad b v) List.mem_cons_self
      rw [e, h3]
      exact this
    · rw [mv_get_set_ne ls i v q.1 e] at h2 h3
      refine h.2.2 q (List.mem_cons_of_mem _ (List.mem_filter.mpr ⟨mv_al_mem.mpr ⟨h1, h2, h3⟩, ?_⟩))
      simp only [Bool.and_eq_true, Bool.not_eq_true', beq_eq_false_iff_ne, ne_eq, Bool.and_eq_false_iff]
      refine ⟨e, e1, ?_⟩
      by_cases e2 : q.1 + 1 = i
      · right
        rw [h3, mv_tr_cat]
        exact mv_free_cat hf q.1 e2
      · left
        exact e2
