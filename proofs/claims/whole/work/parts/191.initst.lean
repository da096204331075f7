/-! cells only come -/
def mn_up (W W' : List mn_C) : Prop := W.length ≤ W'.length ∧ mn_slots W ≤ mn_slots W'
theorem mn_up_rf (W : List mn_C) : mn_up W W := ⟨Nat.le_refl _, Nat.le_refl _⟩
theorem mn_up_tr {a b c : List mn_C} (h : mn_up a b) (g : mn_up b c) : mn_up a c := ⟨Nat.le_trans h.1 g.1, Nat.le_trans h.2 g.2⟩
theorem mn_slots_app (W : List mn_C) (x : mn_C) : mn_slots (W ++ [x]) = mn_slots W + (if x.1 < 20 then mv_clN x.1 else x.2.2.1) := by
  unfold mn_slots
  rw [List.map_append, List.sum_append]
  simp
theorem mn_up_app (W : List mn_C) (x : mn_C) : mn_up W (W ++ [x]) := ⟨by simp, by rw [mn_slots_app]; omega⟩
theorem mn_slots_set {W : List mn_C} {c : Nat} {q x : mn_C} (h : W[c]? = some q) (h1 : x.1 = q.1) (h2 : x.2.2.1 = q.2.2.1) : mn_slots (W.set c x) = mn_slots W := by
  unfold mn_slots
  congr 1
  apply List.ext_getElem?
  intro i
  rw [List.getElem?_map, List.getElem?_map, List.getElem?_set]
  by_cases e : c = i
  · subst e
    rw [if_pos rfl, h]
    have hl := (List.getElem?_eq_some_iff.mp h).1
    rw [if_pos hl]
    simp [h1, h2]
  · rw [if_neg e]
theorem mn_up_set {W : List mn_C} {c : Nat} {q x : mn_C} (h : W[c]? = some q) (h1 : x.1 = q.1) (h2 : x.2.2.1 = q.2.2.1) : mn_up W (W.set c x) := ⟨by simp, by rw [mn_slots_set h h1 h2]; omega⟩
theorem mn_stp_up {call : Nat → Nat → List mn_C → Option (List mn_C)} (hc : ∀ g c W W', call g c W = some W' → mn_up W W') {pc : Nat} {x : mv_I} {ls st : List Value} {W : List mn_C} {t : mn_T} (h : mn_stp call pc x ls st W = some t) : mn_up W t.2.2.2 := by
  unfold mn_stp at h
  split at h
  all_goals first
    | (cases h; exact mn_up_rf _)
    | (cases h; exact mn_up_app _ _)
    | (split at h <;> first | (cases h; exact mn_up_rf _) | (cases h; exact mn_up_app _ _) | (cases h; done) | (split at h <;> first | (cases h; exact mn_up_rf _) | (cases h; done)))
    | skip
  · split at h
    · split at h
      · cases h; exact mn_up_rf _
      · cases h
    · split at h
      · rw [Option.map_eq_some_iff] at h
        obtain ⟨W', hq, rfl⟩ := h
        exact hc _ _ _ _ hq
      · cases h
  · split at h
    · split at h
      · rename_i q hq hh
        cases h; exact mn_up_set hq rfl rfl
      · cases h
    · cases h
  · split at h
    · split at h
      · split at h
        · cases h; exact mn_up_rf _
        · cases h
      · cases h
    · cases h
  · split at h
    · split at h
      · rename_i q hq hh
        cases h; exact mn_up_set hq rfl rfl
      · cases h
    · cases h
  · split at h
    · split at h
      · rename_i q z hq hz hh
        cases h; exact mn_up_set hq rfl rfl
      · cases h
    · cases h
  · cases h
theorem mn_go_up {call : Nat → Nat → List mn_C → Option (List mn_C)} (hc : ∀ g c W W', call g c W = some W' → mn_up W W') {f stop : Nat} : ∀ (n : Nat) (t t' : mn_T), mn_go call f stop n t = some t' → mn_up t.2.2.2 t'.2.2.2
  | 0, _, _, h => by cases h
  | n + 1, (pc, ls, st, W), t', h => by
    unfold mn_go at h
    split at h
    · cases h; exact mn_up_rf _
    · split at h
      · cases h
      · split at h
        · cases h; exact mn_up_rf _
        · split at h
          · cases h
          · rename_i t hs
            exact mn_up_tr (mn_stp_up hc hs) (mn_go_up hc n t t' h)
theorem mn_call_up : ∀ (d g c : Nat) (W W' : List mn_C), mn_call d g c W = some W' → mn_up W W'
  | 0, _, _, _, _, h => by cases h
  | d + 1, g, c, W, W', h => by
    unfold mn_call at h
    split at h
    · rename_i pc l2 W2 hg
      split at h
      · split at h
        · cases h
          exact mn_go_up (mn_call_up d) _ _ _ hg
        · cases h
      · cases h
    · cases h
