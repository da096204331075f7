/-! ===== from the law's entry to its loop: both objects made ===== -/
def mn_fin : List mn_C := match mn_all with
  | some t => t.2.2.2
  | none => []
theorem mn_fin_all : mn_all = some (18, [.retAddr 1, .ref 0, .ref 61, .int 0], [], mn_fin) ∧ mn_fin.length = 96 ∧ mn_slots mn_fin = 238126 := by
  have h := mn_t1
  unfold mn_fin
  cases hm : mn_all with
  | none => rw [hm] at h; cases h
  | some t =>
    obtain ⟨a, b, c, w⟩ := t
    rw [hm] at h
    simp only [Option.map_some, Option.some.injEq, Prod.mk.injEq] at h
    obtain ⟨rfl, rfl, rfl, h1, h2⟩ := h
    exact ⟨rfl, h1, h2⟩
/-- the first store -/
def mv_0 : mv_S := (fun c k => match mn_fin[c]? with
  | some q => if q.1 < 20 then (match q.2.1[k]? with
    | some (.int v) => v
    | _ => 0) else (mn_lu q.2.2.2.1 k).getD 0
  | none => 0, fun c k => match mn_fin[c]? with
  | some q => if q.1 < 20 then (match q.2.1[k]? with
    | some (.long v) => v
    | _ => 0) else 0
  | none => 0)
/-- a field as the store has it, references by their numbers -/
def mn_fv (c ci k : Nat) : Value := match mv_fk ci k with
  | 2 => .ref (mv_rf c k)
  | 1 => .long (mv_0.2 c k)
  | _ => .int (mv_0.1 c k)
def mn_like (c : Nat) (q : mn_C) : Bool := decide (q.1 = mv_sh c) && (if q.1 < 20 then decide (q.2.1 = (List.range (mv_clN q.1)).map (mn_fv c q.1)) else decide (q.2.2.1 = mv_ln c) && (decide (q.1 < 24) || (List.range q.2.2.1).all (fun j => decide (mn_lu q.2.2.2.2 j = some (mv_rf c j)))))
set_option maxRecDepth 1000000 in
theorem mn_like_all : (List.range 96).all (fun c => match mn_fin[c]? with
  | some q => mn_like c q
  | none => false) = true := by decide +kernel
set_option maxRecDepth 1000000 in
theorem mn_kinds : (List.range 7).all (fun j => mn_fin.any (fun q => decide (q.1 = 20 + j))) = true := by decide +kernel
theorem mn_like_at {c : Nat} (h : c < 96) : ∃ q, mn_fin[c]? = some q ∧ mn_like c q = true := by
  have h1 := List.all_eq_true.mp mn_like_all c (List.mem_range.mpr h)
  cases hq : mn_fin[c]? with
  | none => rw [hq] at h1; cases h1
  | some q => rw [hq] at h1; exact ⟨q, rfl, h1⟩
theorem mn_arr_congr {cA n : Nat} {f g : Nat → Value} (h : ∀ j, j < n → f j = g j) : arrV cA n f = arrV cA n g := by
  unfold arrV
  congr 2
  funext j
  exact h j.1 j.2
theorem mn_world {base b : Nat} {aC : Nat → ClassId} {D : va_G} {H : Heap} (hP : va_P D mv_cl (mn_w base aC b mn_fin) H) : va_P D mv_cl (mv_w (base + ·) aC mv_0) H := by
  intro k x hx
  obtain ⟨hk, rfl⟩ := mv_w_some hx
  obtain ⟨q, hq, hl⟩ := mn_like_at hk
  have h1 := hP k _ (mn_w_at hq)
  unfold mn_like at hl
  simp only [Bool.and_eq_true, decide_eq_true_eq] at hl
  obtain ⟨e1, hl⟩ := hl
  by_cases h20 : q.1 < 20
  · rw [if_pos h20, decide_eq_true_eq] at hl
    rw [mn_e_o h20, hl, List.map_map] at h1
    rw [mv_cell_o e1.symm h20]
    have e2 : (mv_tr (base + ·) b ∘ mn_fv k q.1) = mv_fv (base + ·) mv_0 k := by
      funext j
      show mv_tr (base + ·) b (mn_fv k q.1 j) = mv_fv (base + ·) mv_0 k j
      unfold mn_fv mv_fv
      rw [← e1]
      generalize mv_fk q.1 j = z
      rcases z with _ | _ | _ | z <;> rfl
    rw [e2] at h1
    exact h1
  · rw [if_neg h20] at hl
    simp only [Bool.and_eq_true, decide_eq_true_eq, Bool.or_eq_true] at hl
    obtain ⟨e3, hl⟩ := hl
    by_cases h23 : q.1 < 23
    · rw [mn_e_i h20 h23, e3] at h1
      rw [mv_cell_i e1.symm h20 h23]
      have e2 : (fun j => (mn_lu q.2.2.2.1 j).getD 0) = mv_0.1 k := by
        funext j
        simp only [mv_0, hq, if_neg h20]
      rw [e2] at h1
      exact h1
    · by_cases h24 : q.1 = 23
      · rw [mn_e_l h24, e3] at h1
        rw [mv_cell_l (e1.symm.trans h24)]
        have e2 : (fun _ => (0 : Int64)) = mv_0.2 k := by
          funext j
          simp only [mv_0, hq, if_neg h20]
        rw [e2, h24] at h1
        exact h1
      · have h25 : 24 ≤ q.1 := by omega
        rw [mn_e_r h25, e3] at h1
        rw [mv_cell_r (by rw [← e1]; exact h25), ← e1]
        have hl2 := hl.resolve_left (by omega)
        have h2 : H[base + k]? = some (vp_cell (aC q.1) (mv_ln k, .inr (.inr (.inr (.inr (fun j => (mn_lu q.2.2.2.2 j).map (base + ·))))))) := h1
        show H[base + k]? = some (vp_cell (aC q.1) (mv_ln k, .inr (.inr (.inr (.inr (fun j => some (base + mv_rf k j)))))))
        rw [h2, vp_cell_q, vp_cell_q]
        refine congrArg some (mn_arr_congr fun j hj => ?_)
        have h3 := List.all_eq_true.mp hl2 j (List.mem_range.mpr (by rw [e3]; exact hj))
        rw [decide_eq_true_eq] at h3
        rw [h3]
        rfl
theorem mn_tys {aC : Nat → ClassId} {D : va_G} {s : State} (hK : va_K D mv_cl [] s) (hKa : mn_Ka aC mn_fin s) : va_K D mv_cl (mv_tys aC) s := by
  refine ⟨hK.1, fun i q hi => ?_⟩
  have key : ∀ j, j < 7 → ArrOfT s (aC (20 + j)) (mn_ty (20 + j)) ∧ va_RA s (aC (20 + j)) (mn_ty (20 + j)) := by
    intro j hj
    have h1 := List.all_eq_true.mp mn_kinds j (List.mem_range.mpr hj)
    obtain ⟨q, hq, h2⟩ := List.any_eq_true.mp h1
    rw [decide_eq_true_eq] at h2
    have h3 := hKa q hq (by omega)
    rw [h2] at h3
    exact h3.2
  have hlt : i < 7 := (List.getElem?_eq_some_iff.mp hi).1
  have hc : i = 0 ∨ i = 1 ∨ i = 2 ∨ i = 3 ∨ i = 4 ∨ i = 5 ∨ i = 6 := by omega
  rcases hc with rfl | rfl | rfl | rfl | rfl | rfl | rfl <;> cases hi
  · exact key 0 (by omega)
  · exact key 1 (by omega)
  · exact key 2 (by omega)
  · exact key 3 (by omega)
  · exact key 4 (by omega)
  · exact key 5 (by omega)
  · exact key 6 (by omega)
set_option maxRecDepth 100000 in
theorem mn_inst : (List.range 13).all (fun ci => decide (Jvm.Cond.instantiable (mv_clC ci) (mv_clN ci) ∈ lw_tbl)) = true := by decide +kernel
set_option maxRecDepth 100000 in
theorem mn_over : [24, 25, 26].all (fun k => decide (Jvm.Cond.arrayOver (.object (mv_clC ([4, 0, 8].getD (k - 24) 99))) ∈ lw_tbl)) = true := by decide +kernel
