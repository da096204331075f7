/-! ===== the small machine's weakest preconditions are contracts ===== -/
theorem mv_so_wf {p : Program} {l : Launch} {e : Env} {R : Room} {s : State} {m : MethodId} {args : Array Value} {below : List Frame} {meth : Method} {c : Code} {Q : State → Prop} {f : Nat} {ad : Nat → Nat} {aC : Nat → ClassId} {D : va_G} {b : Nat} {X : mv_X} {rm : Room} {call : Nat → List Value → mv_S → mv_Q → Prop} {cells slots : Nat}
    {Q0 : mv_Q} (C : mv_Cx p s m args c f ad aC D b X) (hc : mv_Calls l ad aC D b X rm call) (hr : mv_Room rm R) (hcn : mv_Cnt cells slots R) (hokc : mv_Okc) (hok : mv_okm f = true) (hret : mv_Rets p l e R s m args below meth c f ad aC D b cells slots Q Q0) {pc : Nat} {ls st : List Value} {σ : mv_S}
    (h : mv_wf X call (mv_P f) Q0 pc ls st σ) : mv_Zr p l e R s m args below meth c f ad aC D b cells slots Q pc ls st σ := by
  refine h _ fun pc ls st σ g => ?_
  unfold mv_stp at g
  split at g
  · rename_i x hx
    obtain ⟨hd, hch⟩ := mv_okm_at hok hx
    exact mv_so_op C hc hr hcn hokc hret hd hch g
  · exact g.elim
def mv_rm (d : Nat) : Room := { frames := d, cells := 0, slots := 0, locals := 64 * d }
theorem mv_slots_len (ad : Nat → Nat) (b : Nat) : ∀ as : List Value, (lg_sl (as.map (mv_tr ad b))).length = (mv_slots as).length
  | [] => rfl
  | v :: t => by
    have ih := mv_slots_len ad b t
    unfold lg_sl at ih ⊢
    rw [List.map_cons, List.flatMap_cons, List.length_append, ih, mv_tr_cat]
    cases v <;> simp [mv_slots, Value.category] <;> omega
theorem mv_slots_args (ad : Nat → Nat) (b : Nat) : ∀ (as : List Value) (k i : Nat), ¬ mv_get (mv_slots as) i = .retAddr 0 → (k + i, mv_tr ad b (mv_get (mv_slots as) i)) ∈ lv_args k (as.map (mv_tr ad b))
  | [], _, _, h => absurd rfl h
  | v :: t, k, i, h => by
    have two : v.category = 2 → mv_slots (v :: t) = v :: .retAddr 0 :: mv_slots t := by cases v <;> intro q <;> first | rfl | cases q
    have one : ¬ v.category = 2 → mv_slots (v :: t) = v :: mv_slots t := by cases v <;> intro q <;> first | rfl | exact absurd rfl q
    show _ ∈ (k, mv_tr ad b v) :: lv_args (if (mv_tr ad b v).category = 2 then k + 2 else k + 1) (t.map (mv_tr ad b))
    rw [mv_tr_cat]
    by_cases hc : v.category = 2
    · rw [two hc] at h ⊢
      rw [if_pos hc]
      match i, h with
      | 0, _ => exact List.mem_cons_self
      | 1, h => exact absurd rfl h
      | i + 2, h =>
        refine List.mem_cons_of_mem _ ?_
        have := mv_slots_args ad b t (k + 2) i h
        rw [show k + (i + 2) = k + 2 + i by omega]
        exact this
    · rw [one hc] at h ⊢
      rw [if_neg hc]
      match i, h with
      | 0, _ => exact List.mem_cons_self
      | i + 1, h =>
        refine List.mem_cons_of_mem _ ?_
        have := mv_slots_args ad b t (k + 1) i h
        rw [show k + (i + 1) = k + 1 + i by omega]
        exact this
theorem mv_pad_get : ∀ (n : Nat) (l : List Value) (i : Nat), mv_get (mv_pad n l) i = mv_get l i
  | 0, _, _ => rfl
  | n + 1, [], 0 => rfl
  | n + 1, [], i + 1 => mv_pad_get n [] i
  | n + 1, _ :: _, 0 => rfl
  | n + 1, _ :: t, i + 1 => mv_pad_get n t i
theorem mv_pad_len : ∀ (n : Nat) (l : List Value), l.length ≤ n → (mv_pad n l).length = n
  | 0, [], _ => rfl
  | 0, _ :: _, h => absurd h (by simp)
  | n + 1, [], _ => congrArg (· + 1) (mv_pad_len n [] (Nat.zero_le _))
  | n + 1, _ :: t, h => congrArg (· + 1) (mv_pad_len n t (by simpa using h))
/-- the locals at a method's entry -/
theorem mv_entry (ad : Nat → Nat) (b n : Nat) (as : List Value) (h : (mv_slots as).length ≤ n) : mv_lr ad b n ((lg_sl (as.map (mv_tr ad b)) ++ List.replicate (n - (lg_sl (as.map (mv_tr ad b))).length) Slot.unset).toArray) (mv_pad n (mv_slots as)) := by
  have h2 : (lg_sl (as.map (mv_tr ad b))).length ≤ n := by rw [mv_slots_len]; exact h
  obtain ⟨h3, h4, h5⟩ := lv_entry (as.map (mv_tr ad b)) h2
  refine ⟨mv_pad_len n _ h, h3, h4, fun q hq => ?_⟩
  obtain ⟨-, q2, q3⟩ := mv_al_mem.mp hq
  rw [mv_pad_get] at q2 q3
  refine h5 q ?_
  have := mv_slots_args ad b as 0 q.1 q2
  rw [Nat.zero_add, ← q3] at this
  exact this
theorem mv_rk0 {r : Option FieldType} (h : 0 = mv_rko r) : r = none := by
  unfold mv_rko at h; split at h <;> first | rfl | (exact absurd h (by decide))
theorem mv_rk1 {r : Option FieldType} (h : 1 = mv_rko r) : r = some .int := by
  unfold mv_rko at h; split at h <;> first | rfl | (exact absurd h (by decide))
theorem mv_rk2 {r : Option FieldType} (h : 2 = mv_rko r) : r = some .boolean := by
  unfold mv_rko at h; split at h <;> first | rfl | (exact absurd h (by decide))
theorem mv_rk3 {r : Option FieldType} (h : 3 = mv_rko r) : r = some .long := by
  unfold mv_rko at h; split at h <;> first | rfl | (exact absurd h (by decide))
theorem mv_rk4 {r : Option FieldType} (h : 4 = mv_rko r) : ∃ n, r = some (.object n) := by
  unfold mv_rko at h; split at h <;> first | exact ⟨_, rfl⟩ | (exact absurd h (by decide))
set_option maxHeartbeats 4000000 in
theorem mv_met (l : Launch) {ad : Nat → Nat} {aC : Nat → ClassId} {D : va_G} {b : Nat} {X : mv_X} (hi : mv_inj ad) (hbA : ¬ mv_A ad b) (hokm : ∀ f, f < 244 → mv_okm f = true) (hokc : mv_Okc) : ∀ d, mv_Calls l ad aC D b X (mv_rm d) (mv_wp X d)
  | 0 => fun _ _ _ _ _ h => h.elim
  | d + 1 => by
    have ih := mv_met l (aC := aC) (D := D) (X := X) hi hbA hokm hokc d
    intro g as σ P hg h
    obtain ⟨hn, h⟩ := h
    obtain ⟨hml0, hrk, hle, hpl⟩ := mv_okm_rk (hokm g hg)
    refine Met.ofW (cc := (mv_N g).2.1) (maxL := (mv_N g).2.2.1) (ret := (mv_N g).2.2.2) (ws' := mv_ts) hpl rfl ?_
    intro p e s m args below meth c s₁ B hml hv
    obtain ⟨rfl, hP, hK, hN, hX, hbl⟩ := hv
    have hts := atoms_spec (ws := mv_wsf g) B.pre
    have hret := B.returns
    have hlocks := B.notSynchronized
    have C : mv_Cx p s m ((as.map (mv_tr ad b)).toArray) c g ad aC D b X := ⟨B.exec, B.bytes, hml.trans hml0.symm, findClass_of_methodNamed B.named, fun w hw => hts w (List.mem_cons_of_mem _ hw), hN, hK, hi, hX, hbl, hbA⟩
    rw [lg_entry_eq, ← hml0]
    refine mv_so_wf (rm := mv_rm d) C ih ⟨rfl, rfl, Nat.le_refl _, ?_⟩ ⟨Nat.zero_le _, Nat.zero_le _⟩ hokc (hokm g hg) ?_ h _ s.heap [] (mv_entry ad b _ as hn) hP va_S.rf
    · show 64 * d + 64 ≤ 64 * (d + 1)
      omega
    · intro r σ' H locs pc lsr hq hP' hS' hk
      have hQ : ∀ t : State, t.heap = H → mv_Qc ad aC D b P ((as.map (mv_tr ad b)).toArray) s (.returned (r.map (mv_tr ad b))) t := fun t ht => ⟨⟨r, σ', rfl, hq, by rw [ht]; exact hP'⟩, hS'.F ht⟩
      rcases hk with ⟨rfl, k1, k2⟩ | ⟨v, rfl, k1, k2⟩ | ⟨v, rfl, k1, k2⟩ | ⟨v, rfl, k0, k1, k2⟩
      · exact W.vret B.exec B.bytes (hret.trans (mv_rk0 (k1.symm.trans hrk))) (fun t ht _ => hQ t ht) hS'.2.2 k2
      · rcases k1 with k1 | ⟨k1, k3⟩
        · exact W.iret B.exec B.bytes (hret.trans (mv_rk1 (k1.symm.trans hrk))) (fun t ht _ => hQ t ht) hS'.2.2 k2
        · exact W.zret (ty := .boolean) B.exec B.bytes (hret.trans (mv_rk2 (k1.symm.trans hrk))) (by rcases k3 with rfl | rfl <;> rfl) (fun t ht _ => hQ t ht) hS'.2.2 k2
      · exact W.lret B.exec B.bytes (hret.trans (mv_rk3 (k1.symm.trans hrk))) (fun t ht _ => hQ t ht) hS'.2.2 k2
      · obtain ⟨nm, hnm⟩ := mv_rk4 (k1.symm.trans hrk)
        refine W.aret (v := mv_tr ad b v) B.exec B.bytes (hret.trans hnm) (Or.inl ⟨nm, rfl⟩) ?_ (fun t ht _ => hQ t ht) hS'.2.2 k2
        rcases k0 with rfl | ⟨c0, rfl⟩
        · exact Or.inl rfl
        · exact Or.inr ⟨_, rfl⟩
