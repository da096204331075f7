/-- the claim's start, out of an invariant -/
theorem lw_done {p : Program} {e : Env} {s : State} {m : MethodId} {below : List Frame} {meth : Method} {c : Code} (l : Launch) {b L : Nat} {xs : Nat → Int32} (hL : L ≤ 3584) (C0 : lw_At p s m meth c b L xs) (Inv : Nat → mv_S → Prop) (h0 : Inv 0 mv_0) (hops : lw_ops (L, xs) 100 Inv) (h_more : ∀ i σ, Inv i σ → Inv (i + 7) σ) :
    W p l e room_1 s m #[Value.ref b] below meth c s.heap [] 0 0 (lw_Z below #[Value.ref b] s) (entryFrame m ([Value.ref b] : List Value).toArray 4) := by
  refine mv_start C0 fun aC D lsr H locs C hl hP hS => ?_
  obtain ⟨hx, hb, hr, hml, hown, hts, hX, hbl, hlocks, hgv⟩ := C0
  refine va_forget (fun q hq => hS.2.2 q hq) ?_
  have hS2 : va_S (mv_A (s.heap.size + ·)) s.heap H [] := ⟨hS.1, fun q h1 _ => hS.2.1 q h1 (fun z => absurd h1 (Nat.not_lt.mpr z)), fun q hq => by cases hq⟩
  have hinj : mv_inj (s.heap.size + ·) := C.2.2.2.2.2.2.2.1
  have hbA : ¬ mv_A (s.heap.size + ·) b := C.2.2.2.2.2.2.2.2.2.2
  refine mv_so_wf (rm := mv_rm 100) (Q0 := fun r _ => r = some (.int 1)) C (mv_met l hinj hbA mv_allm mv_allc 100) ⟨rfl, rfl, Nat.le_of_ble_eq_true rfl, Nat.le_of_ble_eq_true rfl⟩ ⟨Nat.le_of_ble_eq_true rfl, Nat.le_of_ble_eq_true rfl⟩ mv_allc mv_okm_law ?_ (lw_loop hL Inv hops h_more 3584 0 mv_0 (by show L ≤ 0 + 3584; omega) (by omega) h0) lsr H [] hl hP hS2
  intro r σ H1 locs1 pc ls1 hq hP1 hS1 hk
  subst hq
  have hdg : decode code pc = .ok (.ireturn, 1) := by
    rcases hk with ⟨q, -⟩ | ⟨v, -, -, q⟩ | ⟨v, q, -⟩ | ⟨v, -, -, q, -⟩
    · cases q
    · exact q
    · cases q
    · exact absurd q (by decide)
  refine va_forget (fun q hq => ?_) (W.widen (k := 600000) (n := 7302250) (Nat.le_of_ble_eq_true rfl) (Nat.le_of_ble_eq_true rfl) (lw_ret hx hb hr hlocks hdg))
  obtain ⟨c9, -, h9⟩ := hS1.2.2 q hq
  rw [← h9]
  exact Nat.le_add_right _ _
