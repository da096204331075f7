/-- the invariant between class and reference -/
theorem lw_inv : ∃ Inv : Nat → mv_S → Prop, Inv 0 mv_0 ∧ (∀ i σ, Inv i σ → Inv (i + 7) σ) ∧ ∀ X : mv_X, X.1 ≤ 3584 → lw_ops X 100 Inv := ⟨Inv, Inv_0, Inv_7, fun X _ => inv_ops X⟩
theorem whole_start {p : Program} {e : Env} {s : State} {m : MethodId} {below : List Frame} {meth : Method} {c : Code} (l : Launch) (hflags : l.flags = flags0) {b L : Nat} {xs : Nat → Int32} (hL : L ≤ 3584) (C0 : lw_At p s m meth c b L xs) : W p l e room_1 s m #[Value.ref b] below meth c s.heap [] 0 0 (lw_Z below #[Value.ref b] s) (entryFrame m ([Value.ref b] : List Value).toArray 4) := by
  obtain ⟨Inv, h0, hm, h⟩ := lw_inv
  exact lw_done l hL C0 Inv h0 (h (L, xs) hL) hm
