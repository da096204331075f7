/-! ===== the small machine's weakest preconditions are contracts ===== -/
theorem mv_so_wf {p : Program} {l : Launch} {e : Env} {R : Room} {s : State} {m : MethodId} {args : Array Value} {below : List Frame} {meth : Method} {c : Code} {Q : State → Prop} {f : Nat} {ad : Nat → Nat} {aC : Nat → ClassId} {D : va_G} {b : Nat} {X : mv_X} {rm : Room} {call : Nat → List Value → mv_S → mv_Q → Prop}
    {Q0 : mv_Q} (C : mv_Cx p s m args c f ad aC D b X) (hc : mv_Calls l ad aC D b X rm call) (hr : mv_Room rm R) (hokc : mv_Okc) (hok : mv_okm f = true) (hret : mv_Rets p l e R s m args below meth c f ad aC D b Q Q0) {pc : Nat} {ls st : List Value} {σ : mv_S}
    (h : mv_wf X call (mv_P f) Q0 pc ls st σ) : mv_Zr p l e R s m args below meth c f ad aC D b Q pc ls st σ := by
  refine h _ fun pc ls st σ g => ?_
  unfold mv_stp at g
  split at g
  · rename_i x hx
    obtain ⟨hd, hch⟩ := mv_okm_at hok hx
    exact mv_so_op C hc hr hokc hret hd hch g
  · exact g.elim
def mv_rm (d : Nat) : Room := { frames := d, cells := 0, slots := 0, locals := 64 * d }
/-- the locals at a method's entry -/
theorem mv_entry (ad : Nat → Nat) (b n : Nat) (as : List Value) (h : (mv_slots as).length ≤ n) (h2 : (lg_sl (as.map (mv_tr ad b))).length ≤ n) : mv_lr ad b n ((lg_sl (as.map (mv_tr ad b)) ++ List.replicate (n - (lg_sl (as.map (mv_tr ad b))).length) Slot.unset).toArray) (mv_pad n (mv_slots as)) := by
  sorry
