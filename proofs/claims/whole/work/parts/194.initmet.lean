theorem mn_so_go {p : Program} {l : Launch} {e : Env} {R : Room} {s : State} {m : MethodId} {args : Array Value} {below : List Frame} {meth : Method} {c : Code} {Q : State → Prop} {f base b d stop k0 s0 : Nat} {aC : Nat → ClassId} {D : va_G}
    (hf : f < 14) (hk0 : s.heap.size = base + k0) (C : mn_Cx p s m args meth c f base aC D) (hc : mn_Calls l base aC D b d (mn_call d)) (hR : d + 2 ≤ R.frames ∧ 64 * (d + 2) ≤ R.locals) :
    ∀ (n : Nat) (t t' : mn_T), mn_go (mn_call d) f stop n t = some t' → t'.2.2.2.length ≤ R.cells + k0 ∧ mn_slots t'.2.2.2 ≤ R.slots + s0 → mn_Z p l e R s m args below meth c Q f base b aC D k0 s0 t' → mn_Z p l e R s m args below meth c Q f base b aC D k0 s0 t
  | 0, _, _, h => by cases h
  | n + 1, (pc, ls, st, Wd), t', h => fun hup hZ => by
    unfold mn_go at h
    split at h
    · cases h; exact hZ
    · split at h
      · cases h
      · rename_i x hx
        split at h
        · cases h; exact hZ
        · split at h
          · cases h
          · rename_i t hs
            obtain ⟨hd, hch⟩ := mn_okm_at hf hx
            have h1 := mn_go_up (mn_call_up d) n t t' h
            refine mn_so_stp hf hk0 C hc hR hd hch hs ⟨Nat.le_trans h1.1 hup.1, Nat.le_trans h1.2 hup.2⟩ ?_
            exact mn_so_go hf hk0 C hc hR n t t' h hup hZ
set_option maxHeartbeats 4000000 in
theorem mn_met (l : Launch) {base b : Nat} {aC : Nat → ClassId} {D : va_G} : ∀ d, mn_Calls l base aC D b d (mn_call d)
  | 0 => fun _ _ _ _ _ h => by cases h
  | d + 1 => by
    have ih := mn_met l (base := base) (b := b) (aC := aC) (D := D) d
    intro g c0 Wd W' hg h
    have hup := mn_call_up _ _ _ _ _ h
    refine ⟨hup, ?_⟩
    unfold mn_call at h
    split at h
    · rename_i pc l2 W2 hgo
      split at h
      · rename_i x hx
        split at h
        · rename_i hret
          cases h
          obtain ⟨hml0, hle, hpl⟩ := mn_okm_ml (f := g) (by omega)
          obtain ⟨-, -, -, -, -, -, hnm, hn1⟩ := mn_okc_at hg
          refine Met.ofW (cc := (mn_N g).2.1) (maxL := (mn_N g).2.2) (ret := none) (ws' := mv_ts) hpl rfl ?_
          intro p e s m args below meth c s₁ B hml hv
          obtain ⟨rfl, hsz, hP, hKa, hSt⟩ := hv
          have hts := atoms_spec (ws := mn_wsf g) B.pre
          have hr := B.returns
          have hlocks := B.notSynchronized
          have hin : meth.name = "<init>" := (name_of_methodNamed B.named B.method).1.trans hnm
          have C : mn_Cx p s m (([.ref (base + c0)] : List Value).toArray) meth c g base aC D := ⟨B.exec, B.bytes, hml.trans hml0.symm, findClass_of_methodNamed B.named, fun w hw => hts w (List.mem_cons_of_mem _ hw), hSt, by omega, fun _ => hin⟩
          rw [lg_entry_eq, ← hml0]
          have hz : mn_Z p l e (mn_rm (d + 1) Wd W') s m (([.ref (base + c0)] : List Value).toArray) below meth c (MQ below (mn_Qc base aC D b W') (([.ref (base + c0)] : List Value).toArray) s (W'.length - Wd.length) (mn_slots W' - mn_slots Wd) (mn_A base)) g base b aC D Wd.length (mn_slots Wd) (0, mv_pad (mn_P g).1 [.ref c0], [], Wd) := by
            refine mn_so_go (by omega) hsz C ih ⟨Nat.le_refl _, Nat.le_refl _⟩ 1000 _ _ hgo ⟨?_, ?_⟩ ?_
            · show W'.length ≤ (W'.length - Wd.length) + Wd.length
              have := hup.1
              omega
            · show mn_slots W' ≤ (mn_slots W' - mn_slots Wd) + mn_slots Wd
              have := hup.2
              omega
            · intro lsr H locs cells slots hl hP1 hKa1 hS1 hce hsl
              dsimp only at hP1 hKa1 hce hsl
              have e1 : cells = W'.length - Wd.length := by omega
              have e2 : slots = mn_slots W' - mn_slots Wd := by omega
              subst e1
              subst e2
              obtain ⟨hd, -⟩ := mn_okm_at (f := g) (by omega) hx
              rw [hret] at hd
              exact W.vret B.exec B.bytes hr (fun t ht hW => ⟨⟨rfl, by rw [ht]; exact hP1, mn_Ka_moved hW.alike hKa1⟩, hS1.F ht⟩) hS1.2.2 hd
          have he := mv_entry (base + ·) b (mn_P g).1 [.ref c0] hn1
          exact hz _ s.heap [] 0 0 he hP hKa va_S.rf (Nat.zero_add _) (Nat.zero_add _)
        · cases h
      · cases h
    · cases h
