/-! THE CLAIM OUT OF ONE WALK OF THE LAW'S BODY: the skeleton's rows (kit/laws/SKELETON.whole) -/
def R_law : String := "WordMonoidsLaw"
def lw_P (b : Addr) (xs : List Int32) (args : Array Value) (s : State) : Prop := args = #[.ref b] ∧ s.IntsAt b xs ∧ xs.length ≤ 3584 ∧ (Jvm.Cond.and given_1 narrow_1).before args s = true
def lw_Q (_ : Array Value) (s : State) (o : Outcome) (t : State) : Prop := o = .returned (some (.int 1)) ∧ Framed s o t [] 600000 7302250
def lw_Z (below : List Frame) (a : Array Value) (s : State) : State → Prop := fun t => ∃ o, t.status = .running ∧ Ended t below o ∧ lw_Q a s o t
/-- the law's own end, with 1 on the stack, nothing written that was there before, its room as the claim has it -/
theorem lw_ret {p : Program} {l : Launch} {e : Env} {s : State} {m : MethodId} {below : List Frame} {meth : Method} {c : Code} {b : Nat} (hx : p.tables.exec = Jvm.exec) (hb : c.code = code) (hr : meth.sig.returnType = ret) (hlocks : meth.locks = false) {pc : Nat} {H : Heap} {ls : Array Slot} (hdg : decode code pc = .ok (.ireturn, 1)) : W p l e room_1 s m #[Value.ref b] below meth c H [] 600000 7302250 (lw_Z below #[Value.ref b] s) (F0 m pc ls [.int 1]) := by
  intro T hT X
  obtain ⟨fs, hret, hrun, hended, hW, hframe⟩ := X.leave (v := some (.int 1)) (hlocks := hlocks) (fun h => by rw [hr] at h; cases h)
  have hmeth' : T.vm.method? m = some meth := X.method'
  refine ⟨T.setFrames fs, ?_, .returned (some (.int 1)), hrun, hended, rfl, ⟨_, rfl⟩, hW, hframe⟩
  jvm_step X.here [X.here.top, hx, hb, hdg, hmeth', hr, ret, narrow_b1]
  (try refine ⟨rfl, ?_⟩); (try refine ⟨rfl, ?_⟩)
  first | (intro acts; rw [hret _ acts rfl rfl rfl]) | rw [hret _ _ rfl rfl rfl]
  exact Steps.refl _
/-- what holds at the law's entry: the machine, the code, the tables' words (any of lw_tbl by 'hts w (by decide +kernel)'), the script of L ints xs at the cell b, what the Statement gives of the start (any of its parts by flat_of_before) -/
def lw_At (p : Program) (s : State) (m : MethodId) (meth : Method) (c : Code) (b L : Nat) (xs : Nat → Int32) : Prop :=
  p.tables.exec = Jvm.exec ∧ c.code = code ∧ meth.sig.returnType = ret ∧ c.maxLocals = 4 ∧ s.vm.findClass R_law = some m.cls ∧ (∀ w ∈ lw_tbl, w.before #[Value.ref b] s = true) ∧ va_X b L xs s s.heap ∧ b < s.heap.size ∧ meth.locks = false ∧ (Jvm.Cond.and given_1 narrow_1).before #[Value.ref b] s = true
theorem mv_start {p : Program} {l : Launch} {e : Env} {s : State} {m : MethodId} {below : List Frame} {meth : Method} {c : Code} {b L : Nat} {xs : Nat → Int32} {Q : State → Prop} (C0 : lw_At p s m meth c b L xs)
    (kk : ∀ (aC : Nat → ClassId) (D : va_G) (lsr : Array Slot) (H : Heap) (locs : List Loc), mv_Cx p s m #[Value.ref b] c 244 (s.heap.size + ·) aC D b (L, xs) → mv_lr (s.heap.size + ·) b 4 lsr [.retAddr 1, .ref 0, .ref 61, .int 0] → va_P D mv_cl (mv_w (s.heap.size + ·) aC mv_0) H → va_S (mn_A s.heap.size) s.heap H locs → W p l e room_1 s m #[Value.ref b] below meth c H locs 96 238126 Q (F0 m 18 lsr [])) :
    W p l e room_1 s m #[Value.ref b] below meth c s.heap [] 0 0 Q (entryFrame m ([Value.ref b] : List Value).toArray 4) := by
  obtain ⟨hx, hb, hr, hml, hown, hts, hX, hbl, hlocks, hgv⟩ := C0
  have ht2 : ∀ w ∈ mv_ts, w.before #[Value.ref b] s = true := fun w hw => hts w (List.mem_filter.mp hw).1
  have hch : ∀ ci : Nat, ∃ x : ClassId × (Nat → Nat), ci < 13 → u_Kn s (mv_clC ci) (mv_clT ci) (mv_clN ci) x.1 x.2 := by
    intro ci
    by_cases h : ci < 13
    · have h1 := List.all_eq_true.mp mn_inst ci (List.mem_range.mpr h)
      rw [decide_eq_true_eq] at h1
      obtain ⟨cC, iS, h2⟩ := u_known ht2 (mv_uws h) (hts _ h1)
      exact ⟨(cC, iS), fun _ => h2⟩
    · exact ⟨(0, fun _ => 0), fun q => absurd q h⟩
  obtain ⟨g, hg⟩ := Classical.axiomOfChoice hch
  have hK : va_K (fun ci => (g ci).1, fun ci => (g ci).2) mv_cl [] s := by
    refine ⟨fun ci q hq => ?_, fun k q hk => by cases hk⟩
    have h : ci < 13 := (List.getElem?_eq_some_iff.mp hq).1
    rw [mv_cl_at h] at hq
    cases hq
    exact hg ci h
  have hN : ∀ w ∈ lw_tbl, mv_isN w = true → va_Nw w s := fun w hw hn => va_Nw.of (mv_isN_tab hn) (hts w hw)
  have hAO : mn_AO s := by
    intro k h1 h2
    have h3 := List.all_eq_true.mp mn_over k (by simp; omega)
    rw [decide_eq_true_eq] at h3
    exact va_AO.of (hts _ h3)
  have haC : mn_aC (fun k => (s.vm.findClass ("[" ++ (mn_ty k).toString)).getD 0) s := by
    intro k _ _ cA hc
    dsimp only
    rw [hc]
    rfl
  have C : mn_Cx p s m #[Value.ref b] meth c 13 s.heap.size (fun k => (s.vm.findClass ("[" ++ (mn_ty k).toString)).getD 0) (fun ci => (g ci).1, fun ci => (g ci).2) := ⟨hx, hb, hml, hown, ht2, ⟨hK, hN, hAO, haC⟩, Nat.le_refl _, fun q => absurd q (by omega)⟩
  rw [lg_entry_eq]
  obtain ⟨hall, hlen, hsl⟩ := mn_fin_all
  have hworld := @mn_world
  have htysw := @mn_tys
  generalize mn_fin = wf at hall hlen hsl hworld htysw
  have hz : mn_Z p l e room_1 s m #[Value.ref b] below meth c Q 13 s.heap.size b (fun k => (s.vm.findClass ("[" ++ (mn_ty k).toString)).getD 0) (fun ci => (g ci).1, fun ci => (g ci).2) 0 0 (0, [.retAddr 1, .retAddr 0, .retAddr 0, .retAddr 0], [], []) := by
    refine mn_so_go (by omega) rfl C (mn_met l 6) ⟨Nat.le_of_ble_eq_true rfl, Nat.le_of_ble_eq_true rfl⟩ 1000 _ _ hall ⟨?_, ?_⟩ ?_
    · exact Nat.le_trans (Nat.le_of_eq hlen) (Nat.le_of_ble_eq_true rfl)
    · exact Nat.le_trans (Nat.le_of_eq hsl) (Nat.le_of_ble_eq_true rfl)
    · intro lsr H locs cells slots hl hP hKa hS hce hsl2
      dsimp only at hl hP hKa hce hsl2
      have e1 : cells = 96 := by rw [← hlen, ← hce]; rfl
      have e2 : slots = 238126 := by rw [← hsl, ← hsl2]; rfl
      subst e1
      subst e2
      refine kk _ _ lsr H locs ⟨hx, hb, hml, hown, ht2, hN, htysw hK hKa, fun i j _ _ h => Nat.add_left_cancel h, hX, hbl, fun q => ?_⟩ hl (hworld hP) hS
      obtain ⟨c9, -, h9⟩ := q
      have h8 : s.heap.size + c9 = b := h9
      omega
  exact hz _ s.heap [] 0 0 (mv_entry (s.heap.size + ·) b 4 [.retAddr 1] (by decide)) (fun k q hk => by cases hk) (fun q hq => by cases hq) va_S.rf rfl rfl
