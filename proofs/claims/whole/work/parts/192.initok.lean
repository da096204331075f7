def mn_aC (aC : Nat → ClassId) (s : State) : Prop := ∀ k, 20 ≤ k → k < 27 → ∀ cA, s.vm.findClass ("[" ++ (mn_ty k).toString) = some cA → cA = aC k
def mn_Ka (aC : Nat → ClassId) (W : List mn_C) (s : State) : Prop := ∀ q ∈ W, ¬ q.1 < 20 → q.1 < 27 ∧ ArrOfT s (aC q.1) (mn_ty q.1) ∧ va_RA s (aC q.1) (mn_ty q.1)
def mn_AO (s : State) : Prop := ∀ k, 24 ≤ k → k < 27 → va_AO (mv_clC ([4, 0, 8].getD (k - 24) 99)) s
def mn_St (D : va_G) (aC : Nat → ClassId) (s : State) : Prop := va_K D mv_cl [] s ∧ (∀ w ∈ lw_tbl, mv_isN w = true → va_Nw w s) ∧ mn_AO s ∧ mn_aC aC s
theorem mn_Ka_moved {aC : Nat → ClassId} {W : List mn_C} {u U : State} (hvm : u.vm.Alike U.vm) (h : mn_Ka aC W u) : mn_Ka aC W U := fun q hq hk => ⟨(h q hq hk).1, arrOfT_moved hvm (h q hq hk).2.1, (h q hq hk).2.2.moved hvm⟩
theorem mn_aC_moved {aC : Nat → ClassId} {u U : State} (hvm : u.vm.Alike U.vm) (h : mn_aC aC u) : mn_aC aC U := fun k h1 h2 cA hc => h k h1 h2 cA (by rw [← hvm.findClass]; exact hc)
theorem mn_St_warm {D : va_G} {aC : Nat → ClassId} {s U : State} (hW : s.WarmedH U.vm) (h : mn_St D aC s) : mn_St D aC U := ⟨va_K.moved hW.alike h.1, fun w hw q => mv_isN_warm q hW (h.2.1 w hw q), fun k h1 h2 => va_AO.moved hW.alike (h.2.2.1 k h1 h2), mn_aC_moved hW.alike h.2.2.2⟩
theorem mn_RA_name {s : State} {cA : ClassId} {k : Nat} (h1 : 20 ≤ k) (h2 : k < 27) (h : va_RA s cA (mn_ty k)) : s.vm.findClass ("[" ++ (mn_ty k).toString) = some cA := by
  have hk : k = 20 ∨ k = 21 ∨ k = 22 ∨ k = 23 ∨ k = 24 ∨ k = 25 ∨ k = 26 := by omega
  rcases hk with rfl | rfl | rfl | rfl | rfl | rfl | rfl
  · exact h
  · exact h
  · exact h
  · exact h
  · obtain ⟨_, _, _, _, _, h⟩ := h; exact h
  · obtain ⟨_, _, _, _, _, h⟩ := h; exact h
  · obtain ⟨_, _, _, _, _, h⟩ := h; exact h
def mn_Cx (p : Program) (s : State) (m : MethodId) (args : Array Value) (meth : Method) (c : Code) (f base : Nat) (aC : Nat → ClassId) (D : va_G) : Prop :=
  p.tables.exec = Jvm.exec ∧ c.code = (mn_N f).2.1 ∧ c.maxLocals = (mn_P f).1 ∧ s.vm.findClass (mn_N f).1.cls = some m.cls ∧ (∀ w ∈ mv_ts, w.before args s = true) ∧ mn_St D aC s ∧ base ≤ s.heap.size ∧ (f < 13 → meth.name = "<init>")
def mn_Pc (base : Nat) (aC : Nat → ClassId) (D : va_G) (b c0 : Nat) (W : List mn_C) : Array Value → State → Prop := va_Pc [.ref (base + c0)] (fun U => U.heap.size = base + W.length ∧ va_P D mv_cl (mn_w base aC b W) U.heap ∧ mn_Ka aC W U ∧ mn_St D aC U)
def mn_Qc (base : Nat) (aC : Nat → ClassId) (D : va_G) (b : Nat) (W : List mn_C) : Array Value → State → Outcome → State → Prop := fun _ st oc t => (oc = .returned none ∧ va_P D mv_cl (mn_w base aC b W) t.heap ∧ mn_Ka aC W t) ∧ va_F (mn_A base) st t
def mn_wsf (g : Nat) : List Jvm.Cond := Jvm.Cond.code (mn_N g).1 (mn_N g).2.1 (mn_N g).2.2 none :: mv_ts
def mn_rm (d : Nat) (W W' : List mn_C) : Room := { frames := d + 1, cells := W'.length - W.length, slots := mn_slots W' - mn_slots W, locals := 64 * (d + 1) }
def mn_Calls (l : Launch) (base : Nat) (aC : Nat → ClassId) (D : va_G) (b d : Nat) (call : Nat → Nat → List mn_C → Option (List mn_C)) : Prop :=
  ∀ (g c0 : Nat) (W W' : List mn_C), g < 13 → call g c0 W = some W' → mn_up W W' ∧ Met l (mn_N g).1 (mn_wsf g) (mn_rm d W W') (mn_Pc base aC D b c0 W) (mn_Qc base aC D b W') (W'.length - W.length) (mn_slots W' - mn_slots W) (mn_A base)
section MNS
variable {p : Program} {l : Launch} {e : Env} {R : Room} {s : State} {m : MethodId} {args : Array Value} {below : List Frame} {meth : Method} {c : Code} {Q : State → Prop}
variable {f base b d : Nat} {aC : Nat → ClassId} {D : va_G} {call : Nat → Nat → List mn_C → Option (List mn_C)}
/-- the machine stands at a state of the constructors' machine; k0, s0: cells and slots at the method's entry -/
def mn_Z (p : Program) (l : Launch) (e : Env) (R : Room) (s : State) (m : MethodId) (args : Array Value) (below : List Frame) (meth : Method) (c : Code) (Q : State → Prop) (f base b : Nat) (aC : Nat → ClassId) (D : va_G) (k0 s0 : Nat) (t : mn_T) : Prop :=
  ∀ (lsr : Array Slot) (H : Heap) (locs : List Loc) (cells slots : Nat), mv_lr (base + ·) b (mn_P f).1 lsr t.2.1 → va_P D mv_cl (mn_w base aC b t.2.2.2) H → mn_Ka aC t.2.2.2 s → va_S (mn_A base) s.heap H locs → cells + k0 = t.2.2.2.length → slots + s0 = mn_slots t.2.2.2 →
    W p l e R s m args below meth c H locs cells slots Q (F0 m t.1 lsr (t.2.2.1.map (mv_tr (base + ·) b)))
theorem mn_Pc_blind {c0 : Nat} {W : List mn_C} : FrameBlind (mn_Pc base aC D b c0 W) := by
  intro a U g mk h
  obtain ⟨h1, h2, h3, h4, h5, h6, h7, h8⟩ := h
  exact ⟨h1, h2, h3, mn_Ka_moved (u := U) (U := U.calling g mk a) (Vm.Alike.refl U.vm) h4, va_K.moved (u := U) (U := U.calling g mk a) (Vm.Alike.refl U.vm) h5, fun w hw hn => va_Nw.same (mv_isN_tab hn) (u := U) (U := U.calling g mk a) rfl (h6 w hw hn), fun k q1 q2 => va_AO.moved (u := U) (U := U.calling g mk a) (Vm.Alike.refl U.vm) (h7 k q1 q2), mn_aC_moved (u := U) (U := U.calling g mk a) (Vm.Alike.refl U.vm) h8⟩
theorem mn_e_o {x : mn_C} (h : x.1 < 20) : mn_e base aC b x = .inr (x.1, x.2.1.map (mv_tr (base + ·) b)) := by unfold mn_e; rw [if_pos h]
theorem mn_e_i {x : mn_C} (h1 : ¬ x.1 < 20) (h2 : x.1 < 23) : mn_e base aC b x = .inl (aC x.1, x.2.2.1, .inl (fun j => (mn_lu x.2.2.2.1 j).getD 0)) := by unfold mn_e; rw [if_neg h1, if_pos h2]
theorem mn_e_l {x : mn_C} (h1 : x.1 = 23) : mn_e base aC b x = .inl (aC x.1, x.2.2.1, .inr (.inl (fun _ => 0))) := by unfold mn_e; rw [if_neg (by omega), if_neg (by omega), if_pos h1]
theorem mn_e_r {x : mn_C} (h1 : 24 ≤ x.1) : mn_e base aC b x = .inl (aC x.1, x.2.2.1, .inr (.inr (.inr (.inr (fun j => (mn_lu x.2.2.2.2 j).map (base + ·)))))) := by unfold mn_e; rw [if_neg (by omega), if_neg (by omega), if_neg (by omega)]
theorem mn_Ka_app {W : List mn_C} {x : mn_C} (h : mn_Ka aC W s) (hx : ¬ x.1 < 20 → x.1 < 27 ∧ ArrOfT s (aC x.1) (mn_ty x.1) ∧ va_RA s (aC x.1) (mn_ty x.1)) : mn_Ka aC (W ++ [x]) s := by
  intro q hq
  rcases List.mem_append.mp hq with h1 | h1
  · exact h q h1
  · rcases List.mem_singleton.mp h1 with rfl
    exact hx
theorem mn_Ka_set {W : List mn_C} {c0 : Nat} {q x : mn_C} (h : mn_Ka aC W s) (hq : W[c0]? = some q) (hx : x.1 = q.1) : mn_Ka aC (W.set c0 x) s := by
  intro z hz
  rcases List.mem_or_eq_of_mem_set hz with h1 | rfl
  · exact h z h1
  · rw [hx]
    exact h q (List.mem_of_getElem? hq)
theorem mn_K1 (C : va_K D mv_cl [] s) {k : Nat} {ty : FieldType} (h1 : ArrOfT s (aC k) ty) (h2 : va_RA s (aC k) ty) : va_K D mv_cl [(aC k, ty)] s := by
  refine ⟨C.1, fun i q hq => ?_⟩
  have hz : i < 1 := (List.getElem?_eq_some_iff.mp hq).1
  rw [show i = 0 by omega] at hq
  cases hq
  exact ⟨h1, h2⟩
/-- the heap ends where the cells end -/
theorem mn_size {H : Heap} {locs : List Loc} {cells slots : Nat} {g : JFrame} {Wd : List mn_C} {k0 : Nat} (hk0 : s.heap.size = base + k0) (hP : va_P D mv_cl (mn_w base aC b Wd) H) (hS : va_S (mn_A base) s.heap H locs) (hce : cells + k0 = Wd.length)
    (kk : H.size = base + Wd.length → W p l e R s m args below meth c H locs cells slots Q g) : W p l e R s m args below meth c H locs cells slots Q g := by
  intro T hT X
  refine kk ?_ T hT X
  have h1 : H.size ≤ s.heap.size + cells := by rw [← hT]; exact X.heapSize
  have h2 : base + Wd.length ≤ H.size := by
    cases hw : Wd.length with
    | zero => have := hS.1; omega
    | succ n =>
      have hl : n < Wd.length := by omega
      have h3 := (hP n _ (mn_w_at (List.getElem?_eq_getElem hl))).lt
      have h4 : base + n < H.size := h3
      omega
  omega
end MNS
