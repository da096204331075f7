/-! what the tables say, by the facts -/
theorem mv_okm_at {f pc : Nat} {x : mv_I} (hok : mv_okm f = true) (hlk : mv_lk (mv_P f).2.2 pc = some x) : decode (mv_N f).2.1 pc = .ok (x.1, mv_len x.1 x.2.1) ∧ mv_chk (mv_own f) pc x = true := by
  unfold mv_okm at hok
  simp only [Bool.and_eq_true] at hok
  have h := List.all_eq_true.mp hok.1.1.1.1 _ (mv_lk_mem _ hlk)
  simp only [Bool.and_eq_true, decide_eq_true_eq] at h
  exact h
theorem mv_okm_rk {f : Nat} (hok : mv_okm f = true) : (mv_P f).1 = (mv_N f).2.2.1 ∧ (mv_P f).2.1 = mv_rko (mv_N f).2.2.2 ∧ (mv_N f).2.2.1 ≤ 40 ∧ Jvm.plainName (mv_N f).1.cls = true := by
  unfold mv_okm at hok
  simp only [Bool.and_eq_true, decide_eq_true_eq] at hok
  exact ⟨hok.1.1.1.2, hok.1.1.2, hok.1.2, hok.2⟩
theorem mv_has_mem {q : Nat} {w : Jvm.Cond} (h : mv_has q w = true) : w ∈ lw_tbl := List.mem_of_getElem? (of_decide_eq_true h)
theorem mv_ts_of {w : Jvm.Cond} (h : w ∈ lw_tbl) (hg : goodWord w = true) : w ∈ mv_ts := List.mem_filter.mpr ⟨h, hg⟩
theorem mv_ts_good {w : Jvm.Cond} (h : w ∈ mv_ts) : (w.onTables && w.keeps) = true ∨ ∃ ty, w = .arrayClass ty := good_of_word (List.mem_filter.mp h).2
def mv_wsf (g : Nat) : List Jvm.Cond := Jvm.Cond.code (mv_N g).1 (mv_N g).2.1 (mv_N g).2.2.1 (mv_N g).2.2.2 :: mv_ts
theorem mv_isN_tab {w : Jvm.Cond} (h : mv_isN w = true) : w.onTables = true := by
  cases w <;> first | rfl | (exact absurd h (by decide)) | (exact absurd (show false = true from h) (by decide))
theorem mv_isN_warm {w : Jvm.Cond} {s U : State} (h : mv_isN w = true) (hW : s.WarmedH U.vm) (hz : va_Nw w s) : va_Nw w U := by
  cases w <;> first | exact va_Nw.warmF hW hz | exact va_Nw.warmM hW hz | exact va_Nw.warmD hW hz | (exact absurd (show false = true from h) (by decide))
theorem mv_uws {ci : Nat} (h : ci < 13) : ∀ w ∈ u_ws (mv_clC ci) (mv_clT ci) (mv_clN ci), w ∈ mv_ts := by
  intro w hw
  have h1 := List.all_eq_true.mp (List.all_eq_true.mp mv_uws_b ci (List.mem_range.mpr h)) w hw
  simp only [Bool.and_eq_true, decide_eq_true_eq] at h1
  exact mv_ts_of h1.1 h1.2
theorem mv_cl_at {ci : Nat} (h : ci < 13) : mv_cl[ci]? = some (mv_clC ci, mv_clT ci, mv_clN ci) := by
  unfold mv_clC mv_clT mv_clN
  rw [List.getD_eq_getElem?_getD, List.getElem?_eq_getElem (show ci < mv_cl.length from h)]
  rfl
theorem mv_cl_ok {ci : Nat} (h : ci < 13) : ∃ ty0 : Nat → FieldType, (∀ k, k < mv_clN ci → parseFieldDescriptor (mv_clT ci k).2.2.1 = some (ty0 k)) ∧ ∀ a, a < mv_clN ci → ∀ b, b < mv_clN ci → a ≠ b → (mv_clT ci a).2.1 ≠ (mv_clT ci b).2.1 := by
  match ci, h with
  | 0, _ => exact ⟨tyX0, tyX0_ok, nmX0⟩
  | 1, _ => exact ⟨tyX1, tyX1_ok, nmX1⟩
  | 2, _ => exact ⟨tyX2, tyX2_ok, nmX2⟩
  | 3, _ => exact ⟨tyX3, tyX3_ok, nmX3⟩
  | 4, _ => exact ⟨tyX4, tyX4_ok, nmX4⟩
  | 5, _ => exact ⟨tyX5, tyX5_ok, nmX5⟩
  | 6, _ => exact ⟨tyX6, tyX6_ok, nmX6⟩
  | 7, _ => exact ⟨tyX7, tyX7_ok, nmX7⟩
  | 8, _ => exact ⟨tyX8, tyX8_ok, nmX8⟩
  | 9, _ => exact ⟨tyX0, tyX0_ok, nmX0⟩
  | 10, _ => exact ⟨tyX10, tyX10_ok, nmX10⟩
  | 11, _ => exact ⟨tyX11, tyX11_ok, nmX11⟩
  | 12, _ => exact ⟨tyX12, tyX12_ok, nmX12⟩
theorem mv_aty {aC : Nat → ClassId} {k : Nat} (h1 : 20 ≤ k) (h2 : k < 27) : ∃ (t0 : Nat) (ty : FieldType), (mv_tys aC)[t0]? = some (aC k, ty) := by
  have h : k = 20 ∨ k = 21 ∨ k = 22 ∨ k = 23 ∨ k = 24 ∨ k = 25 ∨ k = 26 := by omega
  rcases h with rfl | rfl | rfl | rfl | rfl | rfl | rfl
  · exact ⟨0, _, rfl⟩
  · exact ⟨1, _, rfl⟩
  · exact ⟨2, _, rfl⟩
  · exact ⟨3, _, rfl⟩
  · exact ⟨4, _, rfl⟩
  · exact ⟨5, _, rfl⟩
  · exact ⟨6, _, rfl⟩
theorem mv_atyR {aC : Nat → ClassId} {k : Nat} (h1 : 24 ≤ k) (h2 : k < 27) : ∃ (t0 : Nat) (C : String), (mv_tys aC)[t0]? = some (aC k, FieldType.object C) := by
  have h : k = 24 ∨ k = 25 ∨ k = 26 := by omega
  rcases h with rfl | rfl | rfl
  · exact ⟨4, _, rfl⟩
  · exact ⟨5, _, rfl⟩
  · exact ⟨6, _, rfl⟩
theorem mv_sh_27 (c : Nat) : mv_sh c < 27 := by
  have h : ∀ q ∈ mv_shL, q < 27 := by decide
  by_cases hc : c < 96
  · unfold mv_sh
    rw [List.getD_eq_getElem?_getD, List.getElem?_eq_getElem (show c < mv_shL.length from hc)]
    exact h _ (List.getElem_mem _)
  · rw [mv_sh_out hc]
    decide
/-! a frame of the method f -/
def mv_Cx (p : Program) (s : State) (m : MethodId) (args : Array Value) (c : Code) (f : Nat) (ad : Nat → Nat) (aC : Nat → ClassId) (D : va_G) (b : Nat) (X : mv_X) : Prop :=
  p.tables.exec = Jvm.exec ∧ c.code = (mv_N f).2.1 ∧ c.maxLocals = (mv_P f).1 ∧ s.vm.findClass (mv_own f) = some m.cls ∧ (∀ w ∈ mv_ts, w.before args s = true) ∧ (∀ w ∈ lw_tbl, mv_isN w = true → va_Nw w s) ∧ va_K D mv_cl (mv_tys aC) s ∧ mv_inj ad ∧ va_X b X.1 X.2 s s.heap ∧ b < s.heap.size ∧ ¬ mv_A ad b
def mv_Zr (p : Program) (l : Launch) (e : Env) (R : Room) (s : State) (m : MethodId) (args : Array Value) (below : List Frame) (meth : Method) (c : Code) (f : Nat) (ad : Nat → Nat) (aC : Nat → ClassId) (D : va_G) (b : Nat) (cells slots : Nat) (Qr : State → Prop) : mv_K := fun pc ls st σ =>
  ∀ (lsr : Array Slot) (H : Heap) (locs : List Loc), mv_lr ad b (mv_P f).1 lsr ls → va_P D mv_cl (mv_w ad aC σ) H → va_S (mv_A ad) s.heap H locs → W p l e R s m args below meth c H locs cells slots Qr (F0 m pc lsr (st.map (mv_tr ad b)))
def mv_Pc (ad : Nat → Nat) (aC : Nat → ClassId) (D : va_G) (b : Nat) (X : mv_X) (as : List Value) (σ : mv_S) : Array Value → State → Prop := va_Pc (as.map (mv_tr ad b)) (fun U => va_P D mv_cl (mv_w ad aC σ) U.heap ∧ va_K D mv_cl (mv_tys aC) U ∧ (∀ w ∈ lw_tbl, mv_isN w = true → va_Nw w U) ∧ va_X b X.1 X.2 U U.heap ∧ b < U.heap.size)
def mv_Qc (ad : Nat → Nat) (aC : Nat → ClassId) (D : va_G) (b : Nat) (P : mv_Q) : Array Value → State → Outcome → State → Prop := fun _ st oc t => (∃ r σ, oc = .returned (r.map (mv_tr ad b)) ∧ P r σ ∧ va_P D mv_cl (mv_w ad aC σ) t.heap) ∧ va_F (mv_A ad) st t
section MS
variable {p : Program} {l : Launch} {e : Env} {R : Room} {s : State} {m : MethodId} {args : Array Value} {below : List Frame} {meth : Method} {c : Code} {H : Heap} {locs : List Loc} {Q : State → Prop} {cells slots : Nat}
variable {f : Nat} {ad : Nat → Nat} {aC : Nat → ClassId} {D : va_G} {b : Nat} {X : mv_X} {rm : Room}
theorem mv_Pc_blind {as : List Value} {σ : mv_S} : FrameBlind (mv_Pc ad aC D b X as σ) := by
  intro a U g mk h
  obtain ⟨h1, h2, h3, h4, h5, h6⟩ := h
  exact ⟨h1, h2, va_K.moved (u := U) (U := U.calling g mk a) (Vm.Alike.refl U.vm) h3, fun w hw hn => va_Nw.same (mv_isN_tab hn) (u := U) (U := U.calling g mk a) rfl (h4 w hw hn), va_X.moved (u := U) (U := U.calling g mk a) (Vm.Alike.refl U.vm) h5, h6⟩
/-- the script is where it was -/
theorem mv_scr (C : mv_Cx p s m args c f ad aC D b X) (hS : va_S (mv_A ad) s.heap H locs) : va_X b X.1 X.2 s H ∧ b < H.size := by
  obtain ⟨-, -, -, -, -, -, -, -, h1, h2, h3⟩ := C
  exact ⟨h1.kept (hS.2.1 b h2 h3), Nat.lt_of_lt_of_le h2 hS.1⟩
theorem mv_Pc_at (C : mv_Cx p s m args c f ad aC D b X) {as : List Value} {σ : mv_S} (hP : va_P D mv_cl (mv_w ad aC σ) H) (hS : va_S (mv_A ad) s.heap H locs) (U : State) (hU : U.heap = H) (hW : s.WarmedH U.vm) : mv_Pc ad aC D b X as σ (as.map (mv_tr ad b)).toArray U := by
  obtain ⟨h1, h2⟩ := mv_scr C hS
  obtain ⟨-, -, -, -, -, hn, hK, -⟩ := C
  exact ⟨rfl, by rw [hU]; exact hP, va_K.moved hW.alike hK, fun w hw q => mv_isN_warm q hW (hn w hw q), by rw [hU]; exact va_X.moved hW.alike h1, by rw [hU]; exact h2⟩
/-- behind a call -/
theorem mv_back {P : mv_Q} {pc : Nat} {lsr : Array Slot} {st0 rest : List Value} {a : Array Value} (hr : va_Run p l e R s m args below meth c H locs cells slots 0 0 (F0 m pc lsr st0) rest (mv_Qc ad aC D b P a) (mv_A ad)) (hS : va_S (mv_A ad) s.heap H locs)
    (kk : ∀ (r : Option Value) (σ : mv_S) (H1 : Heap) (locs1 : List Loc), P r σ → va_P D mv_cl (mv_w ad aC σ) H1 → va_S (mv_A ad) s.heap H1 locs1 → W p l e R s m args below meth c H1 locs1 cells slots Q (F0 m (pc + 3) lsr ((r.map (mv_tr ad b)).toList ++ rest))) : W p l e R s m args below meth c H locs cells slots Q (F0 m pc lsr st0) := by
  intro T hT X0
  obtain ⟨v, st₀, t, T', L, h0, X', hL, e1, e2, ⟨⟨r, σ, hv, hp, hb⟩, hz, hk⟩, st⟩ := hr T hT X0
  cases hv
  rw [h0] at hz hk
  obtain ⟨t2, a1, b1⟩ := kk r σ T'.heap (locs ++ L) hp (by rw [e1]; exact hb)
    ⟨Nat.le_trans hS.1 (by rw [e1]; exact hz), fun q h1 h2 => by rw [e1, hk q (Nat.lt_of_lt_of_le h1 hS.1) h2]; exact hS.2.1 q h1 h2, fun q hq => by
      rcases List.mem_append.mp hq with h | h
      · exact hS.2.2 q h
      · exact hL q h⟩ T' rfl X'
  exact ⟨t2, st t2 a1, b1⟩
end MS
