section MSO
variable {p : Program} {l : Launch} {e : Env} {R : Room} {s : State} {m : MethodId} {args : Array Value} {below : List Frame} {meth : Method} {c : Code} {Q : State → Prop} {cells slots : Nat}
variable {f : Nat} {ad : Nat → Nat} {aC : Nat → ClassId} {D : va_G} {b : Nat} {X : mv_X} {rm : Room} {call : Nat → List Value → mv_S → mv_Q → Prop}
/-- what a call's contract must be -/
def mv_Calls (l : Launch) (ad : Nat → Nat) (aC : Nat → ClassId) (D : va_G) (b : Nat) (X : mv_X) (rm : Room) (call : Nat → List Value → mv_S → mv_Q → Prop) : Prop :=
  ∀ (g : Nat) (as : List Value) (σ : mv_S) (P : mv_Q), g < 244 → call g as σ P → Met l (mv_N g).1 (mv_wsf g) rm (mv_Pc ad aC D b X as σ) (mv_Qc ad aC D b P) 0 0 (mv_A ad)
def mv_Room (rm R : Room) : Prop := rm.cells = 0 ∧ rm.slots = 0 ∧ rm.frames + 1 ≤ R.frames ∧ rm.locals + 64 ≤ R.locals
def mv_Cnt (cells slots : Nat) (R : Room) : Prop := cells ≤ R.cells ∧ slots ≤ R.slots
def mv_Okc : Prop := ∀ g, g < 244 → mv_okc g = true ∧ (mv_N g).2.2.1 ≤ 40
theorem mv_okc_at {g : Nat} (h : mv_Okc) (hg : g < 244) : Jvm.Cond.code (mv_N g).1 (mv_N g).2.1 (mv_N g).2.2.1 (mv_N g).2.2.2 ∈ mv_ts ∧ Jvm.Cond.initialized (mv_N g).1.cls ∈ mv_ts ∧ (mv_N g).1.cls ≠ "java/lang/invoke/MethodHandle" ∧ (mv_N g).1.cls ≠ "java/lang/invoke/VarHandle" := by
  have h1 := (h g hg).1
  unfold mv_okc at h1
  simp only [Bool.and_eq_true, decide_eq_true_eq] at h1
  exact ⟨mv_ts_of (mv_has_mem h1.1.1.1) rfl, mv_ts_of (mv_has_mem h1.1.1.2) rfl, h1.1.2, h1.2⟩
theorem mv_wsf_good {g : Nat} (h : mv_Okc) (hg : g < 244) : GoodIn mv_ts (mv_wsf g) := by
  intro w hw
  rcases List.mem_cons.mp hw with rfl | hw
  · exact ⟨(mv_okc_at h hg).1, mv_ts_good (mv_okc_at h hg).1⟩
  · exact ⟨hw, mv_ts_good hw⟩
theorem mv_room_at {g : Nat} (h : mv_Okc) (hg : g < 244) (hr : mv_Room rm R) : rm.frames + 1 ≤ R.frames ∧ 8 + ((mv_N g).2.2.1 + 11) + rm.locals ≤ R.locals := by
  have h1 := (h g hg).2
  exact ⟨hr.2.2.1, by have := hr.2.2.2; omega⟩
/-- what comes back of a call goes on -/
theorem mv_cont_e {K : mv_K} {rk pc : Nat} {ls r : List Value} {σ : mv_S} {a : Option Value} (h : mv_cont rk a fun v => K pc ls (v ++ r) σ) : K pc ls (a.toList ++ r) σ := by
  unfold mv_cont at h
  split at h
  · obtain ⟨rfl, h⟩ := h
    exact h
  · obtain ⟨v, rfl, h⟩ := h
    exact h
  · obtain ⟨v, rfl, h⟩ := h
    exact h
  · obtain ⟨v, rfl, h⟩ := h
    exact h
  · rcases h with ⟨rfl, h⟩ | ⟨v, rfl, h⟩
    · exact h
    · exact h
theorem mv_toList (ad : Nat → Nat) (b : Nat) (a : Option Value) (r : List Value) : (a.map (mv_tr ad b)).toList ++ r.map (mv_tr ad b) = (a.toList ++ r).map (mv_tr ad b) := by
  cases a <;> simp
set_option maxHeartbeats 4000000 in
theorem mv_so_inv {rk pc idx len : Nat} {v : Int32} {w : Int64} {inf : List Nat} {ls st : List Value} {σ : mv_S} (st0 : Bool) (C : mv_Cx p s m args c f ad aC D b X) (hc : mv_Calls l ad aC D b X rm call) (hr : mv_Room rm R) (hcn : mv_Cnt cells slots R) (hokc : mv_Okc)
    (hd : decode (mv_N f).2.1 pc = .ok (if st0 then .invokestatic idx else .invokevirtual idx, 3)) (hch : mv_chk (mv_own f) pc (if st0 then .invokestatic idx else .invokevirtual idx, len, inf, v, w) = true)
    (h : mv_inv call pc inf ls st σ (mv_Zr p l e R s m args below meth c f ad aC D b cells slots Q)) : mv_Zr p l e R s m args below meth c f ad aC D b cells slots Q pc ls st σ := by
  intro lsr H locs hl hP hS
  have hlsz : lsr.size = c.maxLocals := by rw [C.2.2.1]; exact hl.2.1
  have F : CallFix p m c (mv_N f).2.1 c.maxLocals s args mv_ts (mv_own f) := ⟨C.1, C.2.1, rfl, C.2.2.2.1, C.2.2.2.2.1⟩
  have hts := C.2.2.2.2.1
  unfold mv_inv at h
  split at h
  · -- static
    rename_i g n rk2
    obtain ⟨as, r, rfl, hn, h⟩ := mv_pop_e _ _ _ h
    rw [List.append_nil] at h
    split at h
    · rename_i hcat
      cases st0 with
      | false => exact absurd (show false = true from hch) (by decide)
      | true =>
        have hch1 : (decide (g < 244) && mv_at w (.methodLink (mv_own f) idx (mv_N g).1) && mv_has (mv_pos g).2.2.1 (.static (mv_N g).1) && decide (mv_nps g = some n) && decide (mv_rko (mv_N g).2.2.2 = rk2)) = true := hch
        simp only [Bool.and_eq_true, decide_eq_true_eq] at hch1
        obtain ⟨⟨⟨⟨hg, hlk⟩, hst⟩, hnp⟩, -⟩ := hch1
        obtain ⟨hcode, hini, hn1, hn2⟩ := mv_okc_at hokc hg
        have cw : CallB R s args (mv_own f) idx (mv_N g).1 (mv_N g).2.1 (mv_N g).2.2.1 (mv_N g).2.2.2 (mv_wsf g) rm 0 0 n ∧ (Jvm.Cond.static (mv_N g).1).before args s = true :=
          ⟨callB_of n hts (mv_wsf_good hokc hg) rfl hr.1 hr.2.1 (hts _ hini) (hts _ (mv_ts_of (mv_has_mem hlk) rfl)) ⟨hn1, hn2, hnp⟩ (mv_room_at hokc hg hr), hts _ (mv_ts_of (mv_has_mem hst) rfl)⟩
        refine mv_back (va_runS (As := as.reverse.map (mv_tr ad b)) (rest := r.map (mv_tr ad b)) F (hc g as.reverse σ _ hg h) cw ⟨mv_Pc_blind, fun U hU hW => mv_Pc_at C hP hS U hU hW⟩ rfl (by rw [List.length_map, List.length_reverse]; exact hn) hlsz (by rw [← List.map_reverse, List.reverse_reverse, ← List.map_append]) (by show 2 * 0 + _ ≤ 8; rw [mv_cat_tr]; have := Nat.le_of_ble_eq_true hcat; omega) hd hcn) hS ?_
        intro a σ1 H1 locs1 ha hP1 hS1
        rw [mv_toList]
        exact mv_cont_e ha lsr H1 locs1 hl hP1 hS1
    · exact h.elim
  · -- Math.max
    split at h
    · rename_i y x r
      split at h
      · rename_i hcat
        cases st0 with
        | false => exact absurd (show false = true from hch) (by decide)
        | true =>
          have hch1 : mv_at w (.methodLink (mv_own f) idx Lib.Math.max.name) = true := hch
          have hx := mv_facts_max
          exact va_mmax C.1 C.2.1 hlsz.symm C.2.2.2.1 (hts _ (mv_ts_of (mv_has_mem hch1) rfl)) (hts _ hx.1) (hts _ hx.2.1) (hts _ hx.2.2) (by have := hr.2.2.1; omega) (by rw [mv_cat_tr]; have := Nat.le_of_ble_eq_true hcat; have := hr.2.2.2; omega) hcn.1 hcn.2 hd (h lsr H locs hl hP hS)
      · exact h.elim
    · exact h.elim
  · -- Math.min
    split at h
    · rename_i y x r
      split at h
      · rename_i hcat
        cases st0 with
        | false => exact absurd (show false = true from hch) (by decide)
        | true =>
          have hch1 : mv_at w (.methodLink (mv_own f) idx Lib.Math.min.name) = true := hch
          have hx := mv_facts_min
          exact va_mmin C.1 C.2.1 hlsz.symm C.2.2.2.1 (hts _ (mv_ts_of (mv_has_mem hch1) rfl)) (hts _ hx.1) (hts _ hx.2.1) (hts _ hx.2.2) (by have := hr.2.2.1; omega) (by rw [mv_cat_tr]; have := Nat.le_of_ble_eq_true hcat; have := hr.2.2.2; omega) hcn.1 hcn.2 hd (h lsr H locs hl hP hS)
      · exact h.elim
    · exact h.elim
  · -- by the receiver's class
    rename_i g n rk2 ci
    obtain ⟨as, r, rfl, hn, h⟩ := mv_pop_e _ _ _ h
    rw [List.append_nil] at h
    split at h
    · rename_i c0 as0 hcat has
      cases st0 with
      | true => exact absurd (show false = true from hch) (by decide)
      | false =>
        have hch1 : (decide (g < 244) && decide (ci < 13) && decide ((mv_N g).1.cls = mv_clC ci) && mv_at w (.methodLink (mv_own f) idx (mv_N g).1) && mv_has (mv_pos g).2.2.2.1 (.selects (mv_N g).1.cls (mv_N g).1 (mv_N g).1) && mv_has (mv_pos g).2.2.1 (.instanceMethod (mv_N g).1) && decide (mv_nps g = some (n - 1)) && decide (1 ≤ n) && decide (mv_rko (mv_N g).2.2.2 = rk2)) = true := hch
        simp only [Bool.and_eq_true, decide_eq_true_eq] at hch1
        obtain ⟨⟨⟨⟨⟨⟨⟨⟨hg, hci⟩, hcls⟩, hlk⟩, hsel⟩, hin⟩, hnp⟩, hn0⟩, -⟩ := hch1
        obtain ⟨hcode, hini, hn1, hn2⟩ := mv_okc_at hokc hg
        obtain ⟨hsh, h⟩ := h
        have hc0 : c0 < 96 := mv_sh_in hsh (by omega)
        have cw : CallW R s args (mv_own f) (mv_N g).1.cls idx (mv_N g).1 (mv_N g).2.1 (mv_N g).2.2.1 (mv_N g).2.2.2 (mv_wsf g) rm 0 0 (n - 1) :=
          ⟨callB_of (n - 1) hts (mv_wsf_good hokc hg) rfl hr.1 hr.2.1 (hts _ hini) (hts _ (mv_ts_of (mv_has_mem hlk) rfl)) ⟨hn1, hn2, hnp⟩ (mv_room_at hokc hg hr), hts _ (mv_ts_of (mv_has_mem hin) rfl), hts _ (mv_ts_of (mv_has_mem hsel) rfl)⟩
        have hrec : ∃ cellB : Cell, H[ad c0]? = some cellB ∧ cellB.vm.isStatics = false ∧ s.vm.findClass (mv_N g).1.cls = some cellB.cls := by
          have h1 := hP c0 _ (mv_w_at hc0)
          rw [mv_cell_o hsh (by omega)] at h1
          obtain ⟨q, hq, cell, q1, q2, q3, -⟩ := h1
          rw [mv_cl_at hci] at hq
          cases hq
          refine ⟨cell, q1, by rw [q3]; rfl, ?_⟩
          rw [hcls, q2]
          exact ((C.2.2.2.2.2.2.1).1 ci _ (mv_cl_at hci)).2.1
        have e1 : as = as0.reverse ++ [.ref c0] := by
          have := congrArg List.reverse has
          rw [List.reverse_reverse, List.reverse_cons] at this
          exact this
        have e2 : as0.length = n - 1 := by
          rw [e1, List.length_append, List.length_reverse] at hn
          have : as0.length + 1 = n := hn
          omega
        refine mv_back (va_runV (b := ad c0) (As := as0.map (mv_tr ad b)) (rest := r.map (mv_tr ad b)) F (hc g as.reverse σ _ hg h) cw ⟨mv_Pc_blind, hrec, fun U hU hW => ?_⟩ rfl (by rw [List.length_map]; exact e2) hlsz (by rw [e1, ← List.map_reverse, List.append_assoc, List.map_append]; rfl) (by show 2 * 0 + _ ≤ 8; rw [mv_cat_tr]; have := Nat.le_of_ble_eq_true hcat; omega) hd hcn) hS ?_
        · have h2 := mv_Pc_at C (as := as.reverse) hP hS U hU hW
          rw [has] at h2 ⊢
          exact h2
        · intro a σ1 H1 locs1 ha hP1 hS1
          rw [mv_toList]
          exact mv_cont_e ha lsr H1 locs1 hl hP1 hS1
    · exact h.elim
  · -- an abstract method's
    rename_i g n rk2 ci g2 cj
    obtain ⟨as, r, rfl, hn, h⟩ := mv_pop_e _ _ _ h
    rw [List.append_nil] at h
    split at h
    · rename_i c0 as0 hcat has
      cases st0 with
      | true => exact absurd (show false = true from hch) (by decide)
      | false =>
        have hch1 : (decide (g < 244) && decide (g2 < 244) && decide (n = 2) && decide (mv_rko (mv_N g).2.2.2 = rk2) && decide (mv_rko (mv_N g2).2.2.2 = rk2) && decide (mv_nps g = some 1) && decide (mv_nps g2 = some 1) && mv_at w (.methodLink (mv_own f) idx mv_taker) && decide ((mv_N g).1.cls = mv_clC ci) && decide ((mv_N g2).1.cls = mv_clC cj) &&
          mv_has (mv_pos g).2.2.2.2 (.selects (mv_clC ci) mv_taker (mv_N g).1) && mv_has (mv_pos g2).2.2.2.2 (.selects (mv_clC cj) mv_taker (mv_N g2).1) && mv_has (mv_pos g).2.2.1 (.instanceMethod (mv_N g).1) && mv_has (mv_pos g2).2.2.1 (.instanceMethod (mv_N g2).1) && decide (ci < 13) && decide (cj < 13)) = true := hch
        simp only [Bool.and_eq_true, decide_eq_true_eq] at hch1
        obtain ⟨⟨⟨⟨⟨⟨⟨⟨⟨⟨⟨⟨⟨⟨⟨hg, hg2⟩, hn2⟩, -⟩, -⟩, hnp⟩, hnp2⟩, hlk⟩, hcls⟩, hcls2⟩, hsel⟩, hsel2⟩, hin⟩, hin2⟩, hci⟩, hcj⟩ := hch1
        have e1 : as = as0.reverse ++ [.ref c0] := by
          have := congrArg List.reverse has
          rw [List.reverse_reverse, List.reverse_cons] at this
          exact this
        have e2 : as0.length = 1 := by
          rw [e1, List.length_append, List.length_reverse] at hn
          have : as0.length + 1 = n := hn
          omega
        have go : ∀ (g : Nat) (ci : Nat), g < 244 → ci < 13 → (mv_N g).1.cls = mv_clC ci → mv_has (mv_pos g).2.2.2.2 (.selects (mv_clC ci) mv_taker (mv_N g).1) = true → mv_has (mv_pos g).2.2.1 (.instanceMethod (mv_N g).1) = true → mv_sh c0 = ci → (call g as.reverse σ fun a σ' => mv_cont rk2 a fun v => mv_Zr p l e R s m args below meth c f ad aC D b cells slots Q (pc + 3) ls (v ++ r) σ') → W p l e R s m args below meth c H locs cells slots Q (F0 m pc lsr ((as ++ r).map (mv_tr ad b))) := by
          intro g ci hg hci hcls hsel hin hsh h
          obtain ⟨hcode, hini, hn1, hn2⟩ := mv_okc_at hokc hg
          have hc0 : c0 < 96 := mv_sh_in hsh (by omega)
          have cw : va_CU R s args (mv_own f) (mv_clC ci) "WordMonoids$Taker" idx mv_taker (mv_N g).1 (mv_N g).2.1 (mv_N g).2.2.1 (mv_N g).2.2.2 (mv_wsf g) rm 0 0 1 := by
            refine va_cwA 1 hts ?_ rfl hr.1 hr.2.1 (C.2.2.2.2.2.1 _ mv_facts_dec rfl) ⟨by decide, by decide, by decide +kernel⟩ (mv_room_at hokc hg hr)
            intro w hw
            rcases List.mem_append.mp (show w ∈ ([.methodLink (mv_own f) idx mv_taker, .sameMethod mv_taker.cls "WordMonoids$Taker" mv_taker.name mv_taker.desc, .selects (mv_clC ci) mv_taker (mv_N g).1, .instanceMethod (mv_N g).1, .initialized (mv_N g).1.cls] : List Jvm.Cond) ++ mv_wsf g from hw) with hw | hw
            · have : w ∈ mv_ts := by
                rcases List.mem_cons.mp hw with rfl | hw
                · exact mv_ts_of (mv_has_mem hlk) rfl
                rcases List.mem_cons.mp hw with rfl | hw
                · exact mv_ts_of mv_facts_same rfl
                rcases List.mem_cons.mp hw with rfl | hw
                · exact mv_ts_of (mv_has_mem hsel) rfl
                rcases List.mem_cons.mp hw with rfl | hw
                · exact mv_ts_of (mv_has_mem hin) rfl
                rcases List.mem_cons.mp hw with rfl | hw
                · exact hini
                · cases hw
              exact ⟨this, mv_ts_good this⟩
            · exact mv_wsf_good hokc hg w hw
          have hrec : ∃ cellB : Cell, H[ad c0]? = some cellB ∧ cellB.vm.isStatics = false ∧ s.vm.findClass (mv_clC ci) = some cellB.cls := by
            have h1 := hP c0 _ (mv_w_at hc0)
            rw [mv_cell_o hsh (by omega)] at h1
            obtain ⟨q, hq, cell, q1, q2, q3, -⟩ := h1
            rw [mv_cl_at hci] at hq
            cases hq
            refine ⟨cell, q1, by rw [q3]; rfl, ?_⟩
            rw [q2]
            exact ((C.2.2.2.2.2.2.1).1 ci _ (mv_cl_at hci)).2.1
          refine mv_back (va_runU (b := ad c0) (As := as0.map (mv_tr ad b)) (rest := r.map (mv_tr ad b)) F (hc g as.reverse σ _ hg h) cw ⟨mv_Pc_blind, hrec, fun U hU hW => ?_⟩ rfl (by rw [List.length_map]; exact e2) hlsz (by rw [e1, ← List.map_reverse, List.append_assoc, List.map_append]; rfl) (by show 2 * 0 + _ ≤ 8; rw [mv_cat_tr]; have := Nat.le_of_ble_eq_true hcat; omega) hd hcn) hS ?_
          · have h2 := mv_Pc_at C (as := as.reverse) hP hS U hU hW
            rw [has] at h2 ⊢
            exact h2
          · intro a σ1 H1 locs1 ha hP1 hS1
            rw [mv_toList]
            exact mv_cont_e ha lsr H1 locs1 hl hP1 hS1
        rcases h with ⟨hsh, h⟩ | ⟨hsh, h⟩
        · exact go g ci hg hci hcls hsel hin hsh h
        · exact go g2 cj hg2 hcj hcls2 hsel2 hin2 hsh h
    · exact h.elim
  · -- arraycopy
    rename_i ty
    split at h
    · rename_i n dp c1 sp c0 r
      split at h
      · rename_i hcat
        cases st0 with
        | false => exact absurd (show false = true from hch) (by decide)
        | true =>
          have hch1 : (mv_at w (.methodLink (mv_own f) idx arraycopyName) && decide (ty = 20 ∨ ty = 22)) = true := hch
          simp only [Bool.and_eq_true, decide_eq_true_eq] at hch1
          obtain ⟨⟨hs1, hs0, h1, h2, h3, h4, h5, hfit⟩, h⟩ := h
          have hx := mv_facts_copy
          have hc1 : c1 < 96 := mv_sh_in hs1 (by omega)
          have hc0 : c0 < 96 := mv_sh_in hs0 (by omega)
          have a0 : (mv_w ad aC σ)[c0]? = some (ad c0, .inl (aC ty, mv_ln c0, .inl (σ.1 c0))) := by rw [mv_w_at hc0, mv_cell_i hs0 (by omega) (by omega)]
          have a1 : (mv_w ad aC σ)[c1]? = some (ad c1, .inl (aC ty, mv_ln c1, .inl (σ.1 c1))) := by rw [mv_w_at hc1, mv_cell_i hs1 (by omega) (by omega)]
          have ht : ∃ t0 : Nat, (mv_tys aC)[t0]? = some (aC ty, mv_ty ty) := by
            rcases hch1.2 with rfl | rfl
            · exact ⟨0, rfl⟩
            · exact ⟨2, rfl⟩
          obtain ⟨t0, ht⟩ := ht
          refine va_copyi C.1 C.2.1 hlsz.symm C.2.2.2.1 (hts _ (mv_ts_of (mv_has_mem hch1.1) rfl)) (hts _ hx.1) (hts _ hx.2.1) (hts _ hx.2.2) C.2.2.2.2.2.2.1 hP (mv_w_D C.2.2.2.2.2.2.2.1) hS c0 c1 t0 t0 a0 a1 ht ht (by rcases hch1.2 with rfl | rfl <;> rfl) h1 h2 h3 h4 h5 hfit (by have := hr.2.2.1; omega) (by rw [mv_cat_tr]; have := Nat.le_of_ble_eq_true hcat; have := hr.2.2.2; have e9 : nativeFrameWords "java/lang/System" "arraycopy" 5 ≤ 20 := (by decide +kernel); omega) hd ?_
          intro H1 locs1 hP1 hD1 hS1
          refine h lsr H1 locs1 hl ?_ hS1
          have e := mv_w_set (ad := ad) (aC := aC) (σ := σ) (σ' := (fun c' k => if c' = c1 then va_cpy (σ.1 c0) (σ.1 c1) sp.toNatClampNeg dp.toNatClampNeg n.toNatClampNeg k else σ.1 c' k, σ.2)) (c := c1) (y := .inl (aC ty, mv_ln c1, .inl (va_cpy (σ.1 c0) (σ.1 c1) sp.toNatClampNeg dp.toNatClampNeg n.toNatClampNeg))) hc1 (by
            rw [mv_cell_i hs1 (by omega) (by omega)]
            congr 4
            funext k
            simp) (fun j hj => ⟨by funext k; simp [hj], rfl⟩)
          rw [← e]
          exact hP1
      · exact h.elim
    · exact h.elim
  · exact h.elim
end MSO
