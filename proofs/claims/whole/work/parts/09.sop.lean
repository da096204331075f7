theorem mv_pl_3 {σ : mv_S} {c k : Nat} {v : Int64} : (mv_pl σ c k v).2 c = vp_updL (σ.2 c) k v := by
  funext j
  unfold mv_pl vp_updL
  by_cases h : j = k
  · simp [h]
  · simp [h]
section MOP
variable {p : Program} {l : Launch} {e : Env} {R : Room} {s : State} {m : MethodId} {args : Array Value} {below : List Frame} {meth : Method} {c : Code} {Q : State → Prop} {cells slots : Nat}
variable {f : Nat} {ad : Nat → Nat} {aC : Nat → ClassId} {D : va_G} {b : Nat} {X : mv_X} {rm : Room} {call : Nat → List Value → mv_S → mv_Q → Prop}
/-- a method's ends -/
def mv_Rets (p : Program) (l : Launch) (e : Env) (R : Room) (s : State) (m : MethodId) (args : Array Value) (below : List Frame) (meth : Method) (c : Code) (f : Nat) (ad : Nat → Nat) (aC : Nat → ClassId) (D : va_G) (b : Nat) (cells slots : Nat) (Qr : State → Prop) (Q0 : mv_Q) : Prop :=
  ∀ (r : Option Value) (σ : mv_S) (H : Heap) (locs : List Loc) (pc : Nat) (lsr : Array Slot), Q0 r σ → va_P D mv_cl (mv_w ad aC σ) H → va_S (mv_A ad) s.heap H locs →
    ((r = none ∧ (mv_P f).2.1 = 0 ∧ decode (mv_N f).2.1 pc = .ok (.return_, 1)) ∨ (∃ v, r = some (.int v) ∧ ((mv_P f).2.1 = 1 ∨ ((mv_P f).2.1 = 2 ∧ (v = 0 ∨ v = 1))) ∧ decode (mv_N f).2.1 pc = .ok (.ireturn, 1)) ∨ (∃ v, r = some (.long v) ∧ (mv_P f).2.1 = 3 ∧ decode (mv_N f).2.1 pc = .ok (.lreturn, 1)) ∨ (∃ v, r = some v ∧ (v = .null ∨ ∃ c, v = .ref c) ∧ (mv_P f).2.1 = 4 ∧ decode (mv_N f).2.1 pc = .ok (.areturn, 1))) →
    W p l e R s m args below meth c H locs cells slots Qr (F0 m pc lsr (r.toList.map (mv_tr ad b)))
theorem mv_sw_tab {x : Int32} {Z : Nat → Prop} : ∀ (ts : List Nat) (v : Int32) (d : Nat), mv_sw x (mv_tab v ts) d Z → (∃ (k t : Nat), ts[k]? = some t ∧ x = v + Int32.ofNat k ∧ Z t) ∨ ((∀ k, k < ts.length → ¬ x = v + Int32.ofNat k) ∧ Z d)
  | [], _, _, h => Or.inr ⟨fun k hk => absurd hk (by simp), h⟩
  | t :: ts, v, d, h => by
    by_cases e : x = v
    · exact Or.inl ⟨0, t, rfl, by rw [e]; show v = v + 0; rw [Int32.add_zero], h.1 e⟩
    · rcases mv_sw_tab ts (v + 1) d (h.2 e) with ⟨k, t', h1, h2, h3⟩ | ⟨h1, h2⟩
      · refine Or.inl ⟨k + 1, t', h1, ?_, h3⟩
        rw [h2, Int32.add_assoc, Int32.add_comm 1, Int32.ofNat_add]
        rfl
      · refine Or.inr ⟨fun k hk => ?_, h2⟩
        cases k with
        | zero =>
          show ¬ x = v + 0
          rw [Int32.add_zero]
          exact e
        | succ k =>
          intro q
          refine h1 k (by simpa using hk) ?_
          rw [q, Int32.add_assoc, Int32.add_comm 1, Int32.ofNat_add]
          rfl
theorem mv_sw_zp {x : Int32} {Z : Nat → Prop} : ∀ (ps : List (Int32 × Nat)) (qs : List (Int × Int)) (pc : Int) (d : Nat) (dflt : Int), qs.map (fun q => (q.1, pc + q.2)) = ps.map (fun q => (q.1.toInt, (q.2 : Int))) → pc + dflt = (d : Int) → mv_sw x ps d Z → ∃ t : Nat, pc + Op.lookupswitch.offset qs dflt x.toInt = (t : Int) ∧ Z t
  | [], [], pc, d, dflt, _, hd, h => ⟨d, hd, h⟩
  | [], _ :: _, _, _, _, hm, _, _ => by simp at hm
  | _ :: _, [], _, _, _, hm, _, _ => by simp at hm
  | (v, t) :: ps, (a, o) :: qs, pc, d, dflt, hm, hd, h => by
    simp only [List.map_cons, List.cons.injEq, Prod.mk.injEq] at hm
    obtain ⟨⟨h1, h2⟩, h3⟩ := hm
    by_cases e : x = v
    · refine ⟨t, ?_, h.1 e⟩
      rw [← h2, e]
      simp [Op.lookupswitch.offset, h1]
    · obtain ⟨t', h4, h5⟩ := mv_sw_zp ps qs pc d dflt h3 hd (h.2 e)
      refine ⟨t', ?_, h5⟩
      rw [← h4]
      have : ¬ a = x.toInt := fun q => e (Int32.toInt_inj.mp (q.symm.trans h1))
      simp [Op.lookupswitch.offset, this]
set_option maxHeartbeats 8000000 in
theorem mv_so_op {Q0 : mv_Q} {pc : Nat} {x : mv_I} {ls st : List Value} {σ : mv_S} (C : mv_Cx p s m args c f ad aC D b X) (hc : mv_Calls l ad aC D b X rm call) (hr : mv_Room rm R) (hcn : mv_Cnt cells slots R) (hokc : mv_Okc) (hret : mv_Rets p l e R s m args below meth c f ad aC D b cells slots Q Q0)
    (hd : decode (mv_N f).2.1 pc = .ok (x.1, mv_len x.1 x.2.1)) (hch : mv_chk (mv_own f) pc x = true) (h : mv_op X call (mv_P f).2.1 Q0 pc x ls st σ (mv_Zr p l e R s m args below meth c f ad aC D b cells slots Q)) : mv_Zr p l e R s m args below meth c f ad aC D b cells slots Q pc ls st σ := by
  obtain ⟨ins, len, inf, v, w⟩ := x
  intro lsr H locs hl hP hS
  have hx := C.1
  have hb := C.2.1
  have hown := C.2.2.2.1
  have hts := C.2.2.2.2.1
  have hK := C.2.2.2.2.2.2.1
  have hD : ∀ σ', va_D (mv_A ad) (mv_w ad aC σ') := fun σ' => mv_w_D C.2.2.2.2.2.2.2.1
  have hlen := hl.1
  have hlv := hl.2
  cases ins <;> (delta mv_op at h; try dsimp only at h)
  case iconst n =>
    have hv := of_decide_eq_true hch
    exact lv_iconst hx hb hd hv (h lsr H locs hl hP hS)
  case bipush n =>
    have hv := of_decide_eq_true hch
    exact lv_bipush hx hb hd hv (h lsr H locs hl hP hS)
  case sipush n =>
    have hv := of_decide_eq_true hch
    exact lv_sipush hx hb hd hv (h lsr H locs hl hP hS)
  case ldc i =>
    simp only [mv_chk, decide_eq_true_eq] at hch
    have hv := hch
    exact lv_ldc hx hb hown (hts _ (mv_ts_of hv rfl)) hd (h lsr H locs hl hP hS)
  case ldc_w i =>
    simp only [mv_chk, decide_eq_true_eq] at hch
    have hv := hch
    exact lv_ldcw hx hb hown (hts _ (mv_ts_of hv rfl)) hd (h lsr H locs hl hP hS)
  case ldc2_w i =>
    simp only [mv_chk, decide_eq_true_eq] at hch
    have hv := hch
    exact lv_ldc2 hx hb hown (hts _ (mv_ts_of hv rfl)) hd (h lsr H locs hl hP hS)
  case lconst n =>
    have hv := of_decide_eq_true hch
    exact lv_lconst hx hb hd hv (h lsr H locs hl hP hS)
  case aconst_null =>
    exact lv_null hx hb hd (h lsr H locs hl hP hS)
  case iload_n k =>
    obtain ⟨a, e1, h11⟩ := mv_isI_e h
    exact lv_iload_n hx hb hd rfl (mv_lr_at hl e1 (fun q => by cases q)) (h11 lsr H locs hl hP hS)
  case iload i =>
    obtain ⟨a, e1, h11⟩ := mv_isI_e h
    exact lv_iload hx hb hd (mv_lr_at hl e1 (fun q => by cases q)) (h11 lsr H locs hl hP hS)
  case lload_n k =>
    obtain ⟨a, e1, h11⟩ := mv_isL_e h
    exact lv_lload_n hx hb hd rfl (mv_lr_at hl e1 (fun q => by cases q)) (h11 lsr H locs hl hP hS)
  case lload i =>
    obtain ⟨a, e1, h11⟩ := mv_isL_e h
    exact lv_lload hx hb hd (mv_lr_at hl e1 (fun q => by cases q)) (h11 lsr H locs hl hP hS)
  case aload_n k =>
    obtain ⟨ho, h11⟩ := mv_isA_e h
    have h11 := h11 lsr H locs hl hP hS
    rcases ho with e1 | ⟨a, e1⟩ | ⟨a, e1⟩
    · rw [e1] at h11
      exact lv_aload_nN hx hb hd rfl (mv_lr_at hl e1 (fun q => by cases q)) h11
    · rw [e1] at h11
      exact lv_aload_n hx hb hd rfl (mv_lr_at hl e1 (fun q => by cases q)) h11
    · rw [e1] at h11
      exact lv_aload_n hx hb hd rfl (mv_lr_at hl e1 (fun q => by cases q)) h11
  case aload i =>
    obtain ⟨ho, h11⟩ := mv_isA_e h
    have h11 := h11 lsr H locs hl hP hS
    rcases ho with e1 | ⟨a, e1⟩ | ⟨a, e1⟩
    · rw [e1] at h11
      exact lv_aloadN hx hb hd (mv_lr_at hl e1 (fun q => by cases q)) h11
    · rw [e1] at h11
      exact lv_aload hx hb hd (mv_lr_at hl e1 (fun q => by cases q)) h11
    · rw [e1] at h11
      exact lv_aload hx hb hd (mv_lr_at hl e1 (fun q => by cases q)) h11
  case istore_n k =>
    obtain ⟨a, r, rfl, h11⟩ := mv_i1_e h
    obtain ⟨g1, g2, h12⟩ := mv_st1_e h11
    exact lv_istore_n hx hb hd rfl hlv (by rw [← hlen]; exact g2) rfl (fun ls' hl' => h12 ls' H locs (mv_lr_st1 (v := .int a) hlen g1 g2 hl') hP hS)
  case istore i =>
    obtain ⟨a, r, rfl, h11⟩ := mv_i1_e h
    obtain ⟨g1, g2, h12⟩ := mv_st1_e h11
    exact lv_istore hx hb hd hlv (by rw [← hlen]; exact g2) rfl (fun ls' hl' => h12 ls' H locs (mv_lr_st1 (v := .int a) hlen g1 g2 hl') hP hS)
  case lstore_n k =>
    obtain ⟨a, r, rfl, h11⟩ := mv_l1_e h
    obtain ⟨g1, g2, h12⟩ := mv_st2_e h11
    exact lv_lstore_n hx hb hd rfl hlv (by rw [← hlen]; exact g2) rfl (fun ls' hl' => h12 ls' H locs (mv_lr_st2 (v := .long a) hlen g1 g2 hl') hP hS)
  case lstore i =>
    obtain ⟨a, r, rfl, h11⟩ := mv_l1_e h
    obtain ⟨g1, g2, h12⟩ := mv_st2_e h11
    exact lv_lstore hx hb hd hlv (by rw [← hlen]; exact g2) rfl (fun ls' hl' => h12 ls' H locs (mv_lr_st2 (v := .long a) hlen g1 g2 hl') hP hS)
  case astore_n k =>
    rcases mv_a1_e h with ⟨r, rfl, h11⟩ | ⟨a, r, rfl, h11⟩
    · obtain ⟨g1, g2, h12⟩ := mv_st1_e h11
      exact lv_astore_nN hx hb hd rfl hlv (by rw [← hlen]; exact g2) rfl (fun ls' hl' => h12 ls' H locs (mv_lr_st1 (v := .null) hlen g1 g2 hl') hP hS)
    · obtain ⟨g1, g2, h13⟩ := mv_st1_e h11
      exact lv_astore_n hx hb hd rfl hlv (by rw [← hlen]; exact g2) rfl (fun ls' hl' => h13 ls' H locs (mv_lr_st1 (v := .ref a) hlen g1 g2 hl') hP hS)
  case astore i =>
    rcases mv_a1_e h with ⟨r, rfl, h11⟩ | ⟨a, r, rfl, h11⟩
    · obtain ⟨g1, g2, h12⟩ := mv_st1_e h11
      exact lv_astoreN hx hb hd hlv (by rw [← hlen]; exact g2) rfl (fun ls' hl' => h12 ls' H locs (mv_lr_st1 (v := .null) hlen g1 g2 hl') hP hS)
    · obtain ⟨g1, g2, h13⟩ := mv_st1_e h11
      exact lv_astore hx hb hd hlv (by rw [← hlen]; exact g2) rfl (fun ls' hl' => h13 ls' H locs (mv_lr_st1 (v := .ref a) hlen g1 g2 hl') hP hS)
  case iinc i n =>
    have hv : Int32.ofInt n = v := of_decide_eq_true hch
    obtain ⟨a, e1, h11⟩ := mv_isI_e h
    obtain ⟨g1, g2, h12⟩ := mv_st1_e h11
    obtain ⟨k, hk⟩ := mv_lr_k (ad := ad) (b := b) (nL := 0) (lsr := #[]) e1 (fun q => by cases q)
    exact lv_iinc hx hb hd hlv hk (by rw [hv]) (by rw [← hlen]; exact g2) rfl (fun ls' hl' => h12 ls' H locs (mv_lr_st1 (v := .int (a + v)) hlen g1 g2 hl') hP hS)
  case iadd =>
    obtain ⟨a, b', r, rfl, h11⟩ := mv_i2_e h
    exact lv_iadd hx hb hd (h11 lsr H locs hl hP hS)
  case isub =>
    obtain ⟨a, b', r, rfl, h11⟩ := mv_i2_e h
    exact lv_isub hx hb hd (h11 lsr H locs hl hP hS)
  case imul =>
    obtain ⟨a, b', r, rfl, h11⟩ := mv_i2_e h
    exact lv_imul hx hb hd (h11 lsr H locs hl hP hS)
  case iand =>
    obtain ⟨a, b', r, rfl, h11⟩ := mv_i2_e h
    exact lv_iand hx hb hd (h11 lsr H locs hl hP hS)
  case ior =>
    obtain ⟨a, b', r, rfl, h11⟩ := mv_i2_e h
    exact lv_ior hx hb hd (h11 lsr H locs hl hP hS)
  case ixor =>
    obtain ⟨a, b', r, rfl, h11⟩ := mv_i2_e h
    exact lv_ixor hx hb hd (h11 lsr H locs hl hP hS)
  case ishl =>
    obtain ⟨a, b', r, rfl, h11⟩ := mv_i2_e h
    exact lv_ishl hx hb hd (h11 lsr H locs hl hP hS)
  case ishr =>
    obtain ⟨a, b', r, rfl, h11⟩ := mv_i2_e h
    exact lv_ishr hx hb hd (h11 lsr H locs hl hP hS)
  case idiv =>
    obtain ⟨a, b', r, rfl, h0, h11⟩ := mv_i2_e h
    exact lv_idiv hx hb hd h0 (h11 lsr H locs hl hP hS)
  case irem =>
    obtain ⟨a, b', r, rfl, h0, h11⟩ := mv_i2_e h
    exact lv_irem hx hb hd h0 (h11 lsr H locs hl hP hS)
  case iushr =>
    obtain ⟨a, b', r, rfl, h11⟩ := mv_i2_e h
    exact lv_iushr hx hb hd rfl (h11 lsr H locs hl hP hS)
  case i2l =>
    obtain ⟨a, r, rfl, h11⟩ := mv_i1_e h
    exact lv_i2l hx hb hd rfl (h11 lsr H locs hl hP hS)
  case i2b =>
    obtain ⟨a, r, rfl, h11⟩ := mv_i1_e h
    exact lv_i2b hx hb hd rfl (h11 lsr H locs hl hP hS)
  case i2s =>
    obtain ⟨a, r, rfl, h11⟩ := mv_i1_e h
    exact lv_i2s hx hb hd rfl (h11 lsr H locs hl hP hS)
  case l2i =>
    obtain ⟨a, r, rfl, h11⟩ := mv_l1_e h
    exact lv_l2i hx hb hd rfl (h11 lsr H locs hl hP hS)
  case ladd =>
    obtain ⟨a, b', r, rfl, h11⟩ := mv_l2_e h
    exact lv_ladd hx hb hd (h11 lsr H locs hl hP hS)
  case lsub =>
    obtain ⟨a, b', r, rfl, h11⟩ := mv_l2_e h
    exact lv_lsub hx hb hd (h11 lsr H locs hl hP hS)
  case lmul =>
    obtain ⟨a, b', r, rfl, h11⟩ := mv_l2_e h
    exact lv_lmul hx hb hd (h11 lsr H locs hl hP hS)
  case lor =>
    obtain ⟨a, b', r, rfl, h11⟩ := mv_l2_e h
    exact lv_lor hx hb hd (h11 lsr H locs hl hP hS)
  case lshl =>
    obtain ⟨a, b', r, rfl, h11⟩ := mv_il_e h
    exact lv_lshl hx hb hd rfl (h11 lsr H locs hl hP hS)
  case lcmp =>
    obtain ⟨a, b', r, rfl, h11⟩ := mv_l2_e h
    exact W.lcmp hx hb hd (h11 lsr H locs hl hP hS)
  case dup =>
    obtain ⟨a, r, rfl, h0, h11⟩ := mv_c1_e h
    exact lv_dup hx hb hd (by rw [mv_tr_cat]; exact h0) (h11 lsr H locs hl hP hS)
  case dup2 =>
    obtain ⟨a, b', r, rfl, h0, h1, h11⟩ := mv_c2_e h
    exact lv_dup2_11 hx hb hd (by rw [mv_tr_cat]; exact h0) (by rw [mv_tr_cat]; exact h1) (h11 lsr H locs hl hP hS)
  case pop =>
    obtain ⟨a, r, rfl, h11⟩ := mv_i1_e h
    exact lv_pop hx hb hd rfl (h11 lsr H locs hl hP hS)
  case goto o =>
    have ht := of_decide_eq_true hch
    exact lv_goto hx hb hd ht (h lsr H locs hl hP hS)
  case ifCond cd o =>
    have ht := of_decide_eq_true hch
    obtain ⟨a, r, rfl, h11⟩ := mv_i1_e h
    cases cd
    · exact lv_if_eq hx hb hd ht (fun q => h11.1 q lsr H locs hl hP hS) (fun q => h11.2 q lsr H locs hl hP hS)
    · exact lv_if_ne hx hb hd ht (fun q => h11.1 q lsr H locs hl hP hS) (fun q => h11.2 q lsr H locs hl hP hS)
    · exact lv_if_lt hx hb hd ht (fun q => h11.1 q lsr H locs hl hP hS) (fun q => h11.2 q lsr H locs hl hP hS)
    · exact lv_if_ge hx hb hd ht (fun q => h11.1 q lsr H locs hl hP hS) (fun q => h11.2 q lsr H locs hl hP hS)
    · exact lv_if_gt hx hb hd ht (fun q => h11.1 q lsr H locs hl hP hS) (fun q => h11.2 q lsr H locs hl hP hS)
    · exact lv_if_le hx hb hd ht (fun q => h11.1 q lsr H locs hl hP hS) (fun q => h11.2 q lsr H locs hl hP hS)
  case if_icmp cd o =>
    have ht := of_decide_eq_true hch
    obtain ⟨a, b', r, rfl, h11⟩ := mv_i2_e h
    cases cd
    · exact lv_icmp_eq hx hb hd ht (fun q => h11.1 q lsr H locs hl hP hS) (fun q => h11.2 q lsr H locs hl hP hS)
    · exact lv_icmp_ne hx hb hd ht (fun q => h11.1 q lsr H locs hl hP hS) (fun q => h11.2 q lsr H locs hl hP hS)
    · exact lv_icmp_lt hx hb hd ht (fun q => h11.1 q lsr H locs hl hP hS) (fun q => h11.2 q lsr H locs hl hP hS)
    · exact lv_icmp_ge hx hb hd ht (fun q => h11.1 q lsr H locs hl hP hS) (fun q => h11.2 q lsr H locs hl hP hS)
    · exact lv_icmp_gt hx hb hd ht (fun q => h11.1 q lsr H locs hl hP hS) (fun q => h11.2 q lsr H locs hl hP hS)
    · exact lv_icmp_le hx hb hd ht (fun q => h11.1 q lsr H locs hl hP hS) (fun q => h11.2 q lsr H locs hl hP hS)
  case ifnull o =>
    have ht := of_decide_eq_true hch
    rcases mv_nul_e h with ⟨r, rfl, h11⟩ | ⟨a, r, rfl, h11⟩
    · exact lv_ifnullN hx hb hd ht (h11 lsr H locs hl hP hS)
    · exact lv_ifnull hx hb hd (h11 lsr H locs hl hP hS)
  case ifnonnull o =>
    have ht := of_decide_eq_true hch
    rcases mv_nul_e h with ⟨r, rfl, h11⟩ | ⟨a, r, rfl, h11⟩
    · exact lv_ifnonnullN hx hb hd (h11 lsr H locs hl hP hS)
    · exact lv_ifnonnull hx hb hd ht (h11 lsr H locs hl hP hS)
  case tableswitch dflt lo hi offs =>
    have hch1 : (decide ((pc : Int) + dflt = ((inf.headD 0 : Nat) : Int)) && decide (lo = v.toInt) && decide (hi = lo + (inf.tail.length : Int) - 1) && decide (offs.toList.map (fun o => (pc : Int) + o) = inf.tail.map (fun (t : Nat) => (t : Int))) && decide (0 ≤ lo) && decide (hi < 1000)) = true := hch
    simp only [Bool.and_eq_true, decide_eq_true_eq] at hch1
    obtain ⟨⟨⟨⟨⟨hdf, hlo⟩, hhi⟩, hof⟩, h0⟩, h9⟩ := hch1
    obtain ⟨a, r, rfl, h11⟩ := mv_i1_e h
    have key : ∀ k : Nat, k < inf.tail.length → (v + Int32.ofNat k).toInt = lo + (k : Int) := by
      intro k hk
      have e1 : (Int32.ofNat k).toInt = (k : Int) := nI_toInt (by omega)
      rw [Int32.toInt_add, e1, ← hlo]
      exact Int.bmod_eq_of_le (by omega) (by omega)
    rcases mv_sw_tab _ _ _ h11 with ⟨k, t, h1, h2, h3⟩ | ⟨h1, h2⟩
    · have hk : k < inf.tail.length := (List.getElem?_eq_some_iff.mp h1).1
      have ex := key k hk
      rw [← h2] at ex
      have ho : ∃ o, offs[(a.toInt - lo).toNat]? = some o ∧ (pc : Int) + o = (t : Int) := by
        have e2 : (a.toInt - lo).toNat = k := by omega
        have e3 := congrArg (fun z => z[k]?) hof
        simp only [List.getElem?_map, h1, Option.map_some] at e3
        rw [e2]
        cases e4 : offs.toList[k]? with
        | none => rw [e4] at e3; cases e3
        | some o =>
          rw [e4] at e3
          exact ⟨o, by rw [← Array.getElem?_toList]; exact e4, Option.some.inj e3⟩
      obtain ⟨o, ho1, ho2⟩ := ho
      exact lv_tableIn hx hb hd (by omega) (by omega) ho1 ho2 (h3 lsr H locs hl hP hS)
    · refine lv_tableOut hx hb hd ?_ hdf (h2 lsr H locs hl hP hS)
      refine Decidable.byContradiction fun q => ?_
      have q1 : ¬ a.toInt < lo := fun z => q (Or.inl z)
      have q2 : ¬ hi < a.toInt := fun z => q (Or.inr z)
      have hk : (a.toInt - lo).toNat < inf.tail.length := by omega
      refine h1 _ hk (Int32.toInt_inj.mp ?_)
      rw [key _ hk]
      omega
  case lookupswitch dflt ps =>
    have hch1 : (decide ((pc : Int) + dflt = ((inf.headD 0 : Nat) : Int)) && (ps.toList.zip (ps.toList.drop 1)).all (fun (a, next) => a.1 < next.1) && decide (ps.toList.map (fun q => (q.1, (pc : Int) + q.2)) = (mv_zp inf.tail).map (fun q => (q.1.toInt, (q.2 : Int))))) = true := hch
    simp only [Bool.and_eq_true, decide_eq_true_eq] at hch1
    obtain ⟨⟨hdf, hso⟩, hof⟩ := hch1
    obtain ⟨a, r, rfl, h11⟩ := mv_i1_e h
    obtain ⟨t, h1, h2⟩ := mv_sw_zp _ _ _ _ _ hof hdf h11
    exact lv_lookup hx hb hd hso rfl h1 (h2 lsr H locs hl hP hS)
  case getfield i =>
    obtain ⟨ci, k, kd, c0, r, rfl, rfl, hsh, h11⟩ := mv_getf_e h
    have hch1 : (mv_fok (mv_own f) i w ci k && decide (mv_fk ci k = kd)) = true := hch
    simp only [mv_fok, Bool.and_eq_true, Bool.or_eq_true, decide_eq_true_eq] at hch1
    obtain ⟨⟨⟨⟨hci, hk⟩, hT⟩, hlk⟩, hkd⟩ := hch1
    have hc0 : c0 < 96 := mv_sh_in hsh (by omega)
    have he : (mv_w ad aC σ)[c0]? = some (ad c0, .inr (ci, (List.range (mv_clN ci)).map (mv_fv ad σ c0))) := by rw [mv_w_at hc0, mv_cell_o hsh (by omega)]
    have hv : ((List.range (mv_clN ci)).map (mv_fv ad σ c0))[k]? = some (mv_fv ad σ c0 k) := by rw [List.getElem?_map, List.getElem?_range hk]; rfl
    have hfin : W p l e R s m args below meth c H locs cells slots Q (F0 m (pc + 3) lsr (mv_fv ad σ c0 k :: r.map (mv_tr ad b))) := by
      unfold mv_fv
      rw [hsh, hkd]
      rcases h11 with ⟨rfl, h12⟩ | ⟨rfl, h12⟩ | ⟨rfl, h12⟩ | ⟨rfl, h12⟩
      · exact h12 lsr H locs hl hP hS
      · exact h12 lsr H locs hl hP hS
      · exact h12 lsr H locs hl hP hS
      · exact h12 lsr H locs hl hP hS
    rcases hlk with hlk | hlk
    · exact va_get (D := D) hx hb hts (mv_uws hci) hown hK hP c0 he (mv_cl_at hci) k hk (hts _ (mv_ts_of (mv_has_mem hlk) rfl)) (fun x h9 => by rw [← hT]; exact h9) hv hd hfin
    · exact va_getN (D := D) hx hb hts (mv_uws hci) hown hK hP c0 he (mv_cl_at hci) k hk (va_Nw.use rfl (C.2.2.2.2.2.1 _ (mv_has_mem hlk) rfl)) (fun x h9 => by rw [← hT]; exact h9) hv hd hfin
  case putfield i =>
    obtain ⟨ci, k, kd, c0, r, rfl, hsh, h11⟩ := mv_putf_e h
    have hch1 : (mv_fok (mv_own f) i w ci k && decide (mv_fk ci k = kd) && decide ((mv_clT ci k).2.2.2 = false) && decide (parseFieldDescriptor (mv_clT ci k).2.2.1 = some (mv_kty kd)) && decide (kd = 0 ∨ kd = 1 ∨ kd = 3)) = true := hch
    simp only [mv_fok, Bool.and_eq_true, Bool.or_eq_true, decide_eq_true_eq] at hch1
    obtain ⟨⟨⟨⟨⟨⟨⟨hci, hk⟩, hT⟩, hlk⟩, hkd⟩, hfi⟩, hpd⟩, -⟩ := hch1
    have hc0 : c0 < 96 := mv_sh_in hsh (by omega)
    have he : (mv_w ad aC σ)[c0]? = some (ad c0, .inr (ci, (List.range (mv_clN ci)).map (mv_fv ad σ c0))) := by rw [mv_w_at hc0, mv_cell_o hsh (by omega)]
    have hll : k < ((List.range (mv_clN ci)).map (mv_fv ad σ c0)).length := by rw [List.length_map, List.length_range]; exact hk
    obtain ⟨ty0, hty, hnm⟩ := mv_cl_ok hci
    rcases h11 with ⟨a, hkk, rfl, h12⟩ | ⟨a, rfl, rfl, h12⟩
    · have hne : ¬ mv_fk ci k = 2 ∧ ¬ mv_fk ci k = 1 := by rw [hkd]; rcases hkk with rfl | ⟨rfl, -⟩ <;> decide
      have hn : narrow (mv_kty kd) (.int a) = .int a := by
        rcases hkk with rfl | ⟨rfl, rfl | rfl⟩ <;> rfl
      have hfit : fits (mv_kty kd) (.int a) = true := by
        rcases hkk with rfl | ⟨rfl, rfl | rfl⟩ <;> rfl
      have hset : (mv_w ad aC σ).set c0 (ad c0, .inr (ci, ((List.range (mv_clN ci)).map (mv_fv ad σ c0)).set k (.int a))) = mv_w ad aC (mv_pi σ c0 k a) := mv_w_set hc0 (mv_fset hsh (by omega) hk (mv_fv_pi hsh hne.1 hne.2) (fun j hj => mv_fv_pi_o j hj)) (fun j hj => mv_pi_o j hj)
      rcases hlk with hlk | hlk
      · exact va_put (D := D) hx hb hts (mv_uws hci) ty0 hty hnm hown hK hP (hD σ) hS c0 he (mv_cl_at hci) k hk (hts _ (mv_ts_of (mv_has_mem hlk) rfl)) (fun x h9 => by rw [← hT]; exact h9) hfi hpd hn hfit hll hd (fun H1 locs1 hP1 _ hS1 => h12 lsr H1 locs1 hl (hset ▸ hP1) hS1)
      · exact va_putN (D := D) hx hb hts (mv_uws hci) ty0 hty hnm hown hK hP (hD σ) hS c0 he (mv_cl_at hci) k hk (va_Nw.use rfl (C.2.2.2.2.2.1 _ (mv_has_mem hlk) rfl)) (fun x h9 => by rw [← hT]; exact h9) hfi hpd hn hfit hll hd (fun H1 locs1 hP1 _ hS1 => h12 lsr H1 locs1 hl (hset ▸ hP1) hS1)
    · have hset : (mv_w ad aC σ).set c0 (ad c0, .inr (ci, ((List.range (mv_clN ci)).map (mv_fv ad σ c0)).set k (.long a))) = mv_w ad aC (mv_pl σ c0 k a) := mv_w_set hc0 (mv_fset hsh (by omega) hk (mv_fv_pl hsh hkd) (fun j hj => mv_fv_pl_o j hj)) (fun j hj => mv_pl_o j hj)
      rcases hlk with hlk | hlk
      · exact va_put (D := D) hx hb hts (mv_uws hci) ty0 hty hnm hown hK hP (hD σ) hS c0 he (mv_cl_at hci) k hk (hts _ (mv_ts_of (mv_has_mem hlk) rfl)) (fun x h9 => by rw [← hT]; exact h9) hfi hpd rfl rfl hll hd (fun H1 locs1 hP1 _ hS1 => h12 lsr H1 locs1 hl (hset ▸ hP1) hS1)
      · exact va_putN (D := D) hx hb hts (mv_uws hci) ty0 hty hnm hown hK hP (hD σ) hS c0 he (mv_cl_at hci) k hk (va_Nw.use rfl (C.2.2.2.2.2.1 _ (mv_has_mem hlk) rfl)) (fun x h9 => by rw [← hT]; exact h9) hfi hpd rfl rfl hll hd (fun H1 locs1 hP1 _ hS1 => h12 lsr H1 locs1 hl (hset ▸ hP1) hS1)
  case arraylength =>
    rcases mv_alen_e h with ⟨c0, r, rfl, hsh, h11⟩ | ⟨r, rfl, h11⟩
    · have hc0 : c0 < 96 := Decidable.byContradiction fun q => by rw [mv_sh_out q] at hsh; omega
      obtain ⟨y, hy⟩ := mv_cell_a (ad := ad) (aC := aC) (σ := σ) hsh
      obtain ⟨t0, ty, ht⟩ := mv_aty (aC := aC) hsh (mv_sh_27 c0)
      exact va_alen (x := (mv_ln c0, y)) hx hb hK hP c0 t0 (by rw [mv_w_at hc0, hy]) ht rfl hd (h11 lsr H locs hl hP hS)
    · exact va_slen hx hb C.2.2.2.2.2.2.2.2.1 C.2.2.2.2.2.2.2.2.2.1 C.2.2.2.2.2.2.2.2.2.2 hS hd (h11 lsr H locs hl hP hS)
  case iaload =>
    rcases mv_iald_e h with ⟨i, c0, r, rfl, ⟨hsh, hin⟩, h11⟩ | ⟨i, r, rfl, hin, h11⟩
    · have hc0 : c0 < 96 := mv_sh_in hsh (by omega)
      exact va_iald hx hb hK hP c0 0 (by rw [mv_w_at hc0, mv_cell_i hsh (by omega) (by omega)]) rfl hin hd (h11 lsr H locs hl hP hS)
    · exact va_sld hx hb C.2.2.2.2.2.2.2.2.1 C.2.2.2.2.2.2.2.2.2.1 C.2.2.2.2.2.2.2.2.2.2 hS hin hd (h11 lsr H locs hl hP hS)
  case iastore =>
    obtain ⟨y, i, c0, r, rfl, ⟨hsh, hin⟩, h11⟩ := mv_iir_e h
    have hc0 : c0 < 96 := mv_sh_in hsh (by omega)
    refine va_iast hx hb hK hP (hD σ) hS c0 0 (by rw [mv_w_at hc0, mv_cell_i hsh (by omega) (by omega)]) rfl hin hd (fun H1 locs1 hP1 _ hS1 => h11 lsr H1 locs1 hl ?_ hS1)
    rw [← mv_w_set (σ := σ) hc0 (mv_cell_i hsh (by omega) (by omega)) (fun j hj => mv_pi_o j hj), mv_pi_1]
    exact hP1
  case baload =>
    obtain ⟨i, c0, r, rfl, ⟨-, hsh, hin⟩, h11⟩ := mv_ir_e h
    rcases hsh with hsh | hsh
    · have hc0 : c0 < 96 := mv_sh_in hsh (by omega)
      exact va_bald hx hb hK hP c0 1 (by rw [mv_w_at hc0, mv_cell_i hsh (by omega) (by omega)]) rfl hin hd (h11 lsr H locs hl hP hS)
    · have hc0 : c0 < 96 := mv_sh_in hsh (by omega)
      exact va_zald hx hb hK hP c0 2 (by rw [mv_w_at hc0, mv_cell_i hsh (by omega) (by omega)]) rfl hin hd (h11 lsr H locs hl hP hS)
  case bastore =>
    obtain ⟨y, i, c0, r, rfl, ⟨hty, hsh, hin⟩, h11⟩ := mv_iir_e h
    rcases hsh with hsh | hsh
    · have hc0 : c0 < 96 := mv_sh_in hsh (by omega)
      have e1 : inf.headD 0 = 21 := hty.symm.trans hsh
      rw [show ((Instr.bastore, len, inf, v, w) : mv_I).2.2.1.headD 0 = 21 from e1] at h11
      refine va_bast hx hb hK hP (hD σ) hS c0 1 (by rw [mv_w_at hc0, mv_cell_i hsh (by omega) (by omega)]) rfl hin hd (fun H1 locs1 hP1 _ hS1 => h11 lsr H1 locs1 hl ?_ hS1)
      rw [← mv_w_set (σ := σ) hc0 (mv_cell_i hsh (by omega) (by omega)) (fun j hj => mv_pi_o j hj), mv_pi_1]
      exact hP1
    · have hc0 : c0 < 96 := mv_sh_in hsh (by omega)
      have e1 : inf.headD 0 = 22 := hty.symm.trans hsh
      rw [show ((Instr.bastore, len, inf, v, w) : mv_I).2.2.1.headD 0 = 22 from e1] at h11
      refine va_zast hx hb hK hP (hD σ) hS c0 2 (by rw [mv_w_at hc0, mv_cell_i hsh (by omega) (by omega)]) rfl hin hd (fun H1 locs1 hP1 _ hS1 => h11 lsr H1 locs1 hl ?_ hS1)
      rw [← mv_w_set (σ := σ) hc0 (mv_cell_i hsh (by omega) (by omega)) (fun j hj => mv_pi_o j hj), mv_pi_1]
      exact hP1
  case laload =>
    obtain ⟨i, c0, r, rfl, ⟨hsh, hin⟩, h11⟩ := mv_ir_e h
    have hc0 : c0 < 96 := mv_sh_in hsh (by omega)
    exact va_lald hx hb hK hP c0 3 (by rw [mv_w_at hc0, mv_cell_l hsh]) rfl hin hd (h11 lsr H locs hl hP hS)
  case lastore =>
    obtain ⟨y, i, c0, r, rfl, ⟨hsh, hin⟩, h11⟩ := mv_lir_e h
    have hc0 : c0 < 96 := mv_sh_in hsh (by omega)
    refine va_last hx hb hK hP (hD σ) hS c0 3 (by rw [mv_w_at hc0, mv_cell_l hsh]) rfl hin hd (fun H1 locs1 hP1 _ hS1 => h11 lsr H1 locs1 hl ?_ hS1)
    rw [← mv_w_set (σ := σ) hc0 (mv_cell_l hsh) (fun j hj => mv_pl_o j hj), mv_pl_3]
    exact hP1
  case aaload =>
    obtain ⟨i, c0, r, rfl, ⟨hsh, hin⟩, h11⟩ := mv_ir_e h
    have hc0 : c0 < 96 := Decidable.byContradiction fun q => by rw [mv_sh_out q] at hsh; omega
    obtain ⟨t0, C0, ht⟩ := mv_atyR (aC := aC) hsh (mv_sh_27 c0)
    exact va_aldq (f := fun j => some (ad (mv_rf c0 j))) hx hb hK hP c0 t0 (by rw [mv_w_at hc0, mv_cell_r hsh]) ht hin hd (h11 lsr H locs hl hP hS)
  case invokestatic i =>
    exact mv_so_inv (rk := 0) true C hc hr hcn hokc hd hch h lsr H locs hl hP hS
  case invokevirtual i =>
    exact mv_so_inv (rk := 0) false C hc hr hcn hokc hd hch h lsr H locs hl hP hS
  case return_ =>
    obtain ⟨e1, rfl, h11⟩ := mv_vret_e h
    exact hret none σ H locs pc lsr h11 hP hS (Or.inl ⟨rfl, e1, hd⟩)
  case ireturn =>
    obtain ⟨a, rfl, h, e1⟩ := mv_iret_e h
    exact hret (some (.int a)) σ H locs pc lsr h hP hS (Or.inr (Or.inl ⟨a, rfl, e1, hd⟩))
  case lreturn =>
    obtain ⟨a, rfl, h, e1⟩ := mv_lret_e h
    exact hret (some (.long a)) σ H locs pc lsr h hP hS (Or.inr (Or.inr (Or.inl ⟨a, rfl, e1, hd⟩)))
  case areturn =>
    obtain ⟨a, rfl, h, e1, e2⟩ := mv_aret_e h
    exact hret (some a) σ H locs pc lsr h hP hS (Or.inr (Or.inr (Or.inr ⟨a, rfl, e2, e1, hd⟩)))
  all_goals exact h.elim
end MOP
