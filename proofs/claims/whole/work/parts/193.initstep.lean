section MNT
variable {p : Program} {l : Launch} {e : Env} {R : Room} {s : State} {m : MethodId} {args : Array Value} {below : List Frame} {meth : Method} {c : Code} {Q : State → Prop}
variable {f base b d : Nat} {aC : Nat → ClassId} {D : va_G} {call : Nat → Nat → List mn_C → Option (List mn_C)}
theorem mn_back {W' : List mn_C} {pc cells slots mc ms : Nat} {H : Heap} {locs : List Loc} {lsr : Array Slot} {st0 rest : List Value} {a : Array Value} (hr : va_Run p l e R s m args below meth c H locs cells slots mc ms (F0 m pc lsr st0) rest (mn_Qc base aC D b W' a) (mn_A base)) (hS : va_S (mn_A base) s.heap H locs)
    (kk : ∀ (H1 : Heap) (locs1 : List Loc), va_P D mv_cl (mn_w base aC b W') H1 → mn_Ka aC W' s → va_S (mn_A base) s.heap H1 locs1 → W p l e R s m args below meth c H1 locs1 (cells + mc) (slots + ms) Q (F0 m (pc + 3) lsr rest)) : W p l e R s m args below meth c H locs cells slots Q (F0 m pc lsr st0) := by
  intro T hT X0
  obtain ⟨v, st₀, t, T', L, h0, X', hL, e1, e2, ⟨⟨hv, hb, hka⟩, hz, hk⟩, st⟩ := hr T hT X0
  cases hv
  rw [h0] at hz hk
  have hvm : t.vm.Alike s.vm := by rw [← e2]; exact X'.warmed.alike.symm
  obtain ⟨t2, a1, b1⟩ := kk T'.heap (locs ++ L) (by rw [e1]; exact hb) (mn_Ka_moved hvm hka)
    ⟨Nat.le_trans hS.1 (by rw [e1]; exact hz), fun q h1 h2 => by rw [e1, hk q (Nat.lt_of_lt_of_le h1 hS.1) h2]; exact hS.2.1 q h1 h2, fun q hq => by
      rcases List.mem_append.mp hq with h | h
      · exact hS.2.2 q h
      · exact hL q h⟩ T' rfl X'
  exact ⟨t2, st t2 a1, b1⟩
theorem mn_put_ok {kd : Nat} {v : Value} {ty : FieldType} {b0 : Nat} (h : mn_put kd v = true) : mn_kok kd (some ty) = true → narrow ty (mv_tr (base + ·) b0 v) = mv_tr (base + ·) b0 v ∧ fits ty (mv_tr (base + ·) b0 v) = true := by
  unfold mn_put at h
  split at h
  · intro hk; cases ty <;> first | exact ⟨rfl, rfl⟩ | (exact absurd (show false = true from hk) (by decide))
  · intro hk; cases ty <;> first | exact ⟨rfl, rfl⟩ | (exact absurd (show false = true from hk) (by decide))
  · intro hk; cases ty <;> first | exact ⟨rfl, rfl⟩ | (exact absurd (show false = true from hk) (by decide))
  · rename_i x
    intro hk
    have e0 : x = 0 := eq_of_beq h
    subst e0
    cases ty <;> first | exact ⟨rfl, rfl⟩ | (exact absurd (show false = true from hk) (by decide))
  · cases h
theorem mn_lu_upd {us : List (Nat × Int32)} {i : Nat} {v : Int32} : (fun j => (mn_lu ((i, v) :: us) j).getD 0) = upd (fun j => (mn_lu us j).getD 0) i v := by
  funext j
  show (if j = i then some v else mn_lu us j).getD 0 = if j = i then v else (mn_lu us j).getD 0
  by_cases h : j = i
  · rw [if_pos h, if_pos h]; rfl
  · rw [if_neg h, if_neg h]
theorem mn_lu_up {us : List (Nat × Nat)} {i v : Nat} : (fun j => (mn_lu ((i, v) :: us) j).map (base + ·)) = va_up (fun j => (mn_lu us j).map (base + ·)) i (some (base + v)) := by
  funext j
  show (if j = i then some v else mn_lu us j).map (base + ·) = if j = i then some (base + v) else (mn_lu us j).map (base + ·)
  by_cases h : j = i
  · rw [if_pos h, if_pos h]; rfl
  · rw [if_neg h, if_neg h]
set_option maxHeartbeats 8000000 in
theorem mn_so_stp {pc k0 s0 : Nat} {x : mv_I} {ls st : List Value} {Wd : List mn_C} {t : mn_T} (hf : f < 14) (hk0 : s.heap.size = base + k0) (C : mn_Cx p s m args meth c f base aC D) (hc : mn_Calls l base aC D b d call) (hR : d + 2 ≤ R.frames ∧ 64 * (d + 2) ≤ R.locals)
    (hd : decode (mn_N f).2.1 pc = .ok (x.1, mn_len x.1 x.2.1)) (hch : mn_chk (mn_N f).1.cls pc x = true) (h : mn_stp call pc x ls st Wd = some t) (hup : t.2.2.2.length ≤ R.cells + k0 ∧ mn_slots t.2.2.2 ≤ R.slots + s0) (hZ : mn_Z p l e R s m args below meth c Q f base b aC D k0 s0 t) : mn_Z p l e R s m args below meth c Q f base b aC D k0 s0 (pc, ls, st, Wd) := by
  obtain ⟨ins, len, inf, v, w⟩ := x
  intro lsr H locs cells slots hl hP hKa hS hce hsl
  dsimp only at hl hP hKa hce hsl
  refine mn_size hk0 hP hS hce fun hH => ?_
  have hx := C.1
  have hb := C.2.1
  have hown := C.2.2.2.1
  have hts := C.2.2.2.2.1
  have hK := C.2.2.2.2.2.1.1
  have hlen := hl.1
  have hlv := hl.2
  have hlsz : lsr.size = c.maxLocals := by rw [C.2.2.1]; exact hlv.1
  have hA : ∀ q, s.heap.size ≤ q → mn_A base q := fun q hq => Nat.le_trans C.2.2.2.2.2.2.1 hq
  unfold mn_stp at h
  dsimp only at h
  split at h
  · cases h
    exact lv_iconst hx hb hd (of_decide_eq_true hch) (hZ lsr H locs cells slots hl hP hKa hS hce hsl)
  · cases h
    exact lv_bipush hx hb hd (of_decide_eq_true hch) (hZ lsr H locs cells slots hl hP hKa hS hce hsl)
  · cases h
    exact lv_sipush hx hb hd (of_decide_eq_true hch) (hZ lsr H locs cells slots hl hP hKa hS hce hsl)
  · cases h
    rename_i i
    have h9 : mv_at w (.constant (mn_N f).1.cls i v) = true := hch
    exact lv_ldc hx hb hown (hts _ (mv_ts_of (mv_has_mem (q := w.toNatClampNeg) h9) rfl)) hd (hZ lsr H locs cells slots hl hP hKa hS hce hsl)
  · cases h
    rename_i i
    have h9 : mv_has (inf.headD 0) (.constantLong (mn_N f).1.cls i w) = true := hch
    exact lv_ldc2 hx hb hown (hts _ (mv_ts_of (mv_has_mem h9) rfl)) hd (hZ lsr H locs cells slots hl hP hKa hS hce hsl)
  · split at h
    · rename_i c0 e1
      cases h
      exact lv_aload_n hx hb hd rfl (mv_lr_at hl e1 (fun q => by cases q)) (hZ lsr H locs cells slots hl hP hKa hS hce hsl)
    · cases h
  · split at h
    · rename_i c0 e1
      cases h
      exact lv_iload_n hx hb hd rfl (mv_lr_at hl e1 (fun q => by cases q)) (hZ lsr H locs cells slots hl hP hKa hS hce hsl)
    · cases h
  · split at h
    · rename_i hg
      cases h
      exact lv_istore_n hx hb hd rfl hlv (by rw [← hlen]; exact hg.2) rfl (fun ls' hl' => hZ ls' H locs cells slots (mv_lr_st1 hlen hg.1 hg.2 hl') hP hKa hS hce hsl)
    · cases h
  · split at h
    · rename_i hg
      cases h
      exact lv_astore_n hx hb hd rfl hlv (by rw [← hlen]; exact hg.2) rfl (fun ls' hl' => hZ ls' H locs cells slots (mv_lr_st1 hlen hg.1 hg.2 hl') hP hKa hS hce hsl)
    · cases h
  · split at h
    · rename_i a e1
      split at h
      · rename_i hg
        cases h
        obtain ⟨k, hk⟩ := mv_lr_k (ad := (base + ·)) (b := b) (nL := 0) (lsr := #[]) e1 (fun q => by cases q)
        exact lv_iinc hx hb hd hlv hk (by rw [of_decide_eq_true hch]) (by rw [← hlen]; exact hg.2) rfl (fun ls' hl' => hZ ls' H locs cells slots (mv_lr_st1 (v := .int (a + v)) hlen hg.1 hg.2 hl') hP hKa hS hce hsl)
      · cases h
    · cases h
  · cases h
    exact lv_dup hx hb hd rfl (hZ lsr H locs cells slots hl hP hKa hS hce hsl)
  · cases h
    exact lv_goto hx hb hd (of_decide_eq_true hch) (hZ lsr H locs cells slots hl hP hKa hS hce hsl)
  · rename_i o tg b' a' r
    cases h
    have hz := hZ lsr H locs cells slots hl hP hKa hS hce hsl
    dsimp only at hz
    refine lv_icmp_ge hx hb hd (of_decide_eq_true hch) (fun q => ?_) (fun q => ?_)
    · rw [if_pos q] at hz; exact hz
    · rw [if_neg q] at hz; exact hz
  · -- new
    rename_i i ci
    cases h
    have hch1 : (decide (ci < 13) && mv_at w (.classLink (mn_N f).1.cls i (mv_clC ci)) && mv_has (mn_cpos ci).1 (.instantiable (mv_clC ci) (mv_clN ci)) && mv_has (mn_cpos ci).2 (.initialized (mv_clC ci)) && decide (mn_def ci = (List.range (mv_clN ci)).map fun j => match parseFieldDescriptor (mv_clT ci j).2.2.1 with
      | some ty => defaultValue ty
      | none => .null)) = true := hch
    simp only [Bool.and_eq_true, decide_eq_true_eq] at hch1
    obtain ⟨⟨⟨⟨hci, hlk⟩, hin⟩, hini⟩, hdf⟩ := hch1
    obtain ⟨ty0, hty, hnm⟩ := mv_cl_ok hci
    have e1 : mn_slots (Wd ++ [(ci, mn_def ci, 0, [], [])]) = mn_slots Wd + mv_clN ci := by
      rw [mn_slots_app]
      show _ + (if ci < 20 then _ else _) = _
      rw [if_pos (by omega)]
    have u1 : Wd.length + 1 ≤ R.cells + k0 := by simpa using hup.1
    have u2 : mn_slots Wd + mv_clN ci ≤ R.slots + s0 := by have := hup.2; dsimp only at this; rw [e1] at this; exact this
    refine mn_newo hx hb hts (mv_uws hci) ty0 hty hown (hts _ (mv_ts_of (mv_has_mem hlk) rfl)) (hts _ (mv_ts_of (mv_has_mem hin) rfl)) (hts _ (mv_ts_of (mv_has_mem hini) rfl)) hK hP hS (mv_cl_at hci) (fs := (mn_def ci).map (mv_tr (base + ·) b)) ?_ (by omega) (by omega) hd ?_
    · intro j hj
      unfold vp_V
      rw [hdf, List.getD_eq_getElem?_getD, List.getElem?_map, List.getElem?_map, List.getElem?_range hj]
      simp only [Option.map_some, Option.getD_some, hty j hj]
      cases ty0 j <;> rfl
    · intro H1 z1 hP1 hS1
      have hz := hZ lsr H1 locs (cells + 1) (slots + mv_clN ci) hl (by
        show va_P D mv_cl (mn_w base aC b (Wd ++ [_])) H1
        rw [mn_w_app, mn_e_o (show ci < 20 by omega), ← hH]
        exact hP1) (mn_Ka_app hKa (fun q => absurd (show ci < 20 by omega) q)) hS1 (by simp; omega) (by rw [e1]; omega)
      rw [hH]
      exact hz
  · -- newarray
    rename_i at0 k n r
    split at h
    · rename_i hn
      cases h
      have hch1 : (decide (20 ≤ k) && decide (k < 24) && decide (newarray.typeOf at0 = mn_ty k) && mv_has (mn_apos k) (.arrayClass (mn_ty k))) = true := hch
      simp only [Bool.and_eq_true, decide_eq_true_eq] at hch1
      obtain ⟨⟨⟨hk1, hk2⟩, hty⟩, harr⟩ := hch1
      have e1 : mn_slots (Wd ++ [(k, [], n.toNatClampNeg, [], [])]) = mn_slots Wd + n.toNatClampNeg := by
        rw [mn_slots_app]
        show _ + (if k < 20 then _ else _) = _
        rw [if_neg (by omega)]
      have u1 : Wd.length + 1 ≤ R.cells + k0 := by simpa using hup.1
      have u2 : mn_slots Wd + n.toNatClampNeg ≤ R.slots + s0 := by have := hup.2; dsimp only at this; rw [e1] at this; exact this
      have hcb : componentBytes (newarray.typeOf at0) ≤ 8 := by cases at0 <;> decide
      have ha : ∃ a0 : vp_A, (∀ cA : ClassId, vp_cell cA a0 = arrV cA n.toNatClampNeg (fun _ => defaultValue (newarray.typeOf at0))) ∧ mn_e base aC b (k, [], n.toNatClampNeg, [], []) = .inl (aC k, a0) := by
        by_cases h23 : k = 23
        · refine ⟨(n.toNatClampNeg, .inr (.inl (fun _ => 0))), fun cA => ?_, mn_e_l h23⟩
          rw [vp_cell_l, hty, h23]
          rfl
        · refine ⟨(n.toNatClampNeg, .inl (fun _ => 0)), fun cA => ?_, mn_e_i (show ¬ k < 20 by omega) (show k < 23 by omega)⟩
          have hk : k = 20 ∨ k = 21 ∨ k = 22 := by omega
          rw [vp_cell_i, hty]
          rcases hk with rfl | rfl | rfl <;> rfl
      obtain ⟨a0, ha1, ha2⟩ := ha
      refine mn_newi hx hb (by rw [hty]; exact hts _ (mv_ts_of (mv_has_mem harr) rfl)) hP hS ha1 hn.1 (Nat.le_trans (Nat.mul_le_mul hn.2 hcb) (Nat.le_of_ble_eq_true rfl)) (by omega) (by omega) hd ?_
      intro cA H1 hAr hNm z1 hP1 hS1
      rw [hty] at hAr hNm
      have hcA : cA = aC k := C.2.2.2.2.2.1.2.2.2 k hk1 (by omega) cA hNm
      subst hcA
      have hRA : va_RA s (aC k) (mn_ty k) := by
        have hk : k = 20 ∨ k = 21 ∨ k = 22 ∨ k = 23 := by omega
        rcases hk with rfl | rfl | rfl | rfl <;> exact hNm
      have hz := hZ lsr H1 locs (cells + 1) (slots + n.toNatClampNeg) hl (by
        show va_P D mv_cl (mn_w base aC b (Wd ++ [_])) H1
        rw [mn_w_app, ha2, ← hH]
        exact hP1) (mn_Ka_app hKa (fun _ => ⟨show k < 27 by omega, hAr, hRA⟩)) hS1 (by simp; omega) (by rw [e1]; omega)
      rw [hH]
      exact hz
    · cases h
  · -- anewarray
    rename_i i k n r
    split at h
    · rename_i hn
      cases h
      have hch1 : (decide (24 ≤ k) && decide (k < 27) && mv_at w (.classLink (mn_N f).1.cls i (mv_clC ([4, 0, 8].getD (k - 24) 99))) && mv_has (mn_apos k) (.arrayOver (mn_ty k)) && decide (mn_ty k = .object (mv_clC ([4, 0, 8].getD (k - 24) 99)))) = true := hch
      simp only [Bool.and_eq_true, decide_eq_true_eq] at hch1
      obtain ⟨⟨⟨⟨hk1, hk2⟩, hlk⟩, -⟩, hty⟩ := hch1
      have e1 : mn_slots (Wd ++ [(k, [], n.toNatClampNeg, [], [])]) = mn_slots Wd + n.toNatClampNeg := by
        rw [mn_slots_app]
        show _ + (if k < 20 then _ else _) = _
        rw [if_neg (by omega)]
      have u1 : Wd.length + 1 ≤ R.cells + k0 := by simpa using hup.1
      have u2 : mn_slots Wd + n.toNatClampNeg ≤ R.slots + s0 := by have := hup.2; dsimp only at this; rw [e1] at this; exact this
      refine mn_newr hx hb hown (hts _ (mv_ts_of (mv_has_mem hlk) rfl)) (C.2.2.2.2.2.1.2.2.1 k hk1 hk2) hP hS hn.1 (by have := hn.2; omega) (by omega) (by omega) hd ?_
      intro cA H1 hAr hRA z1 hP1 hS1
      rw [← hty] at hAr hRA
      have hcA : cA = aC k := C.2.2.2.2.2.1.2.2.2 k (by omega) hk2 cA (mn_RA_name (by omega) hk2 hRA)
      subst hcA
      have hz := hZ lsr H1 locs (cells + 1) (slots + n.toNatClampNeg) hl (by
        show va_P D mv_cl (mn_w base aC b (Wd ++ [_])) H1
        rw [mn_w_app, mn_e_r hk1, ← hH]
        exact hP1) (mn_Ka_app hKa (fun _ => ⟨hk2, hAr, hRA⟩)) hS1 (by simp; omega) (by rw [e1]; omega)
      rw [hH]
      exact hz
    · cases h
  · -- invokespecial
    rename_i i g c0 r
    have hchg : (if g = 99 then mv_at w (.methodLink (mn_N f).1.cls i objectInit) else decide (g < 13) && (mv_at w (.methodLink (mn_N f).1.cls i (mn_N g).1) || mv_at w (.methodLinkNest (mn_N f).1.cls i (mn_N g).1 "WordMonoids"))) = true := hch
    split at h
    · rename_i hg
      rw [if_pos hg] at hchg
      split at h
      · rename_i hcat
        cases h
        refine W.objInit hx hb hown (hts _ (mv_ts_of (mv_has_mem (q := w.toNatClampNeg) hchg) rfl)) (hts _ mn_facts_o.1) (hts _ mn_facts_o.2) rfl hlsz rfl hd (by omega) (by show 2 * 0 + _ + 12 ≤ _; rw [mv_cat_tr]; omega) ?_
        exact hZ lsr H locs cells slots hl hP hKa hS hce hsl
      · cases h
    · rename_i hg
      rw [if_neg hg] at hchg
      split at h
      · rename_i hcat
        rw [Option.map_eq_some_iff] at h
        obtain ⟨W', hq, rfl⟩ := h
        simp only [Bool.and_eq_true, Bool.or_eq_true, decide_eq_true_eq] at hchg
        obtain ⟨hup1, hM⟩ := hc g c0 Wd W' hchg.1 hq
        obtain ⟨hcode, hini, hin, hn1, hn2, hnp, hnm, -⟩ := mn_okc_at hchg.1
        have hgood : GoodIn mv_ts (mn_wsf g) := by
          intro z hz
          rcases List.mem_cons.mp hz with rfl | hz
          · exact ⟨hcode, mv_ts_good hcode⟩
          · exact ⟨hz, mv_ts_good hz⟩
        have hml := (mn_okm_ml (f := g) (by omega)).2.1
        have hroom : (mn_rm d Wd W').frames + 1 ≤ R.frames ∧ 8 + ((mn_N g).2.2 + 11) + (mn_rm d Wd W').locals ≤ R.locals := by
          show d + 1 + 1 ≤ R.frames ∧ 8 + ((mn_N g).2.2 + 11) + 64 * (d + 1) ≤ R.locals
          omega
        have F : CallFix p m c (mn_N f).2.1 c.maxLocals s args mv_ts (mn_N f).1.cls := ⟨hx, hb, rfl, hown, hts⟩
        have hpre : PreS s H (mn_Pc base aC D b c0 Wd) [.ref (base + c0)] := ⟨mn_Pc_blind, fun U hU hW => ⟨rfl, by rw [hU]; exact hH, by rw [hU]; exact hP, mn_Ka_moved hW.alike hKa, mn_St_warm hW C.2.2.2.2.2.1⟩⟩
        have hu : cells + (W'.length - Wd.length) ≤ R.cells ∧ slots + (mn_slots W' - mn_slots Wd) ≤ R.slots := by
          have q1 := hup.1
          have q2 := hup.2
          dsimp only at q1 q2
          have q3 := hup1.1
          have q4 := hup1.2
          omega
        have hrest : 2 * (F0 m pc lsr (Value.ref (base + c0) :: r.map (mv_tr (base + ·) b))).monitorRoom + ((r.map (mv_tr (base + ·) b)).map fun v => v.category).sum ≤ 8 := by
          show 2 * 0 + _ ≤ 8
          rw [mv_cat_tr]
          omega
        have fin : ∀ (H1 : Heap) (locs1 : List Loc), va_P D mv_cl (mn_w base aC b W') H1 → mn_Ka aC W' s → va_S (mn_A base) s.heap H1 locs1 → W p l e R s m args below meth c H1 locs1 (cells + (W'.length - Wd.length)) (slots + (mn_slots W' - mn_slots Wd)) Q (F0 m (pc + 3) lsr (r.map (mv_tr (base + ·) b))) := by
          intro H1 locs1 hP1 hK1 hS1
          refine hZ lsr H1 locs1 _ _ hl hP1 hK1 hS1 ?_ ?_
          · dsimp only
            have := hup1.1
            omega
          · dsimp only
            have := hup1.2
            omega
        rcases hchg.2 with hlk | hlk
        · refine mn_back (va_runI (b := base + c0) (As := []) (rest := r.map (mv_tr (base + ·) b)) F hM ⟨callB_of 0 hts hgood rfl rfl rfl (hts _ hini) (hts _ (mv_ts_of (mv_has_mem (q := w.toNatClampNeg) hlk) rfl)) ⟨hn1, hn2, hnp⟩ hroom, hnm, hts _ hin⟩ hpre rfl rfl hlsz rfl hrest hd hu) hS fin
        · refine mn_back (va_runIN (b := base + c0) (As := []) (rest := r.map (mv_tr (base + ·) b)) F hM ⟨va_cnB 0 hts hgood rfl rfl rfl (C.2.2.2.2.2.1.2.1 _ (mv_has_mem (q := w.toNatClampNeg) hlk) rfl) (hts _ hini) ⟨hn1, hn2, hnp⟩ hroom, hnm, hts _ hin⟩ hpre rfl rfl hlsz rfl hrest hd hu) hS fin
      · cases h
  · -- putfield
    rename_i i ci k kd v0 c0 r
    split at h
    · rename_i q hq
      split at h
      · rename_i hg
        cases h
        obtain ⟨hg1, hg2, hg3⟩ := hg
        have hch1 : (mv_fok (mn_N f).1.cls i w ci k && mv_at w (.fieldLink (mn_N f).1.cls i (mv_clC ci) (mv_clT ci k).2.1 (mv_clT ci k).2.2.1) && decide (mv_clC ci = (mn_N f).1.cls) && mn_kok kd (parseFieldDescriptor (mv_clT ci k).2.2.1)) = true := hch
        simp only [mv_fok, Bool.and_eq_true, decide_eq_true_eq] at hch1
        obtain ⟨⟨⟨⟨⟨⟨hci, hk⟩, hT⟩, -⟩, hlk⟩, hcl⟩, hpf⟩ := hch1
        obtain ⟨ty0, hty, hnm⟩ := mv_cl_ok hci
        have hpd := hty k hk
        rw [hpd] at hpf
        obtain ⟨hn, hfit⟩ := mn_put_ok (base := base) (b0 := b) hg3 hpf
        have he : (mn_w base aC b Wd)[c0]? = some (base + c0, .inr (ci, q.2.1.map (mv_tr (base + ·) b))) := by rw [mn_w_at hq, mn_e_o (by omega), hg1]
        have hll : k < (q.2.1.map (mv_tr (base + ·) b)).length := by rw [List.length_map]; exact hg2
        have hfin : ∀ (H1 : Heap) (locs1 : List Loc), va_P D mv_cl ((mn_w base aC b Wd).set c0 (base + c0, .inr (ci, (q.2.1.map (mv_tr (base + ·) b)).set k (mv_tr (base + ·) b v0)))) H1 → va_S (mn_A base) s.heap H1 locs1 → W p l e R s m args below meth c H1 locs1 cells slots Q (F0 m (pc + 3) lsr (r.map (mv_tr (base + ·) b))) := by
          intro H1 locs1 hP1 hS1
          refine hZ lsr H1 locs1 cells slots hl ?_ (mn_Ka_set hKa hq rfl) hS1 ?_ ?_
          · dsimp only
            rw [mn_w_set, mn_e_o (x := (q.1, q.2.1.set k v0, q.2.2.1, q.2.2.2.1, q.2.2.2.2)) (show q.1 < 20 by omega)]
            dsimp only
            rw [hg1, List.map_set]
            exact hP1
          · dsimp only
            rw [List.length_set]
            exact hce
          · dsimp only
            rw [mn_slots_set (x := (q.1, q.2.1.set k v0, q.2.2.1, q.2.2.2.1, q.2.2.2.2)) hq rfl rfl]
            exact hsl
        have hTo : (mv_clT ci k).1 = (mn_N f).1.cls := hT.trans hcl
        have hl9 := hts _ (mv_ts_of (mv_has_mem (q := w.toNatClampNeg) hlk) rfl)
        cases hfi : (mv_clT ci k).2.2.2 with
        | false => exact va_put (D := D) hx hb hts (mv_uws hci) ty0 hty hnm hown hK hP mn_w_D hS c0 he (mv_cl_at hci) k hk hl9 (fun x h9 => by rw [← hT]; exact h9) hfi hpd hn hfit hll hd (fun H1 locs1 hP1 _ hS1 => hfin H1 locs1 hP1 hS1)
        | true =>
          have h13 : f < 13 := by
            refine Decidable.byContradiction fun q9 => ?_
            have : f = 13 := by omega
            subst this
            have h8 : ∀ j, j < 13 → ¬ mv_clC j = "WordMonoidsLaw" := by decide
            exact h8 ci hci hcl
          exact va_putF (D := D) hx hb hts (mv_uws hci) ty0 hty hnm hown hK hP mn_w_D hS c0 he (mv_cl_at hci) k hk hl9 (fun x h9 => by rw [← hT]; exact h9) hfi (C.2.2.2.2.2.2.2 h13) hTo hpd hn hfit hll hd (fun H1 locs1 hP1 _ hS1 => hfin H1 locs1 hP1 hS1)
      · cases h
    · cases h
  · -- getfield
    rename_i i ci k kd c0 r
    split at h
    · rename_i q hq
      split at h
      · rename_i hg
        split at h
        · rename_i v0 hv0
          cases h
          have hch1 : mv_fok (mn_N f).1.cls i w ci k = true := hch
          simp only [mv_fok, Bool.and_eq_true, Bool.or_eq_true, decide_eq_true_eq] at hch1
          obtain ⟨⟨⟨hci, hk⟩, hT⟩, hlk⟩ := hch1
          have he : (mn_w base aC b Wd)[c0]? = some (base + c0, .inr (ci, q.2.1.map (mv_tr (base + ·) b))) := by rw [mn_w_at hq, mn_e_o (by omega), hg]
          have hv : (q.2.1.map (mv_tr (base + ·) b))[k]? = some (mv_tr (base + ·) b v0) := by rw [List.getElem?_map, hv0]; rfl
          have hz := hZ lsr H locs cells slots hl hP hKa hS hce hsl
          rcases hlk with hlk | hlk
          · exact va_get (D := D) hx hb hts (mv_uws hci) hown hK hP c0 he (mv_cl_at hci) k hk (hts _ (mv_ts_of (mv_has_mem (q := w.toNatClampNeg) hlk) rfl)) (fun x h9 => by rw [← hT]; exact h9) hv hd hz
          · exact va_getN (D := D) hx hb hts (mv_uws hci) hown hK hP c0 he (mv_cl_at hci) k hk (va_Nw.use rfl (C.2.2.2.2.2.1.2.1 _ (mv_has_mem (q := w.toNatClampNeg) hlk) rfl)) (fun x h9 => by rw [← hT]; exact h9) hv hd hz
        · cases h
      · cases h
    · cases h
  · -- iastore
    rename_i v0 i c0 r
    split at h
    · rename_i q hq
      split at h
      · rename_i hg
        cases h
        obtain ⟨hg1, hg2, hg3⟩ := hg
        have hka := hKa q (List.mem_of_getElem? hq) (by omega)
        rw [hg1] at hka
        have he : (mn_w base aC b Wd)[c0]? = some (base + c0, .inl (aC 20, q.2.2.1, .inl (fun j => (mn_lu q.2.2.2.1 j).getD 0))) := by rw [mn_w_at hq, mn_e_i (by omega) (by omega), hg1]
        refine va_iast hx hb (mn_K1 hK hka.2.1 hka.2.2) hP mn_w_D hS c0 0 he rfl (fun z => z.elim hg2 (fun z => by omega)) hd (fun H1 locs1 hP1 _ hS1 => ?_)
        refine hZ lsr H1 locs1 cells slots hl ?_ (mn_Ka_set hKa hq rfl) hS1 ?_ ?_
        · dsimp only
          rw [mn_w_set, mn_e_i (x := (q.1, q.2.1, q.2.2.1, (i.toNatClampNeg, v0) :: q.2.2.2.1, q.2.2.2.2)) (show ¬ q.1 < 20 by omega) (show q.1 < 23 by omega)]
          dsimp only
          rw [hg1, mn_lu_upd]
          exact hP1
        · dsimp only
          rw [List.length_set]
          exact hce
        · dsimp only
          rw [mn_slots_set (x := (q.1, q.2.1, q.2.2.1, (i.toNatClampNeg, v0) :: q.2.2.2.1, q.2.2.2.2)) hq rfl rfl]
          exact hsl
      · cases h
    · cases h
  · -- aastore
    rename_i v0 i c0 r
    split at h
    · rename_i q z hq hz0
      split at h
      · rename_i hg
        cases h
        obtain ⟨hg1, hg2, hg3, hg4, hg5⟩ := hg
        have hka := hKa q (List.mem_of_getElem? hq) (by omega)
        have hci : z.1 < 13 ∧ mn_ty q.1 = .object (mv_clC z.1) := by
          have hk : q.1 = 24 ∨ q.1 = 25 ∨ q.1 = 26 := by omega
          rcases hk with hk | hk | hk <;> rw [hk] at hg3 ⊢ <;> rw [hg3] <;> exact ⟨by decide, rfl⟩
        have hka2 := hka.2
        rw [hci.2] at hka2
        have he : (mn_w base aC b Wd)[c0]? = some (base + c0, .inl (aC q.1, q.2.2.1, .inr (.inr (.inr (.inr (fun j => (mn_lu q.2.2.2.2 j).map (base + ·))))))) := by rw [mn_w_at hq, mn_e_r hg1]
        have hv : (mn_w base aC b Wd)[v0]? = some (base + v0, .inr (z.1, z.2.1.map (mv_tr (base + ·) b))) := by rw [mn_w_at hz0, mn_e_o (by omega)]
        refine va_astq (r := (mv_clC z.1, mv_clT z.1, mv_clN z.1)) hx hb (mn_K1 hK hka2.1 hka2.2) hP mn_w_D hS c0 0 v0 z.1 he rfl hv (mv_cl_at hci.1) (fun z => z.elim hg4 (fun z => by omega)) hd (fun H1 locs1 hP1 _ hS1 => ?_)
        refine hZ lsr H1 locs1 cells slots hl ?_ (mn_Ka_set hKa hq rfl) hS1 ?_ ?_
        · dsimp only
          rw [mn_w_set, mn_e_r (x := (q.1, q.2.1, q.2.2.1, q.2.2.2.1, (i.toNatClampNeg, v0) :: q.2.2.2.2)) hg1]
          dsimp only
          rw [mn_lu_up]
          exact hP1
        · dsimp only
          rw [List.length_set]
          exact hce
        · dsimp only
          rw [mn_slots_set (x := (q.1, q.2.1, q.2.2.1, q.2.2.2.1, (i.toNatClampNeg, v0) :: q.2.2.2.2)) hq rfl rfl]
          exact hsl
      · cases h
    · cases h
  · cases h
end MNT
