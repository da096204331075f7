/-! ===== the constructors' machine is the machine's ===== -/
def mn_ty (k : Nat) : FieldType := match k with
  | 20 => .int
  | 21 => .byte
  | 22 => .boolean
  | 23 => .long
  | 24 => .object "WordMonoids$Machine"
  | 25 => .object "WordMonoids$Formula"
  | _ => .object "WordMonoids$Sheet"
def mn_e (base : Nat) (aC : Nat → ClassId) (b : Nat) (x : mn_C) : va_E :=
  if x.1 < 20 then .inr (x.1, x.2.1.map (mv_tr (base + ·) b))
  else if x.1 < 23 then .inl (aC x.1, x.2.2.1, .inl (fun j => (mn_lu x.2.2.2.1 j).getD 0))
  else if x.1 = 23 then .inl (aC x.1, x.2.2.1, .inr (.inl (fun _ => 0)))
  else .inl (aC x.1, x.2.2.1, .inr (.inr (.inr (.inr (fun j => (mn_lu x.2.2.2.2 j).map (base + ·))))))
def mn_w (base : Nat) (aC : Nat → ClassId) (b : Nat) (W : List mn_C) : va_W := W.mapIdx (fun i x => (base + i, mn_e base aC b x))
def mn_A (base : Nat) : Nat → Prop := fun q => base ≤ q
section MNW
variable {base : Nat} {aC : Nat → ClassId} {b : Nat} {W : List mn_C}
theorem mn_w_at {c : Nat} {q : mn_C} (h : W[c]? = some q) : (mn_w base aC b W)[c]? = some (base + c, mn_e base aC b q) := by
  unfold mn_w
  rw [List.getElem?_mapIdx, h]
  rfl
theorem mn_w_app {x : mn_C} : mn_w base aC b (W ++ [x]) = mn_w base aC b W ++ [(base + W.length, mn_e base aC b x)] := by
  unfold mn_w
  rw [List.mapIdx_append]
  simp
theorem mn_w_set {c : Nat} {x : mn_C} : mn_w base aC b (W.set c x) = (mn_w base aC b W).set c (base + c, mn_e base aC b x) := by
  unfold mn_w
  apply List.ext_getElem?
  intro i
  rw [List.getElem?_mapIdx, List.getElem?_set, List.getElem?_set, List.getElem?_mapIdx, List.length_mapIdx]
  by_cases e : c = i
  · subst e
    rw [if_pos rfl, if_pos rfl]
    by_cases hl : c < W.length
    · rw [if_pos hl, if_pos hl]; rfl
    · rw [if_neg hl, if_neg hl]; rfl
  · rw [if_neg e, if_neg e]
theorem mn_w_D : va_D (mn_A base) (mn_w base aC b W) := by
  have key : ∀ (k : Nat) (q : Nat × va_E), (mn_w base aC b W)[k]? = some q → q.1 = base + k := by
    intro k q hk
    unfold mn_w at hk
    rw [List.getElem?_mapIdx] at hk
    cases hw : W[k]? with
    | none => rw [hw] at hk; cases hk
    | some x => rw [hw] at hk; cases hk; rfl
  refine ⟨fun i j p q hp hq h => ?_, fun k q hk => ?_⟩
  · rw [key i p hp, key j q hq] at h; omega
  · show base ≤ q.1
    rw [key k q hk]; omega
end MNW
/-! new cells, where the heap ends -/
section MNN
variable {p : Program} {l : Launch} {e : Env} {R : Room} {s : State} {m : MethodId} {args : Array Value} {below : List Frame} {meth : Method} {c : Code} {H : Heap} {locs : List Loc} {cells slots : Nat} {Q : State → Prop} {cc : ByteArray} {pc : Nat} {ls : Array Slot} {rest : List Value} {D : va_G} {cl : List vw_C} {A : Nat → Prop} {tys : List (ClassId × FieldType)} {ws : va_W}
theorem mn_new1 {H1 : Heap} {y : va_E} (hP : va_P D cl ws H) (o1 : ∀ q, q < H.size → H1[q]? = H[q]?) (h : va_at D cl (H.size, y) H1) : va_P D cl (ws ++ [(H.size, y)]) H1 := by
  refine (hP.kept fun k x hx => o1 x.1 ((hP k x hx).lt)).app fun k x hx => ?_
  have hz : k < 1 := (List.getElem?_eq_some_iff.mp hx).1
  rw [show k = 0 by omega] at hx
  cases hx
  exact h
theorem mn_newS {H1 : Heap} (hS : va_S A s.heap H locs) (o1 : ∀ q, q < H.size → H1[q]? = H[q]?) (z : H1.size = H.size + 1) : va_S A s.heap H1 locs :=
  ⟨Nat.le_trans hS.1 (by omega), fun x h1 h2 => (o1 x (Nat.lt_of_lt_of_le h1 hS.1)).trans (hS.2.1 x h1 h2), hS.2.2⟩
theorem mn_newo (hexec : p.tables.exec = Jvm.exec) (hb : c.code = cc) {own C : String} {T : u_T} {N ci index : Nat} {Ts : List Jvm.Cond} (hts : ∀ w ∈ Ts, w.before args s = true) (hin : ∀ w ∈ u_ws C T N, w ∈ Ts) (ty : Nat → FieldType) (hty : ∀ k, k < N → parseFieldDescriptor (T k).2.2.1 = some (ty k)) (hown : s.vm.findClass own = some m.cls) (hcl : (Jvm.Cond.classLink own index C).before args s = true) (hinst : (Jvm.Cond.instantiable C N).before args s = true) (hini : (Jvm.Cond.initialized C).before args s = true)
    (hK : va_K D cl tys s) (hP : va_P D cl ws H) (hS : va_S A s.heap H locs) (hc : cl[ci]? = some (C, T, N)) {fs : List Value} (hfs : ∀ j, j < N → defaultValue (ty j) = vp_V fs j) (hcells : cells + 1 ≤ R.cells) (hslots : slots + N ≤ R.slots) (hdg : decode cc pc = .ok (.new index, 3))
    (kk : ∀ H1 : Heap, H1.size = H.size + 1 → va_P D cl (ws ++ [(H.size, .inr (ci, fs))]) H1 → va_S A s.heap H1 locs →
      W p l e R s m args below meth c H1 locs (cells + 1) (slots + N) Q (F0 m (pc + 3) ls (.ref H.size :: rest))) : W p l e R s m args below meth c H locs cells slots Q (F0 m pc ls rest) := by
  have hKn := hK.1 ci _ hc
  refine W.newcK hexec hb hown hcl hinst hini rfl hdg hcells hslots hKn.2.1 rfl fun H1 kC hkC e1 z1 o1 => ?_
  exact kk H1 z1 (mn_new1 hP o1 ⟨_, hc, (u_born ty hts hin hKn hkC e1 hty).to hfs⟩) (mn_newS hS o1 z1)
theorem mn_newi (hexec : p.tables.exec = Jvm.exec) (hb : c.code = cc) {atype : ArrayType} (harr : (Jvm.Cond.arrayClass (newarray.typeOf atype)).before args s = true) (hP : va_P D cl ws H) (hS : va_S A s.heap H locs)
    {n : Int32} {a0 : vp_A} (ha : ∀ cA : ClassId, vp_cell cA a0 = arrV cA n.toNatClampNeg (fun _ => defaultValue (newarray.typeOf atype))) (hn : ¬ n < 0) (hbytes : n.toNatClampNeg * componentBytes (newarray.typeOf atype) ≤ 536870912) (hcells : cells + 1 ≤ R.cells) (hslots : slots + n.toNatClampNeg ≤ R.slots) (hdg : decode cc pc = .ok (.newarray atype, 2))
    (kk : ∀ (cA : ClassId) (H1 : Heap), ArrOfT s cA (newarray.typeOf atype) → s.vm.findClass ("[" ++ (newarray.typeOf atype).toString) = some cA → H1.size = H.size + 1 → va_P D cl (ws ++ [(H.size, .inl (cA, a0))]) H1 → va_S A s.heap H1 locs →
      W p l e R s m args below meth c H1 locs (cells + 1) (slots + n.toNatClampNeg) Q (F0 m (pc + 2) ls (.ref H.size :: rest))) : W p l e R s m args below meth c H locs cells slots Q (F0 m pc ls (.int n :: rest)) := by
  refine va_newaK hexec hb harr rfl hdg rfl hn rfl hbytes hcells hslots rfl fun H1 cA e1 z1 o1 hAr hNm => ?_
  exact kk cA H1 hAr hNm z1 (mn_new1 hP o1 (by show H1[H.size]? = some (vp_cell _ _); rw [ha]; exact e1)) (mn_newS hS o1 z1)
theorem mn_newr (hexec : p.tables.exec = Jvm.exec) (hb : c.code = cc) {own C : String} {index : Nat} (hown : s.vm.findClass own = some m.cls) (hclink : (Jvm.Cond.classLink own index C).before args s = true) (hover : va_AO C s) (hP : va_P D cl ws H) (hS : va_S A s.heap H locs)
    {n : Int32} (hn : ¬ n < 0) (hbytes : n.toNatClampNeg * 4 ≤ 536870912) (hcells : cells + 1 ≤ R.cells) (hslots : slots + n.toNatClampNeg ≤ R.slots) (hdg : decode cc pc = .ok (.anewarray index, 3))
    (kk : ∀ (cA : ClassId) (H1 : Heap), ArrOfT s cA (.object C) → va_RA s cA (.object C) → H1.size = H.size + 1 → va_P D cl (ws ++ [(H.size, .inl (cA, n.toNatClampNeg, .inr (.inr (.inr (.inr (fun _ => none))))))]) H1 → va_S A s.heap H1 locs →
      W p l e R s m args below meth c H1 locs (cells + 1) (slots + n.toNatClampNeg) Q (F0 m (pc + 3) ls (.ref H.size :: rest))) : W p l e R s m args below meth c H locs cells slots Q (F0 m pc ls (.int n :: rest)) := by
  refine W.anew hexec hb hown hclink (va_AO.use hover) rfl hdg rfl hn hbytes hcells hslots fun cA kA comp f1 f2 f3 f4 => ?_
  generalize hH1 : H.push ({ cls := cA, slots := Array.replicate n.toNatClampNeg .null, vm := .none } : Cell) = H1
  have z1 : H1.size = H.size + 1 := by rw [← hH1, Array.size_push]
  have e1 : H1[H.size]? = some (arrV cA n.toNatClampNeg (fun _ => .null)) := by rw [← hH1, Array.getElem?_push_size, ← arrV_new]
  have o1 : ∀ q : Nat, q < H.size → H1[q]? = H[q]? := fun q hq => by rw [← hH1, Array.getElem?_push, if_neg (Nat.ne_of_lt hq)]
  exact kk cA H1 (fun N z => ⟨(fun k h => by cases h), kA, f2, comp, f3⟩) ⟨kA, comp, f2, f3, f4, f1⟩ z1 (mn_new1 hP o1 (by show H1[H.size]? = some (vp_cell _ _); rw [vp_cell_q]; exact e1)) (mn_newS hS o1 z1)
end MNN
/-! what the tables say of the constructors -/
/-- a field's kind and its type -/
def mn_kok (kd : Nat) (ty : Option FieldType) : Bool := match kd, ty with
  | 0, some .int => true
  | 1, some .long => true
  | 3, some .boolean => true
  | 2, some (.object _) => true
  | 2, some (.array _) => true
  | _, _ => false
def mn_chk (own : String) (pc : Nat) (x : mv_I) : Bool := match x.1 with
  | .iconst n => decide (Int32.ofInt n = x.2.2.2.1)
  | .bipush n => decide ((Int8.ofInt n).toInt32 = x.2.2.2.1)
  | .sipush n => decide ((Int16.ofInt n).toInt32 = x.2.2.2.1)
  | .ldc i => mv_at x.2.2.2.2 (.constant own i x.2.2.2.1)
  | .ldc2_w i => mv_has (x.2.2.1.headD 0) (.constantLong own i x.2.2.2.2)
  | .iinc _ n => decide (Int32.ofInt n = x.2.2.2.1)
  | .goto o => decide ((pc : Int) + o = ((x.2.2.1.headD 0 : Nat) : Int))
  | .if_icmp _ o => decide ((pc : Int) + o = ((x.2.2.1.headD 0 : Nat) : Int))
  | .new i => match x.2.2.1 with
    | [ci] => decide (ci < 13) && mv_at x.2.2.2.2 (.classLink own i (mv_clC ci)) && mv_has (mn_cpos ci).1 (.instantiable (mv_clC ci) (mv_clN ci)) && mv_has (mn_cpos ci).2 (.initialized (mv_clC ci)) && decide (mn_def ci = (List.range (mv_clN ci)).map fun j => match parseFieldDescriptor (mv_clT ci j).2.2.1 with
      | some ty => defaultValue ty
      | none => .null)
    | _ => false
  | .newarray t => match x.2.2.1 with
    | [k] => decide (20 ≤ k) && decide (k < 24) && decide (newarray.typeOf t = mn_ty k) && mv_has (mn_apos k) (.arrayClass (mn_ty k))
    | _ => false
  | .anewarray i => match x.2.2.1 with
    | [k] => decide (24 ≤ k) && decide (k < 27) && mv_at x.2.2.2.2 (.classLink own i (mv_clC ([4, 0, 8].getD (k - 24) 99))) && mv_has (mn_apos k) (.arrayOver (mn_ty k)) && decide (mn_ty k = .object (mv_clC ([4, 0, 8].getD (k - 24) 99)))
    | _ => false
  | .invokespecial i => match x.2.2.1 with
    | [g] => if g = 99 then mv_at x.2.2.2.2 (.methodLink own i objectInit) else decide (g < 13) && (mv_at x.2.2.2.2 (.methodLink own i (mn_N g).1) || mv_at x.2.2.2.2 (.methodLinkNest own i (mn_N g).1 "WordMonoids"))
    | _ => false
  | .getfield i => match x.2.2.1 with
    | [ci, k, _] => mv_fok own i x.2.2.2.2 ci k
    | _ => false
  | .putfield i => match x.2.2.1 with
    | [ci, k, kd] => mv_fok own i x.2.2.2.2 ci k && mv_at x.2.2.2.2 (.fieldLink own i (mv_clC ci) (mv_clT ci k).2.1 (mv_clT ci k).2.2.1) && decide (mv_clC ci = own) && mn_kok kd (parseFieldDescriptor (mv_clT ci k).2.2.1)
    | _ => false
  | _ => true
def mn_len (i : Instr) (n : Nat) : Nat := match i with
  | .new _ => 3
  | .newarray _ => 2
  | .anewarray _ => 3
  | .invokespecial _ => 3
  | i => mv_len i n
def mn_okm (f : Nat) : Bool := (mn_P f).2.2.all (fun q => decide (decode (mn_N f).2.1 q.1 = .ok (q.2.1, mn_len q.2.1 q.2.2.1)) && mn_chk (mn_N f).1.cls q.1 q.2) && decide ((mn_P f).1 = (mn_N f).2.2) && decide ((mn_N f).2.2 ≤ 40) && Jvm.plainName (mn_N f).1.cls
def mn_okc (f : Nat) : Bool := mv_has (mn_pos f).1 (.code (mn_N f).1 (mn_N f).2.1 (mn_N f).2.2 none) && mv_has (mn_pos f).2.1 (.initialized (mn_N f).1.cls) && mv_has (mn_pos f).2.2 (.instanceMethod (mn_N f).1) && decide ((mn_N f).1.cls ≠ "java/lang/invoke/MethodHandle") && decide ((mn_N f).1.cls ≠ "java/lang/invoke/VarHandle") && decide ((parseMethodDescriptor (mn_N f).1.desc).map (fun d => d.parameters.length) = some 0) && decide ((mn_N f).1.name = "<init>") && decide (1 ≤ (mn_P f).1)
set_option maxRecDepth 100000 in
theorem mn_ok_a : (List.range 14).all (fun f => mn_okm f) = true := by decide +kernel
set_option maxRecDepth 100000 in
theorem mn_ok_b : (List.range 13).all (fun f => mn_okc f) = true := by decide +kernel
set_option maxRecDepth 100000 in
theorem mn_fb_o : (mv_ts.contains (.instanceMethod objectInit) && mv_ts.contains (.code objectInit ⟨#[0xb1]⟩ 1 none)) = true := by decide +kernel
theorem mn_okm_at {f pc : Nat} {x : mv_I} (hf : f < 14) (hlk : mv_lk (mn_P f).2.2 pc = some x) : decode (mn_N f).2.1 pc = .ok (x.1, mn_len x.1 x.2.1) ∧ mn_chk (mn_N f).1.cls pc x = true := by
  have hok := List.all_eq_true.mp mn_ok_a f (List.mem_range.mpr hf)
  unfold mn_okm at hok
  simp only [Bool.and_eq_true] at hok
  have h := List.all_eq_true.mp hok.1.1.1 _ (mv_lk_mem _ hlk)
  simp only [Bool.and_eq_true, decide_eq_true_eq] at h
  exact h
theorem mn_okm_ml {f : Nat} (hf : f < 14) : (mn_P f).1 = (mn_N f).2.2 ∧ (mn_N f).2.2 ≤ 40 ∧ Jvm.plainName (mn_N f).1.cls = true := by
  have hok := List.all_eq_true.mp mn_ok_a f (List.mem_range.mpr hf)
  unfold mn_okm at hok
  simp only [Bool.and_eq_true, decide_eq_true_eq] at hok
  exact ⟨hok.1.1.2, hok.1.2, hok.2⟩
theorem mn_okc_at {f : Nat} (hf : f < 13) : Jvm.Cond.code (mn_N f).1 (mn_N f).2.1 (mn_N f).2.2 none ∈ mv_ts ∧ Jvm.Cond.initialized (mn_N f).1.cls ∈ mv_ts ∧ Jvm.Cond.instanceMethod (mn_N f).1 ∈ mv_ts ∧ (mn_N f).1.cls ≠ "java/lang/invoke/MethodHandle" ∧ (mn_N f).1.cls ≠ "java/lang/invoke/VarHandle" ∧ (parseMethodDescriptor (mn_N f).1.desc).map (fun d => d.parameters.length) = some 0 ∧ (mn_N f).1.name = "<init>" ∧ 1 ≤ (mn_P f).1 := by
  have hok := List.all_eq_true.mp mn_ok_b f (List.mem_range.mpr hf)
  unfold mn_okc at hok
  simp only [Bool.and_eq_true, decide_eq_true_eq] at hok
  obtain ⟨⟨⟨⟨⟨⟨⟨h1, h2⟩, h3⟩, h4⟩, h5⟩, h6⟩, h7⟩, h8⟩ := hok
  exact ⟨mv_ts_of (mv_has_mem h1) rfl, mv_ts_of (mv_has_mem h2) rfl, mv_ts_of (mv_has_mem h3) rfl, h4, h5, h6, h7, h8⟩
theorem mn_facts_o : Jvm.Cond.instanceMethod objectInit ∈ mv_ts ∧ Jvm.Cond.code objectInit ⟨#[0xb1]⟩ 1 none ∈ mv_ts := by
  have h := mn_fb_o
  simp only [Bool.and_eq_true, List.contains_iff_mem] at h
  exact h
