/-! ===== the constructors' machine: cells come, one behind the other; all is known, so it is a function ===== -/
/-- a cell: its kind (a class below 20, an array's kind), its fields, its length, what was stored as ints, as references -/
abbrev mn_C : Type := Nat × List Value × Nat × List (Nat × Int32) × List (Nat × Nat)
abbrev mn_T : Type := Nat × List Value × List Value × List mn_C
def mn_lu {α : Type} : List (Nat × α) → Nat → Option α
  | [], _ => none
  | (q, x) :: t, j => if j = q then some x else mn_lu t j
def mn_def (ci : Nat) : List Value := (mv_fkL.getD ci []).map fun k => match k with
  | 1 => .long 0
  | 2 => .null
  | _ => .int 0
def mn_put (k : Nat) (v : Value) : Bool := match k, v with
  | 0, .int _ => true
  | 1, .long _ => true
  | 2, .ref _ => true
  | 3, .int x => x == 0
  | _, _ => false
def mn_stp (call : Nat → Nat → List mn_C → Option (List mn_C)) (pc : Nat) (x : mv_I) (ls st : List Value) (W : List mn_C) : Option mn_T :=
  match x.1, x.2.2.1, st with
  | .iconst _, _, st => some (pc + 1, ls, .int x.2.2.2.1 :: st, W)
  | .bipush _, _, st => some (pc + 2, ls, .int x.2.2.2.1 :: st, W)
  | .sipush _, _, st => some (pc + 3, ls, .int x.2.2.2.1 :: st, W)
  | .ldc _, _, st => some (pc + 2, ls, .int x.2.2.2.1 :: st, W)
  | .ldc2_w _, _, st => some (pc + 3, ls, .long x.2.2.2.2 :: st, W)
  | .aload_n k, _, st => match mv_get ls k with
    | .ref c => some (pc + 1, ls, .ref c :: st, W)
    | _ => none
  | .iload_n k, _, st => match mv_get ls k with
    | .int v => some (pc + 1, ls, .int v :: st, W)
    | _ => none
  | .istore_n k, _, .int v :: r => if mv_free ls k = true ∧ k.1 < ls.length then some (pc + 1, mv_set ls k (.int v), r, W) else none
  | .astore_n k, _, .ref v :: r => if mv_free ls k = true ∧ k.1 < ls.length then some (pc + 1, mv_set ls k (.ref v), r, W) else none
  | .iinc i _, _, st => match mv_get ls i with
    | .int v => if mv_free ls i = true ∧ i < ls.length then some (pc + 3, mv_set ls i (.int (v + x.2.2.2.1)), st, W) else none
    | _ => none
  | .dup, _, .ref c :: r => some (pc + 1, ls, .ref c :: .ref c :: r, W)
  | .goto _, [t], st => some (t, ls, st, W)
  | .if_icmp .ge _, [t], .int b :: .int a :: r => some (if b ≤ a then t else pc + 3, ls, r, W)
  | .new _, [ci], st => some (pc + 3, ls, .ref W.length :: st, W ++ [(ci, mn_def ci, 0, [], [])])
  | .newarray _, [k], .int n :: r => if ¬ n < 0 ∧ n.toNatClampNeg ≤ 100000 then some (pc + 2, ls, .ref W.length :: r, W ++ [(k, [], n.toNatClampNeg, [], [])]) else none
  | .anewarray _, [k], .int n :: r => if ¬ n < 0 ∧ n.toNatClampNeg ≤ 100000 then some (pc + 3, ls, .ref W.length :: r, W ++ [(k, [], n.toNatClampNeg, [], [])]) else none
  | .invokespecial _, [g], .ref c :: r => if g = 99 then (if mv_cat r ≤ 8 then some (pc + 3, ls, r, W) else none) else if mv_cat r ≤ 8 ∧ g < 13 then (call g c W).map fun W' => (pc + 3, ls, r, W') else none
  | .putfield _, [ci, k, kd], v :: .ref c :: r => match W[c]? with
    | some q => if q.1 = ci ∧ k < q.2.1.length ∧ mn_put kd v = true then some (pc + 3, ls, r, W.set c (q.1, q.2.1.set k v, q.2.2.1, q.2.2.2.1, q.2.2.2.2)) else none
    | none => none
  | .getfield _, [ci, k, _], .ref c :: r => match W[c]? with
    | some q => if q.1 = ci then (match q.2.1[k]? with
      | some v => some (pc + 3, ls, v :: r, W)
      | none => none) else none
    | none => none
  | .iastore, _, .int v :: .int i :: .ref c :: r => match W[c]? with
    | some q => if q.1 = 20 ∧ ¬ i < 0 ∧ i.toNatClampNeg < q.2.2.1 then some (pc + 1, ls, r, W.set c (q.1, q.2.1, q.2.2.1, (i.toNatClampNeg, v) :: q.2.2.2.1, q.2.2.2.2)) else none
    | none => none
  | .aastore, _, .ref v :: .int i :: .ref c :: r => match W[c]?, W[v]? with
    | some q, some z => if 24 ≤ q.1 ∧ q.1 < 27 ∧ z.1 = [4, 0, 8].getD (q.1 - 24) 99 ∧ ¬ i < 0 ∧ i.toNatClampNeg < q.2.2.1 then some (pc + 1, ls, r, W.set c (q.1, q.2.1, q.2.2.1, q.2.2.2.1, (i.toNatClampNeg, v) :: q.2.2.2.2)) else none
    | _, _ => none
  | _, _, _ => none
/-- goes on till a return, or the given place -/
def mn_go (call : Nat → Nat → List mn_C → Option (List mn_C)) (f stop : Nat) : Nat → mn_T → Option mn_T
  | 0, _ => none
  | n + 1, (pc, ls, st, W) => if pc = stop then some (pc, ls, st, W) else match mv_lk (mn_P f).2.2 pc with
    | none => none
    | some x => if x.1 = .return_ then some (pc, ls, st, W) else match mn_stp call pc x ls st W with
      | none => none
      | some t => mn_go call f stop n t
def mn_call : Nat → Nat → Nat → List mn_C → Option (List mn_C)
  | 0, _, _, _ => none
  | d + 1, g, c, W => match mn_go (mn_call d) g 99999 1000 (0, mv_pad (mn_P g).1 [.ref c], [], W) with
    | some (pc, _, [], W') => match mv_lk (mn_P g).2.2 pc with
      | some x => if x.1 = .return_ then some W' else none
      | none => none
    | _ => none
/-- the cells behind both -/
def mn_all : Option mn_T := mn_go (mn_call 6) 13 18 1000 (0, [.retAddr 1, .retAddr 0, .retAddr 0, .retAddr 0], [], [])
def mn_slots (W : List mn_C) : Nat := (W.map fun q => if q.1 < 20 then mv_clN q.1 else q.2.2.1).sum
set_option maxRecDepth 1000000 in
theorem mn_t1 : (mn_all.map fun t => (t.1, t.2.1, t.2.2.1, t.2.2.2.length, mn_slots t.2.2.2)) = some (18, [.retAddr 1, .ref 0, .ref 61, .int 0], [], 96, 238126) := by decide +kernel
