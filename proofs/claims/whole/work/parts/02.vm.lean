/-! ===== a small machine: the instructions that the claim's methods use, over a store of numbers alone; its weakest preconditions ===== -/
/-- ints by cell and place, longs by cell and place -/
abbrev mv_S : Type := (Nat → Nat → Int32) × (Nat → Nat → Int64)
abbrev mv_K : Type := Nat → List Value → List Value → mv_S → Prop
abbrev mv_Q : Type := Option Value → mv_S → Prop
/-- the script -/
abbrev mv_X : Type := Nat × (Nat → Int32)
def mv_pi (σ : mv_S) (c k : Nat) (v : Int32) : mv_S := (fun c' k' => if c' = c ∧ k' = k then v else σ.1 c' k', σ.2)
def mv_pl (σ : mv_S) (c k : Nat) (v : Int64) : mv_S := (σ.1, fun c' k' => if c' = c ∧ k' = k then v else σ.2 c' k')
def mv_lk : List (Nat × mv_I) → Nat → Option mv_I
  | [], _ => none
  | (q, x) :: t, pc => match Nat.beq q pc with
    | true => some x
    | false => mv_lk t pc
def mv_get : List Value → Nat → Value
  | [], _ => .retAddr 0
  | v :: _, 0 => v
  | _ :: t, i + 1 => mv_get t i
def mv_set : List Value → Nat → Value → List Value
  | [], _, _ => []
  | _ :: t, 0, v => v :: t
  | w :: t, i + 1, v => w :: mv_set t i v
/-- the value ahead of a place is no long -/
def mv_free (ls : List Value) (i : Nat) : Bool := match i with
  | 0 => true
  | j + 1 => match mv_get ls j with
    | .long _ => false
    | .double _ => false
    | _ => true
def mv_catv : Value → Nat
  | .long _ => 2
  | .double _ => 2
  | _ => 1
def mv_cat : List Value → Nat
  | [] => 0
  | v :: t => mv_catv v + mv_cat t
def mv_slots : List Value → List Value
  | [] => []
  | .long x :: t => .long x :: .retAddr 0 :: mv_slots t
  | .double x :: t => .double x :: .retAddr 0 :: mv_slots t
  | v :: t => v :: mv_slots t
def mv_pad : Nat → List Value → List Value
  | 0, ls => ls
  | n + 1, [] => .retAddr 0 :: mv_pad n []
  | n + 1, v :: t => v :: mv_pad n t
def mv_pop : Nat → List Value → List Value → (List Value → List Value → Prop) → Prop
  | 0, acc, st, k => k acc st
  | _ + 1, _, [], _ => False
  | n + 1, acc, v :: st, k => mv_pop n (v :: acc) st k
def mv_i1 (st : List Value) (k : Int32 → List Value → Prop) : Prop := match st with
  | .int a :: r => k a r
  | _ => False
def mv_i2 (st : List Value) (k : Int32 → Int32 → List Value → Prop) : Prop := match st with
  | .int b :: .int a :: r => k a b r
  | _ => False
def mv_l1 (st : List Value) (k : Int64 → List Value → Prop) : Prop := match st with
  | .long a :: r => k a r
  | _ => False
def mv_l2 (st : List Value) (k : Int64 → Int64 → List Value → Prop) : Prop := match st with
  | .long b :: .long a :: r => k a b r
  | _ => False
def mv_r1 (st : List Value) (k : Nat → List Value → Prop) : Prop := match st with
  | .ref c :: r => k c r
  | _ => False
def mv_ir (st : List Value) (k : Int32 → Nat → List Value → Prop) : Prop := match st with
  | .int i :: .ref c :: r => k i c r
  | _ => False
def mv_iir (st : List Value) (k : Int32 → Int32 → Nat → List Value → Prop) : Prop := match st with
  | .int x :: .int i :: .ref c :: r => k x i c r
  | _ => False
def mv_lir (st : List Value) (k : Int64 → Int32 → Nat → List Value → Prop) : Prop := match st with
  | .long x :: .int i :: .ref c :: r => k x i c r
  | _ => False
def mv_il (st : List Value) (k : Int64 → Int32 → List Value → Prop) : Prop := match st with
  | .int y :: .long x :: r => k x y r
  | _ => False
def mv_isI : Value → (Int32 → Prop) → Prop
  | .int x, k => k x
  | _, _ => False
def mv_isL : Value → (Int64 → Prop) → Prop
  | .long x, k => k x
  | _, _ => False
def mv_isA : Value → Prop → Prop
  | .null, k => k
  | .ref _, k => k
  | .retAddr (_ + 1), k => k
  | _, _ => False
def mv_st1 (ls : List Value) (i : Nat) (v : Value) (k : List Value → Prop) : Prop := match (mv_free ls i && Nat.ble (i + 1) ls.length) with
  | true => k (mv_set ls i v)
  | false => False
def mv_st2 (ls : List Value) (i : Nat) (v : Value) (k : List Value → Prop) : Prop := match (mv_free ls i && Nat.ble (i + 2) ls.length) with
  | true => k (mv_set (mv_set ls i v) (i + 1) (.retAddr 0))
  | false => False
def mv_cmp : ClassFile.Cond → Int32 → Int32 → Prop
  | .eq, a, b => a = b
  | .ne, a, b => ¬ a = b
  | .lt, a, b => a < b
  | .ge, a, b => b ≤ a
  | .gt, a, b => b < a
  | .le, a, b => a ≤ b
def mv_sw (x : Int32) : List (Int32 × Nat) → Nat → (Nat → Prop) → Prop
  | [], d, k => k d
  | (v, t) :: r, d, k => (x = v → k t) ∧ (¬ x = v → mv_sw x r d k)
def mv_tab : Int32 → List Nat → List (Int32 × Nat)
  | _, [] => []
  | v, t :: r => (v, t) :: mv_tab (v + 1) r
/-- what comes back of a call: no answer, an int, a long, a reference or null -/
def mv_cont (rk : Nat) (r : Option Value) (k : List Value → Prop) : Prop := match rk with
  | 0 => r = none ∧ k []
  | 1 => ∃ v, r = some (.int v) ∧ k [.int v]
  | 2 => ∃ v, r = some (.int v) ∧ k [.int v]
  | 3 => ∃ v, r = some (.long v) ∧ k [.long v]
  | _ => (r = some .null ∧ k [.null]) ∨ ∃ c, r = some (.ref c) ∧ k [.ref c]
def mv_ncmp : ClassFile.Cond → Int32 → Int32 → Prop
  | .eq, a, b => ¬ a = b
  | .ne, a, b => a = b
  | .lt, a, b => ¬ a < b
  | .ge, a, b => ¬ b ≤ a
  | .gt, a, b => ¬ b < a
  | .le, a, b => ¬ a ≤ b
/-- a call's arguments, what is below them, how it is found: 0 static, 1 by the receiver's class, 2 by one of two classes, 3 arraycopy, 4 Math.max, 5 Math.min -/
def mv_inv (call : Nat → List Value → mv_S → mv_Q → Prop) (pc : Nat) (inf : List Nat) (ls st : List Value) (σ : mv_S) (K : mv_K) : Prop := match inf with
  | [f, n, rk, 0] => mv_pop n [] st fun as r => match Nat.ble (mv_cat r) 8 with
    | true => call f as σ fun a σ' => mv_cont rk a fun v => K (pc + 3) ls (v ++ r) σ'
    | false => False
  | [_, _, _, 4] => match st with
    | .int y :: .int x :: r => match Nat.ble (mv_cat r) 8 with
      | true => K (pc + 3) ls (.int (if x < y then y else x) :: r) σ
      | false => False
    | _ => False
  | [_, _, _, 5] => match st with
    | .int y :: .int x :: r => match Nat.ble (mv_cat r) 8 with
      | true => K (pc + 3) ls (.int (if y < x then y else x) :: r) σ
      | false => False
    | _ => False
  | [f, n, rk, 1, ci] => mv_pop n [] st fun as r => match Nat.ble (mv_cat r) 8, as with
    | true, .ref c :: _ => mv_sh c = ci ∧ call f as σ fun a σ' => mv_cont rk a fun v => K (pc + 3) ls (v ++ r) σ'
    | _, _ => False
  | [f, n, rk, 2, ci, g, cj] => mv_pop n [] st fun as r => match Nat.ble (mv_cat r) 8, as with
    | true, .ref c :: _ => (mv_sh c = ci ∧ call f as σ fun a σ' => mv_cont rk a fun v => K (pc + 3) ls (v ++ r) σ') ∨ (mv_sh c = cj ∧ call g as σ fun a σ' => mv_cont rk a fun v => K (pc + 3) ls (v ++ r) σ')
    | _, _ => False
  | [_, _, _, 3, ty] => match st with
    | .int n :: .int dp :: .ref c :: .int sp :: .ref b :: r => match Nat.ble (mv_cat r) 8 with
      | true => (mv_sh c = ty ∧ mv_sh b = ty ∧ ¬ sp < 0 ∧ ¬ dp < 0 ∧ ¬ n < 0 ∧ sp.toNatClampNeg + n.toNatClampNeg ≤ mv_ln b ∧ dp.toNatClampNeg + n.toNatClampNeg ≤ mv_ln c ∧ (∀ i, i < n.toNatClampNeg → fits (mv_ty ty) (.int (σ.1 b (sp.toNatClampNeg + i))) = true)) ∧ K (pc + 3) ls r (fun c' k => if c' = c then va_cpy (σ.1 b) (σ.1 c) sp.toNatClampNeg dp.toNatClampNeg n.toNatClampNeg k else σ.1 c' k, σ.2)
      | false => False
    | _ => False
  | _ => False
/-- a field: its class, its place, its kind (0 int, 1 long, 2 a reference, 3 boolean) -/
def mv_getf (inf : List Nat) (st : List Value) (σ : mv_S) (k : Value → List Value → Prop) : Prop := match inf with
  | [ci, j, 0] => mv_r1 st fun c r => mv_sh c = ci ∧ k (.int (σ.1 c j)) r
  | [ci, j, 1] => mv_r1 st fun c r => mv_sh c = ci ∧ k (.long (σ.2 c j)) r
  | [ci, j, 2] => mv_r1 st fun c r => mv_sh c = ci ∧ k (.ref (mv_rf c j)) r
  | [ci, j, 3] => mv_r1 st fun c r => mv_sh c = ci ∧ k (.int (σ.1 c j)) r
  | _ => False
def mv_putf (inf : List Nat) (st : List Value) (σ : mv_S) (k : List Value → mv_S → Prop) : Prop := match inf with
  | [ci, j, 0] => match st with
    | .int v :: .ref c :: r => mv_sh c = ci ∧ k r (mv_pi σ c j v)
    | _ => False
  | [ci, j, 1] => match st with
    | .long v :: .ref c :: r => mv_sh c = ci ∧ k r (mv_pl σ c j v)
    | _ => False
  | [ci, j, 3] => match st with
    | .int v :: .ref c :: r => (mv_sh c = ci ∧ (v = 0 ∨ v = 1)) ∧ k r (mv_pi σ c j v)
    | _ => False
  | _ => False
/-- null or a reference on top -/
def mv_a1 (st : List Value) (k : Value → List Value → Prop) : Prop := match st with
  | .null :: r => k .null r
  | .ref c :: r => k (.ref c) r
  | _ => False
def mv_c1 (st : List Value) (k : Value → List Value → Prop) : Prop := match st with
  | .int a :: r => k (.int a) r
  | .ref c :: r => k (.ref c) r
  | _ => False
def mv_c2 (st : List Value) (k : Value → Value → List Value → Prop) : Prop := match st with
  | .int a :: .int b :: r => k (.int a) (.int b) r
  | .int a :: .ref c :: r => k (.int a) (.ref c) r
  | _ => False
def mv_nul (st : List Value) (kn kr : List Value → Prop) : Prop := match st with
  | .null :: r => kn r
  | .ref _ :: r => kr r
  | _ => False
def mv_alen (X : mv_X) (st : List Value) (k : Int32 → List Value → Prop) : Prop := match st with
  | .ref c :: r => 20 ≤ mv_sh c ∧ k (Int32.ofNat (mv_ln c)) r
  | .retAddr 1 :: r => k (Int32.ofNat X.1) r
  | _ => False
def mv_iald (X : mv_X) (σ : mv_S) (st : List Value) (k : Int32 → List Value → Prop) : Prop := match st with
  | .int i :: .ref c :: r => (mv_sh c = 20 ∧ vp_in i (mv_ln c)) ∧ k (σ.1 c i.toNatClampNeg) r
  | .int i :: .retAddr 1 :: r => vp_in i X.1 ∧ k (X.2 i.toNatClampNeg) r
  | _ => False
def mv_vret (rk : Nat) (st : List Value) (k : Prop) : Prop := match rk, st with
  | 0, [] => k
  | _, _ => False
def mv_iret (rk : Nat) (st : List Value) (k : Int32 → Prop) : Prop := match rk, st with
  | 1, [.int v] => k v
  | 2, [.int v] => (v = 0 ∨ v = 1) ∧ k v
  | _, _ => False
def mv_lret (rk : Nat) (st : List Value) (k : Int64 → Prop) : Prop := match rk, st with
  | 3, [.long v] => k v
  | _, _ => False
def mv_aret (rk : Nat) (st : List Value) (k : Value → Prop) : Prop := match rk, st with
  | 4, [.null] => k .null
  | 4, [.ref c] => k (.ref c)
  | _, _ => False
def mv_zp : List Nat → List (Int32 × Nat)
  | v :: t :: r => (Int32.ofNat v, t) :: mv_zp r
  | _ => []
/-- one instruction -/
def mv_op (X : mv_X) (call : Nat → List Value → mv_S → mv_Q → Prop) (rk : Nat) (Q : mv_Q) (pc : Nat) (x : mv_I) (ls st : List Value) (σ : mv_S) (K : mv_K) : Prop :=
  match x.1 with
  | .iconst _ => K (pc + 1) ls (.int x.2.2.2.1 :: st) σ
  | .bipush _ => K (pc + 2) ls (.int x.2.2.2.1 :: st) σ
  | .sipush _ => K (pc + 3) ls (.int x.2.2.2.1 :: st) σ
  | .ldc _ => K (pc + 2) ls (.int x.2.2.2.1 :: st) σ
  | .ldc_w _ => K (pc + 3) ls (.int x.2.2.2.1 :: st) σ
  | .lconst _ => K (pc + 1) ls (.long x.2.2.2.2 :: st) σ
  | .ldc2_w _ => K (pc + 3) ls (.long x.2.2.2.2 :: st) σ
  | .aconst_null => K (pc + 1) ls (.null :: st) σ
  | .iload_n k => mv_isI (mv_get ls k) fun v => K (pc + 1) ls (.int v :: st) σ
  | .iload i => mv_isI (mv_get ls i) fun v => K (pc + 2) ls (.int v :: st) σ
  | .lload_n k => mv_isL (mv_get ls k) fun v => K (pc + 1) ls (.long v :: st) σ
  | .lload i => mv_isL (mv_get ls i) fun v => K (pc + 2) ls (.long v :: st) σ
  | .aload_n k => mv_isA (mv_get ls k) (K (pc + 1) ls (mv_get ls k :: st) σ)
  | .aload i => mv_isA (mv_get ls i) (K (pc + 2) ls (mv_get ls i :: st) σ)
  | .istore_n k => mv_i1 st fun v r => mv_st1 ls k (.int v) fun ls' => K (pc + 1) ls' r σ
  | .istore i => mv_i1 st fun v r => mv_st1 ls i (.int v) fun ls' => K (pc + 2) ls' r σ
  | .lstore_n k => mv_l1 st fun v r => mv_st2 ls k (.long v) fun ls' => K (pc + 1) ls' r σ
  | .lstore i => mv_l1 st fun v r => mv_st2 ls i (.long v) fun ls' => K (pc + 2) ls' r σ
  | .astore_n k => mv_a1 st fun v r => mv_st1 ls k v fun ls' => K (pc + 1) ls' r σ
  | .astore i => mv_a1 st fun v r => mv_st1 ls i v fun ls' => K (pc + 2) ls' r σ
  | .iinc i _ => mv_isI (mv_get ls i) fun a => mv_st1 ls i (.int (a + x.2.2.2.1)) fun ls' => K (pc + 3) ls' st σ
  | .iadd => mv_i2 st fun a b r => K (pc + 1) ls (.int (a + b) :: r) σ
  | .isub => mv_i2 st fun a b r => K (pc + 1) ls (.int (a - b) :: r) σ
  | .imul => mv_i2 st fun a b r => K (pc + 1) ls (.int (a * b) :: r) σ
  | .iand => mv_i2 st fun a b r => K (pc + 1) ls (.int (a &&& b) :: r) σ
  | .ior => mv_i2 st fun a b r => K (pc + 1) ls (.int (a ||| b) :: r) σ
  | .ixor => mv_i2 st fun a b r => K (pc + 1) ls (.int (a ^^^ b) :: r) σ
  | .idiv => mv_i2 st fun a b r => ¬ b = 0 ∧ K (pc + 1) ls (.int (a / b) :: r) σ
  | .irem => mv_i2 st fun a b r => ¬ b = 0 ∧ K (pc + 1) ls (.int (a - a / b * b) :: r) σ
  | .ishl => mv_i2 st fun a b r => K (pc + 1) ls (.int (a <<< (b &&& 31)) :: r) σ
  | .ishr => mv_i2 st fun a b r => K (pc + 1) ls (.int (a >>> (b &&& 31)) :: r) σ
  | .iushr => mv_i2 st fun a b r => K (pc + 1) ls (.int (a.toUInt32 >>> (b.toUInt32 &&& Int32.toUInt32 31)).toInt32 :: r) σ
  | .i2l => mv_i1 st fun a r => K (pc + 1) ls (.long a.toInt64 :: r) σ
  | .l2i => mv_l1 st fun a r => K (pc + 1) ls (.int a.toInt32 :: r) σ
  | .i2b => mv_i1 st fun a r => K (pc + 1) ls (.int a.toInt8.toInt32 :: r) σ
  | .i2s => mv_i1 st fun a r => K (pc + 1) ls (.int a.toInt16.toInt32 :: r) σ
  | .ladd => mv_l2 st fun a b r => K (pc + 1) ls (.long (a + b) :: r) σ
  | .lsub => mv_l2 st fun a b r => K (pc + 1) ls (.long (a - b) :: r) σ
  | .lmul => mv_l2 st fun a b r => K (pc + 1) ls (.long (a * b) :: r) σ
  | .lor => mv_l2 st fun a b r => K (pc + 1) ls (.long (a ||| b) :: r) σ
  | .lshl => mv_il st fun a b r => K (pc + 1) ls (.long (a <<< (b.toInt64 &&& 63)) :: r) σ
  | .lcmp => mv_l2 st fun a b r => K (pc + 1) ls (.int (lg_cmp a b) :: r) σ
  | .dup => mv_c1 st fun v r => K (pc + 1) ls (v :: v :: r) σ
  | .dup2 => mv_c2 st fun a b r => K (pc + 1) ls (a :: b :: a :: b :: r) σ
  | .pop => mv_i1 st fun _ r => K (pc + 1) ls r σ
  | .goto _ => K (x.2.2.1.headD 0) ls st σ
  | .ifCond c _ => mv_i1 st fun a r => (mv_cmp c a 0 → K (x.2.2.1.headD 0) ls r σ) ∧ (mv_ncmp c a 0 → K (pc + 3) ls r σ)
  | .if_icmp c _ => mv_i2 st fun a b r => (mv_cmp c a b → K (x.2.2.1.headD 0) ls r σ) ∧ (mv_ncmp c a b → K (pc + 3) ls r σ)
  | .ifnull _ => mv_nul st (fun r => K (x.2.2.1.headD 0) ls r σ) (fun r => K (pc + 3) ls r σ)
  | .ifnonnull _ => mv_nul st (fun r => K (pc + 3) ls r σ) (fun r => K (x.2.2.1.headD 0) ls r σ)
  | .tableswitch _ _ _ _ => mv_i1 st fun a r => mv_sw a (mv_tab x.2.2.2.1 x.2.2.1.tail) (x.2.2.1.headD 0) fun t => K t ls r σ
  | .lookupswitch _ _ => mv_i1 st fun a r => mv_sw a (mv_zp x.2.2.1.tail) (x.2.2.1.headD 0) fun t => K t ls r σ
  | .getfield _ => mv_getf x.2.2.1 st σ fun v r => K (pc + 3) ls (v :: r) σ
  | .putfield _ => mv_putf x.2.2.1 st σ fun r σ' => K (pc + 3) ls r σ'
  | .arraylength => mv_alen X st fun v r => K (pc + 1) ls (.int v :: r) σ
  | .iaload => mv_iald X σ st fun v r => K (pc + 1) ls (.int v :: r) σ
  | .iastore => mv_iir st fun v i c r => (mv_sh c = 20 ∧ vp_in i (mv_ln c)) ∧ K (pc + 1) ls r (mv_pi σ c i.toNatClampNeg v)
  | .baload => mv_ir st fun i c r => (mv_sh c = x.2.2.1.headD 0 ∧ (mv_sh c = 21 ∨ mv_sh c = 22) ∧ vp_in i (mv_ln c)) ∧ K (pc + 1) ls (.int (σ.1 c i.toNatClampNeg) :: r) σ
  | .bastore => mv_iir st fun v i c r => (mv_sh c = x.2.2.1.headD 0 ∧ (mv_sh c = 21 ∨ mv_sh c = 22) ∧ vp_in i (mv_ln c)) ∧ K (pc + 1) ls r (mv_pi σ c i.toNatClampNeg (vp_nar (mv_ty (x.2.2.1.headD 0)) v))
  | .laload => mv_ir st fun i c r => (mv_sh c = 23 ∧ vp_in i (mv_ln c)) ∧ K (pc + 1) ls (.long (σ.2 c i.toNatClampNeg) :: r) σ
  | .lastore => mv_lir st fun v i c r => (mv_sh c = 23 ∧ vp_in i (mv_ln c)) ∧ K (pc + 1) ls r (mv_pl σ c i.toNatClampNeg v)
  | .aaload => mv_ir st fun i c r => (24 ≤ mv_sh c ∧ vp_in i (mv_ln c)) ∧ K (pc + 1) ls (.ref (mv_rf c i.toNatClampNeg) :: r) σ
  | .invokestatic _ => mv_inv call pc x.2.2.1 ls st σ K
  | .invokevirtual _ => mv_inv call pc x.2.2.1 ls st σ K
  | .return_ => mv_vret rk st (Q none σ)
  | .ireturn => mv_iret rk st fun v => Q (some (.int v)) σ
  | .lreturn => mv_lret rk st fun v => Q (some (.long v)) σ
  | .areturn => mv_aret rk st fun v => Q (some v) σ
  | _ => False
/-! the combinators go with what they are given -/
theorem mv_i1_mono {st : List Value} {k k' : Int32 → List Value → Prop} (h : ∀ a r, k a r → k' a r) : mv_i1 st k → mv_i1 st k' := by
  unfold mv_i1; split <;> first | exact h _ _ | exact id
theorem mv_i2_mono {st : List Value} {k k' : Int32 → Int32 → List Value → Prop} (h : ∀ a b r, k a b r → k' a b r) : mv_i2 st k → mv_i2 st k' := by
  unfold mv_i2; split <;> first | exact h _ _ _ | exact id
theorem mv_l1_mono {st : List Value} {k k' : Int64 → List Value → Prop} (h : ∀ a r, k a r → k' a r) : mv_l1 st k → mv_l1 st k' := by
  unfold mv_l1; split <;> first | exact h _ _ | exact id
theorem mv_l2_mono {st : List Value} {k k' : Int64 → Int64 → List Value → Prop} (h : ∀ a b r, k a b r → k' a b r) : mv_l2 st k → mv_l2 st k' := by
  unfold mv_l2; split <;> first | exact h _ _ _ | exact id
theorem mv_r1_mono {st : List Value} {k k' : Nat → List Value → Prop} (h : ∀ a r, k a r → k' a r) : mv_r1 st k → mv_r1 st k' := by
  unfold mv_r1; split <;> first | exact h _ _ | exact id
theorem mv_ir_mono {st : List Value} {k k' : Int32 → Nat → List Value → Prop} (h : ∀ a b r, k a b r → k' a b r) : mv_ir st k → mv_ir st k' := by
  unfold mv_ir; split <;> first | exact h _ _ _ | exact id
theorem mv_iir_mono {st : List Value} {k k' : Int32 → Int32 → Nat → List Value → Prop} (h : ∀ a b c r, k a b c r → k' a b c r) : mv_iir st k → mv_iir st k' := by
  unfold mv_iir; split <;> first | exact h _ _ _ _ | exact id
theorem mv_lir_mono {st : List Value} {k k' : Int64 → Int32 → Nat → List Value → Prop} (h : ∀ a b c r, k a b c r → k' a b c r) : mv_lir st k → mv_lir st k' := by
  unfold mv_lir; split <;> first | exact h _ _ _ _ | exact id
theorem mv_il_mono {st : List Value} {k k' : Int64 → Int32 → List Value → Prop} (h : ∀ a b r, k a b r → k' a b r) : mv_il st k → mv_il st k' := by
  unfold mv_il; split <;> first | exact h _ _ _ | exact id
theorem mv_isI_mono {v : Value} {k k' : Int32 → Prop} (h : ∀ a, k a → k' a) : mv_isI v k → mv_isI v k' := by
  cases v <;> first | exact h _ | exact id
theorem mv_isL_mono {v : Value} {k k' : Int64 → Prop} (h : ∀ a, k a → k' a) : mv_isL v k → mv_isL v k' := by
  cases v <;> first | exact h _ | exact id
theorem mv_isA_mono {v : Value} {k k' : Prop} (h : k → k') : mv_isA v k → mv_isA v k' := by
  unfold mv_isA; split <;> first | exact h | exact id
theorem mv_st1_mono {ls : List Value} {i : Nat} {v : Value} {k k' : List Value → Prop} (h : ∀ a, k a → k' a) : mv_st1 ls i v k → mv_st1 ls i v k' := by
  unfold mv_st1; split <;> first | exact h _ | exact id
theorem mv_st2_mono {ls : List Value} {i : Nat} {v : Value} {k k' : List Value → Prop} (h : ∀ a, k a → k' a) : mv_st2 ls i v k → mv_st2 ls i v k' := by
  unfold mv_st2; split <;> first | exact h _ | exact id
theorem mv_sw_mono {x : Int32} {l : List (Int32 × Nat)} {d : Nat} {k k' : Nat → Prop} (h : ∀ a, k a → k' a) : mv_sw x l d k → mv_sw x l d k' := by
  induction l with
  | nil => exact h _
  | cons q l ih => exact fun g => ⟨fun e => h _ (g.1 e), fun e => ih (g.2 e)⟩
theorem mv_a1_mono {st : List Value} {k k' : Value → List Value → Prop} (h : ∀ a r, k a r → k' a r) : mv_a1 st k → mv_a1 st k' := by
  unfold mv_a1; split <;> first | exact h _ _ | exact id
theorem mv_c1_mono {st : List Value} {k k' : Value → List Value → Prop} (h : ∀ a r, k a r → k' a r) : mv_c1 st k → mv_c1 st k' := by
  unfold mv_c1; split <;> first | exact h _ _ | exact id
theorem mv_c2_mono {st : List Value} {k k' : Value → Value → List Value → Prop} (h : ∀ a b r, k a b r → k' a b r) : mv_c2 st k → mv_c2 st k' := by
  unfold mv_c2; split <;> first | exact h _ _ _ | exact id
theorem mv_nul_mono {st : List Value} {k k' j j' : List Value → Prop} (h : ∀ r, k r → k' r) (g : ∀ r, j r → j' r) : mv_nul st k j → mv_nul st k' j' := by
  unfold mv_nul; split <;> first | exact h _ | exact g _ | exact id
theorem mv_alen_mono {X : mv_X} {st : List Value} {k k' : Int32 → List Value → Prop} (h : ∀ a r, k a r → k' a r) : mv_alen X st k → mv_alen X st k' := by
  unfold mv_alen; split <;> first | exact h _ _ | exact fun q => ⟨q.1, h _ _ q.2⟩ | exact id
theorem mv_iald_mono {X : mv_X} {σ : mv_S} {st : List Value} {k k' : Int32 → List Value → Prop} (h : ∀ a r, k a r → k' a r) : mv_iald X σ st k → mv_iald X σ st k' := by
  unfold mv_iald; split <;> first | exact fun q => ⟨q.1, h _ _ q.2⟩ | exact id
theorem mv_vret_mono {rk : Nat} {st : List Value} {k k' : Prop} (h : k → k') : mv_vret rk st k → mv_vret rk st k' := by
  unfold mv_vret; split <;> first | exact h | exact id
theorem mv_iret_mono {rk : Nat} {st : List Value} {k k' : Int32 → Prop} (h : ∀ a, k a → k' a) : mv_iret rk st k → mv_iret rk st k' := by
  unfold mv_iret; split <;> first | exact h _ | exact fun q => ⟨q.1, h _ q.2⟩ | exact id
theorem mv_lret_mono {rk : Nat} {st : List Value} {k k' : Int64 → Prop} (h : ∀ a, k a → k' a) : mv_lret rk st k → mv_lret rk st k' := by
  unfold mv_lret; split <;> first | exact h _ | exact id
theorem mv_aret_mono {rk : Nat} {st : List Value} {k k' : Value → Prop} (h : ∀ a, k a → k' a) : mv_aret rk st k → mv_aret rk st k' := by
  unfold mv_aret; split <;> first | exact h _ | exact id
theorem mv_pop_mono {k k' : List Value → List Value → Prop} (h : ∀ a r, k a r → k' a r) : ∀ (n : Nat) (acc st : List Value), mv_pop n acc st k → mv_pop n acc st k'
  | 0, _, _ => h _ _
  | _ + 1, _, [] => id
  | n + 1, acc, v :: st => mv_pop_mono h n (v :: acc) st
theorem mv_cont_mono {rk : Nat} {r : Option Value} {k k' : List Value → Prop} (h : ∀ a, k a → k' a) : mv_cont rk r k → mv_cont rk r k' := by
  unfold mv_cont; split
  · exact fun q => ⟨q.1, h _ q.2⟩
  · exact fun ⟨v, q⟩ => ⟨v, q.1, h _ q.2⟩
  · exact fun ⟨v, q⟩ => ⟨v, q.1, h _ q.2⟩
  · exact fun ⟨v, q⟩ => ⟨v, q.1, h _ q.2⟩
  · exact fun q => q.elim (fun q => Or.inl ⟨q.1, h _ q.2⟩) (fun ⟨c, q⟩ => Or.inr ⟨c, q.1, h _ q.2⟩)
theorem mv_getf_mono {inf : List Nat} {st : List Value} {σ : mv_S} {k k' : Value → List Value → Prop} (h : ∀ a r, k a r → k' a r) : mv_getf inf st σ k → mv_getf inf st σ k' := by
  unfold mv_getf; split <;> first | exact mv_r1_mono fun _ _ q => ⟨q.1, h _ _ q.2⟩ | exact id
theorem mv_putf_mono {inf : List Nat} {st : List Value} {σ : mv_S} {k k' : List Value → mv_S → Prop} (h : ∀ a r, k a r → k' a r) : mv_putf inf st σ k → mv_putf inf st σ k' := by
  unfold mv_putf; split <;> first | (split <;> first | exact fun q => ⟨q.1, h _ _ q.2⟩ | exact id) | exact id
theorem mv_inv_mono {call call' : Nat → List Value → mv_S → mv_Q → Prop} (hc : ∀ f as σ (P P' : mv_Q), (∀ r σ, P r σ → P' r σ) → call f as σ P → call' f as σ P') {pc : Nat} {inf : List Nat} {ls st : List Value} {σ : mv_S} {K K' : mv_K} (hK : ∀ pc ls st σ, K pc ls st σ → K' pc ls st σ) : mv_inv call pc inf ls st σ K → mv_inv call' pc inf ls st σ K' := by
  have hq : ∀ (rk : Nat) (r : List Value) (a : Option Value) (σ' : mv_S), (mv_cont rk a fun v => K (pc + 3) ls (v ++ r) σ') → mv_cont rk a fun v => K' (pc + 3) ls (v ++ r) σ' := fun rk r a σ' => mv_cont_mono fun v => hK _ _ _ _
  unfold mv_inv; split
  · refine mv_pop_mono (fun as r => ?_) _ _ _
    split
    · exact hc _ _ _ _ _ (hq _ _)
    · exact id
  · split
    · split
      · exact hK _ _ _ _
      · exact id
    · exact id
  · split
    · split
      · exact hK _ _ _ _
      · exact id
    · exact id
  · refine mv_pop_mono (fun as r => ?_) _ _ _
    split
    · exact fun g => ⟨g.1, hc _ _ _ _ _ (hq _ _) g.2⟩
    · exact id
  · refine mv_pop_mono (fun as r => ?_) _ _ _
    split
    · exact fun g => g.elim (fun g => Or.inl ⟨g.1, hc _ _ _ _ _ (hq _ _) g.2⟩) (fun g => Or.inr ⟨g.1, hc _ _ _ _ _ (hq _ _) g.2⟩)
    · exact id
  · split
    · split
      · exact fun g => ⟨g.1, hK _ _ _ _ g.2⟩
      · exact id
    · exact id
  · exact id
set_option maxHeartbeats 4000000 in
theorem mv_op_mono {X : mv_X} {call call' : Nat → List Value → mv_S → mv_Q → Prop} (hc : ∀ f as σ (P P' : mv_Q), (∀ r σ, P r σ → P' r σ) → call f as σ P → call' f as σ P') {rk : Nat} {Q Q' : mv_Q} (hQ : ∀ r σ, Q r σ → Q' r σ) {pc : Nat} {x : mv_I} {ls st : List Value} {σ : mv_S} {K K' : mv_K} (hK : ∀ pc ls st σ, K pc ls st σ → K' pc ls st σ) : mv_op X call rk Q pc x ls st σ K → mv_op X call' rk Q' pc x ls st σ K' := by
  obtain ⟨ins, len, inf, v, w⟩ := x
  cases ins <;> delta mv_op <;> dsimp only <;> first
    | exact id
    | exact hK _ _ _ _
    | exact mv_i1_mono fun _ _ => hK _ _ _ _
    | exact mv_i2_mono fun _ _ _ => hK _ _ _ _
    | exact mv_l1_mono fun _ _ => hK _ _ _ _
    | exact mv_l2_mono fun _ _ _ => hK _ _ _ _
    | exact mv_il_mono fun _ _ _ => hK _ _ _ _
    | exact mv_isI_mono fun _ => hK _ _ _ _
    | exact mv_isL_mono fun _ => hK _ _ _ _
    | exact mv_isA_mono (hK _ _ _ _)
    | exact mv_i1_mono fun _ _ => mv_st1_mono fun _ => hK _ _ _ _
    | exact mv_l1_mono fun _ _ => mv_st2_mono fun _ => hK _ _ _ _
    | exact mv_a1_mono fun _ _ => mv_st1_mono fun _ => hK _ _ _ _
    | exact mv_isI_mono fun _ => mv_st1_mono fun _ => hK _ _ _ _
    | exact mv_i2_mono fun _ _ _ q => ⟨q.1, hK _ _ _ _ q.2⟩
    | exact mv_c1_mono fun _ _ => hK _ _ _ _
    | exact mv_c2_mono fun _ _ _ => hK _ _ _ _
    | exact mv_i1_mono fun _ _ q => ⟨fun e => hK _ _ _ _ (q.1 e), fun e => hK _ _ _ _ (q.2 e)⟩
    | exact mv_i2_mono fun _ _ _ q => ⟨fun e => hK _ _ _ _ (q.1 e), fun e => hK _ _ _ _ (q.2 e)⟩
    | exact mv_nul_mono (fun _ => hK _ _ _ _) (fun _ => hK _ _ _ _)
    | exact mv_i1_mono fun _ _ => mv_sw_mono fun _ => hK _ _ _ _
    | exact mv_getf_mono fun _ _ => hK _ _ _ _
    | exact mv_putf_mono fun _ _ => hK _ _ _ _
    | exact mv_alen_mono fun _ _ => hK _ _ _ _
    | exact mv_iald_mono fun _ _ => hK _ _ _ _
    | exact mv_ir_mono fun _ _ _ q => ⟨q.1, hK _ _ _ _ q.2⟩
    | exact mv_iir_mono fun _ _ _ _ q => ⟨q.1, hK _ _ _ _ q.2⟩
    | exact mv_lir_mono fun _ _ _ _ q => ⟨q.1, hK _ _ _ _ q.2⟩
    | exact mv_inv_mono hc hK
    | exact mv_vret_mono (hQ _ _)
    | exact mv_iret_mono fun _ => hQ _ _
    | exact mv_lret_mono fun _ => hQ _ _
    | exact mv_aret_mono fun _ => hQ _ _
/-! a frame's weakest precondition: the least that is closed under one instruction -/
def mv_stp (X : mv_X) (call : Nat → List Value → mv_S → mv_Q → Prop) (M : mv_M) (Q : mv_Q) (pc : Nat) (ls st : List Value) (σ : mv_S) (K : mv_K) : Prop := match mv_lk M.2.2 pc with
  | some x => mv_op X call M.2.1 Q pc x ls st σ K
  | none => False
theorem mv_stp_mono {X : mv_X} {call call' : Nat → List Value → mv_S → mv_Q → Prop} (hc : ∀ f as σ (P P' : mv_Q), (∀ r σ, P r σ → P' r σ) → call f as σ P → call' f as σ P') {M : mv_M} {Q Q' : mv_Q} (hQ : ∀ r σ, Q r σ → Q' r σ) {pc : Nat} {ls st : List Value} {σ : mv_S} {K K' : mv_K} (hK : ∀ pc ls st σ, K pc ls st σ → K' pc ls st σ) : mv_stp X call M Q pc ls st σ K → mv_stp X call' M Q' pc ls st σ K' := by
  unfold mv_stp; split
  · exact mv_op_mono hc hQ hK
  · exact id
def mv_wf (X : mv_X) (call : Nat → List Value → mv_S → mv_Q → Prop) (M : mv_M) (Q : mv_Q) (pc : Nat) (ls st : List Value) (σ : mv_S) : Prop := ∀ Z : mv_K, (∀ pc ls st σ, mv_stp X call M Q pc ls st σ Z → Z pc ls st σ) → Z pc ls st σ
/-- calls at most d deep -/
def mv_wp (X : mv_X) : Nat → Nat → List Value → mv_S → mv_Q → Prop
  | 0, _, _, _, _ => False
  | d + 1, f, as, σ, Q => (mv_slots as).length ≤ (mv_P f).1 ∧ mv_wf X (mv_wp X d) (mv_P f) Q 0 (mv_pad (mv_P f).1 (mv_slots as)) [] σ
theorem mv_wf_mono {X : mv_X} {call call' : Nat → List Value → mv_S → mv_Q → Prop} (hc : ∀ f as σ (P P' : mv_Q), (∀ r σ, P r σ → P' r σ) → call f as σ P → call' f as σ P') {M : mv_M} {Q Q' : mv_Q} (hQ : ∀ r σ, Q r σ → Q' r σ) {pc : Nat} {ls st : List Value} {σ : mv_S} : mv_wf X call M Q pc ls st σ → mv_wf X call' M Q' pc ls st σ :=
  fun h Z hZ => h Z fun pc ls st σ g => hZ pc ls st σ (mv_stp_mono hc hQ (fun _ _ _ _ q => q) g)
theorem mv_wp_mono {X : mv_X} : ∀ (d f : Nat) (as : List Value) (σ : mv_S) (P P' : mv_Q), (∀ r σ, P r σ → P' r σ) → mv_wp X d f as σ P → mv_wp X d f as σ P'
  | 0, _, _, _, _, _ => fun _ => id
  | d + 1, _, _, _, _, _ => fun h g => ⟨g.1, mv_wf_mono (mv_wp_mono d) h g.2⟩
theorem mv_wp_deep {X : mv_X} : ∀ (d f : Nat) (as : List Value) (σ : mv_S) (P P' : mv_Q), (∀ r σ, P r σ → P' r σ) → mv_wp X d f as σ P → mv_wp X (d + 1) f as σ P'
  | 0, _, _, _, _, _ => fun _ h => h.elim
  | d + 1, _, _, _, _, _ => fun h g => ⟨g.1, mv_wf_mono (mv_wp_deep d) h g.2⟩
section WF
variable {X : mv_X} {d : Nat} {M : mv_M} {Q : mv_Q} {pc : Nat} {ls st : List Value} {σ : mv_S}
theorem mv_wf_step : mv_stp X (mv_wp X d) M Q pc ls st σ (mv_wf X (mv_wp X d) M Q) ↔ mv_wf X (mv_wp X d) M Q pc ls st σ := by
  have up : ∀ pc ls st σ, mv_stp X (mv_wp X d) M Q pc ls st σ (mv_wf X (mv_wp X d) M Q) → mv_wf X (mv_wp X d) M Q pc ls st σ := fun pc ls st σ h Z hZ => hZ _ _ _ _ (mv_stp_mono (mv_wp_mono d) (fun _ _ q => q) (fun _ _ _ _ q => q Z hZ) h)
  refine ⟨up pc ls st σ, fun h => h (fun pc ls st σ => mv_stp X (mv_wp X d) M Q pc ls st σ (mv_wf X (mv_wp X d) M Q)) fun pc ls st σ g => ?_⟩
  exact mv_stp_mono (mv_wp_mono d) (fun _ _ q => q) (fun pc ls st σ q => up pc ls st σ q) g
end WF
def mv_mem (pc : Nat) : List Nat → Bool
  | [] => false
  | q :: l => match Nat.beq q pc with
    | true => true
    | false => mv_mem pc l
/-- many instructions, till a place where one stops -/
def mv_go (X : mv_X) (call : Nat → List Value → mv_S → mv_Q → Prop) (M : mv_M) (Q : mv_Q) (stops : List Nat) (K : mv_K) : Nat → mv_K
  | 0, pc, ls, st, σ => K pc ls st σ
  | n + 1, pc, ls, st, σ => mv_stp X call M Q pc ls st σ fun pc ls st σ => match mv_mem pc stops with
    | true => K pc ls st σ
    | false => mv_go X call M Q stops K n pc ls st σ
theorem mv_run {X : mv_X} {d : Nat} {M : mv_M} {Q : mv_Q} (stops : List Nat) : ∀ (n : Nat) {pc : Nat} {ls st : List Value} {σ : mv_S}, mv_go X (mv_wp X d) M Q stops (mv_wf X (mv_wp X d) M Q) n pc ls st σ ↔ mv_wf X (mv_wp X d) M Q pc ls st σ
  | 0, _, _, _, _ => Iff.rfl
  | n + 1, pc, ls, st, σ => by
    rw [← mv_wf_step]
    have e : ∀ pc ls st σ, (match mv_mem pc stops with | true => mv_wf X (mv_wp X d) M Q pc ls st σ | false => mv_go X (mv_wp X d) M Q stops (mv_wf X (mv_wp X d) M Q) n pc ls st σ) ↔ mv_wf X (mv_wp X d) M Q pc ls st σ := fun pc ls st σ => by
      split
      · exact Iff.rfl
      · exact mv_run stops n
    exact ⟨mv_stp_mono (mv_wp_mono d) (fun _ _ q => q) (fun pc ls st σ => (e pc ls st σ).mp), mv_stp_mono (mv_wp_mono d) (fun _ _ q => q) (fun pc ls st σ => (e pc ls st σ).mpr)⟩
theorem mv_enter {X : mv_X} {d f : Nat} {M : mv_M} {as : List Value} {σ : mv_S} {Q : mv_Q} (h : mv_P f = M) (hn : Nat.ble (mv_slots as).length M.1 = true) : mv_wp X (d + 1) f as σ Q ↔ mv_wf X (mv_wp X d) M Q 0 (mv_pad M.1 (mv_slots as)) [] σ := by
  subst h; exact ⟨fun g => g.2, fun g => ⟨Nat.le_of_ble_eq_true hn, g⟩⟩
