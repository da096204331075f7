/-! ===== locals may be forgotten ===== -/
def mv_le (ls l2 : List Value) : Prop := ls.length = l2.length ∧ ∀ i, mv_get ls i = mv_get l2 i ∨ (mv_get ls i = .retAddr 0 ∧ mv_catv (mv_get l2 i) = 1)
theorem mv_le_rf (ls : List Value) : mv_le ls ls := ⟨rfl, fun _ => Or.inl rfl⟩
theorem mv_le_get {ls l2 : List Value} (h : mv_le ls l2) {i : Nat} {v : Value} (hv : mv_get ls i = v) (hn : ¬ v = .retAddr 0) : mv_get l2 i = v := by
  rcases h.2 i with e | ⟨e, -⟩
  · rw [← e]; exact hv
  · exact absurd (hv.symm.trans e) hn
theorem mv_le_set {ls l2 : List Value} (h : mv_le ls l2) (i : Nat) (v : Value) : mv_le (mv_set ls i v) (mv_set l2 i v) := by
  refine ⟨by rw [mv_set_len, mv_set_len]; exact h.1, fun j => ?_⟩
  by_cases e : j = i
  · subst e
    by_cases hj : j < ls.length
    · left
      rw [mv_get_set ls j v hj, mv_get_set l2 j v (by rw [← h.1]; exact hj)]
    · left
      rw [mv_get_out _ _ (by rw [mv_set_len]; omega), mv_get_out _ _ (by rw [mv_set_len, ← h.1]; omega)]
  · rw [mv_get_set_ne ls i v j e, mv_get_set_ne l2 i v j e]
    exact h.2 j
theorem mv_le_free {ls l2 : List Value} (h : mv_le ls l2) {i : Nat} (hf : mv_free ls i = true) : mv_free l2 i = true := by
  cases i with
  | zero => rfl
  | succ j =>
    have h1 : ∀ v : Value, mv_catv v = 1 → (match v with | .long _ => false | .double _ => false | _ => true) = true := by
      intro v hv; cases v <;> first | rfl | (exact absurd (show (2 : Nat) = 1 from hv) (by decide))
    have h2 : (match mv_get ls j with | .long _ => false | .double _ => false | _ => true) = true := hf
    show (match mv_get l2 j with | .long _ => false | .double _ => false | _ => true) = true
    rcases h.2 j with e | ⟨-, e⟩
    · rw [← e]; exact h2
    · exact h1 _ e
theorem mv_st1_le {ls l2 : List Value} (h : mv_le ls l2) {i : Nat} {v : Value} {k k' : List Value → Prop} (hk : ∀ a b, mv_le a b → k a → k' b) (g : mv_st1 ls i v k) : mv_st1 l2 i v k' := by
  obtain ⟨g1, g2, g3⟩ := mv_st1_e g
  unfold mv_st1
  rw [mv_le_free h g1, show Nat.ble (i + 1) l2.length = true from Nat.ble_eq.mpr (by rw [← h.1]; exact g2)]
  exact hk _ _ (mv_le_set h i v) g3
theorem mv_st2_le {ls l2 : List Value} (h : mv_le ls l2) {i : Nat} {v : Value} {k k' : List Value → Prop} (hk : ∀ a b, mv_le a b → k a → k' b) (g : mv_st2 ls i v k) : mv_st2 l2 i v k' := by
  obtain ⟨g1, g2, g3⟩ := mv_st2_e g
  unfold mv_st2
  rw [mv_le_free h g1, show Nat.ble (i + 2) l2.length = true from Nat.ble_eq.mpr (by rw [← h.1]; exact g2)]
  exact hk _ _ (mv_le_set (mv_le_set h i v) _ _) g3
theorem mv_isI_le {ls l2 : List Value} (h : mv_le ls l2) {i : Nat} {k k' : Int32 → Prop} (hk : ∀ a, k a → k' a) (g : mv_isI (mv_get ls i) k) : mv_isI (mv_get l2 i) k' := by
  obtain ⟨a, e, g⟩ := mv_isI_e g
  rw [mv_le_get h e (fun q => by cases q)]
  exact hk a g
theorem mv_isL_le {ls l2 : List Value} (h : mv_le ls l2) {i : Nat} {k k' : Int64 → Prop} (hk : ∀ a, k a → k' a) (g : mv_isL (mv_get ls i) k) : mv_isL (mv_get l2 i) k' := by
  obtain ⟨a, e, g⟩ := mv_isL_e g
  rw [mv_le_get h e (fun q => by cases q)]
  exact hk a g
theorem mv_isA_le {ls l2 : List Value} (h : mv_le ls l2) {i : Nat} {k k' : Value → Prop} (hk : ∀ v, k v → k' v) (g : mv_isA (mv_get ls i) (k (mv_get ls i))) : mv_isA (mv_get l2 i) (k' (mv_get l2 i)) := by
  obtain ⟨e, g⟩ := mv_isA_e g
  rcases e with e | ⟨c, e⟩ | ⟨c, e⟩
  all_goals
    rw [mv_le_get h e (fun q => by cases q)]
    rw [e] at g
    exact hk _ g
theorem mv_inv_le {call : Nat → List Value → mv_S → mv_Q → Prop} (hc : ∀ f as σ (P P' : mv_Q), (∀ r σ, P r σ → P' r σ) → call f as σ P → call f as σ P') {pc : Nat} {inf : List Nat} {ls l2 st : List Value} {σ : mv_S} {K K' : mv_K} (hK : ∀ pc st σ, K pc ls st σ → K' pc l2 st σ) : mv_inv call pc inf ls st σ K → mv_inv call pc inf l2 st σ K' := by
  have hq : ∀ (rk : Nat) (r : List Value) (a : Option Value) (σ' : mv_S), (mv_cont rk a fun v => K (pc + 3) ls (v ++ r) σ') → mv_cont rk a fun v => K' (pc + 3) l2 (v ++ r) σ' := fun rk r a σ' => mv_cont_mono fun v => hK _ _ _
  unfold mv_inv; split
  · refine mv_pop_mono (fun as r => ?_) _ _ _
    split
    · exact hc _ _ _ _ _ (hq _ _)
    · exact id
  · split
    · split
      · exact hK _ _ _
      · exact id
    · exact id
  · split
    · split
      · exact hK _ _ _
      · exact id
    · exact id
  · refine mv_pop_mono (fun as r => ?_) _ _ _
    split
    · exact fun g => ⟨g.1, hc _ _ _ _ _ (hq _ _) g.2⟩
    · exact id
  · refine mv_pop_mono (fun as r => ?_) _ _ _
    split
    · exact fun g => g.elim (fun g => Or.inl ⟨g.1, hc _ _ _ _ _ (hq _ _) g.2⟩) (fun g => Or.inr ⟨g.1, hc _ _ _ _ _ (hq _ _) g.2⟩)
    · exact id
  · split
    · split
      · exact fun g => ⟨g.1, hK _ _ _ g.2⟩
      · exact id
    · exact id
  · exact id
set_option maxHeartbeats 4000000 in
theorem mv_op_le {X : mv_X} {call : Nat → List Value → mv_S → mv_Q → Prop} (hc : ∀ f as σ (P P' : mv_Q), (∀ r σ, P r σ → P' r σ) → call f as σ P → call f as σ P') {rk : Nat} {Q : mv_Q} {pc : Nat} {x : mv_I} {ls l2 st : List Value} {σ : mv_S} {K K' : mv_K} (hle : mv_le ls l2) (hk : ∀ pc a b st σ, mv_le a b → K pc a st σ → K' pc b st σ) : mv_op X call rk Q pc x ls st σ K → mv_op X call rk Q pc x l2 st σ K' := by
  have hK : ∀ pc st σ, K pc ls st σ → K' pc l2 st σ := fun pc st σ => hk pc ls l2 st σ hle
  obtain ⟨ins, len, inf, v, w⟩ := x
  cases ins <;> delta mv_op <;> dsimp only <;> first
    | exact id
    | exact hK _ _ _
    | exact mv_i1_mono fun _ _ => hK _ _ _
    | exact mv_i2_mono fun _ _ _ => hK _ _ _
    | exact mv_l1_mono fun _ _ => hK _ _ _
    | exact mv_l2_mono fun _ _ _ => hK _ _ _
    | exact mv_il_mono fun _ _ _ => hK _ _ _
    | exact mv_isI_le hle fun _ => hK _ _ _
    | exact mv_isL_le hle fun _ => hK _ _ _
    | exact mv_isA_le (k := fun v => K _ ls (v :: st) σ) (k' := fun v => K' _ l2 (v :: st) σ) hle fun _ => hK _ _ _
    | exact mv_i1_mono fun _ _ => mv_st1_le hle fun _ _ q => hk _ _ _ _ _ q
    | exact mv_l1_mono fun _ _ => mv_st2_le hle fun _ _ q => hk _ _ _ _ _ q
    | exact mv_a1_mono fun _ _ => mv_st1_le hle fun _ _ q => hk _ _ _ _ _ q
    | exact mv_isI_le hle fun _ => mv_st1_le hle fun _ _ q => hk _ _ _ _ _ q
    | exact mv_i2_mono fun _ _ _ q => ⟨q.1, hK _ _ _ q.2⟩
    | exact mv_c1_mono fun _ _ => hK _ _ _
    | exact mv_c2_mono fun _ _ _ => hK _ _ _
    | exact mv_i1_mono fun _ _ q => ⟨fun e => hK _ _ _ (q.1 e), fun e => hK _ _ _ (q.2 e)⟩
    | exact mv_i2_mono fun _ _ _ q => ⟨fun e => hK _ _ _ (q.1 e), fun e => hK _ _ _ (q.2 e)⟩
    | exact mv_nul_mono (fun _ => hK _ _ _) (fun _ => hK _ _ _)
    | exact mv_i1_mono fun _ _ => mv_sw_mono fun _ => hK _ _ _
    | exact mv_getf_mono fun _ _ => hK _ _ _
    | exact mv_putf_mono fun _ _ => hK _ _ _
    | exact mv_alen_mono fun _ _ => hK _ _ _
    | exact mv_iald_mono fun _ _ => hK _ _ _
    | exact mv_ir_mono fun _ _ _ q => ⟨q.1, hK _ _ _ q.2⟩
    | exact mv_iir_mono fun _ _ _ _ q => ⟨q.1, hK _ _ _ q.2⟩
    | exact mv_lir_mono fun _ _ _ _ q => ⟨q.1, hK _ _ _ q.2⟩
    | exact mv_inv_le hc hK
theorem mv_forget {X : mv_X} {d : Nat} {M : mv_M} {Q : mv_Q} {pc : Nat} {ls l2 st : List Value} {σ : mv_S} (hle : mv_le ls l2) (h : mv_wf X (mv_wp X d) M Q pc ls st σ) : mv_wf X (mv_wp X d) M Q pc l2 st σ := by
  refine h (fun pc ls st σ => ∀ l2, mv_le ls l2 → mv_wf X (mv_wp X d) M Q pc l2 st σ) (fun pc ls st σ g l2 hle => ?_) l2 hle
  rw [← mv_wf_step]
  unfold mv_stp at g ⊢
  split
  · rename_i x hx
    rw [hx] at g
    exact mv_op_le (mv_wp_mono d) hle (fun pc a b st σ q k => k b q) g
  · rename_i hx
    rw [hx] at g
    exact g
/-- a place where one stops, and which locals are forgotten there -/
def mv_clr : List Value → List Nat → List Value
  | ls, [] => ls
  | ls, i :: t => mv_clr (match mv_get ls i with
    | .long _ => ls
    | .double _ => ls
    | _ => mv_set ls i (.retAddr 0)) t
theorem mv_le_tr {a b c : List Value} (h : mv_le a b) (g : mv_le b c) : mv_le a c := by
  refine ⟨h.1.trans g.1, fun i => ?_⟩
  rcases h.2 i with e | ⟨e, e2⟩
  · rcases g.2 i with q | ⟨q, q2⟩
    · exact Or.inl (e.trans q)
    · exact Or.inr ⟨e.trans q, q2⟩
  · rcases g.2 i with q | ⟨q, q2⟩
    · exact Or.inr ⟨e, by rw [← q]; exact e2⟩
    · exact Or.inr ⟨e, q2⟩
theorem mv_clr_le : ∀ (is : List Nat) (ls : List Value), mv_le (mv_clr ls is) ls
  | [], ls => mv_le_rf ls
  | i :: t, ls => by
    refine mv_le_tr (mv_clr_le t _) ?_
    split
    · exact mv_le_rf ls
    · exact mv_le_rf ls
    · rename_i h1 h2
      refine ⟨mv_set_len _ _ _, fun j => ?_⟩
      by_cases e : j = i
      · subst e
        by_cases hj : j < ls.length
        · right
          refine ⟨mv_get_set ls j _ hj, ?_⟩
          cases hg : mv_get ls j <;> first | rfl | exact absurd hg (h1 _) | exact absurd hg (h2 _)
        · left
          rw [mv_get_out _ _ (by rw [mv_set_len]; omega), mv_get_out _ _ (by omega)]
      · left
        exact mv_get_set_ne ls i _ j e
def mv_stop : List (Nat × List Nat) → Nat → Option (List Nat)
  | [], _ => none
  | (q, l) :: t, pc => match Nat.beq q pc with
    | true => some l
    | false => mv_stop t pc
def mv_go2 (X : mv_X) (call : Nat → List Value → mv_S → mv_Q → Prop) (M : mv_M) (Q : mv_Q) (stops : List (Nat × List Nat)) (K : mv_K) : Nat → mv_K
  | 0, pc, ls, st, σ => K pc ls st σ
  | n + 1, pc, ls, st, σ => mv_stp X call M Q pc ls st σ fun pc ls st σ => match mv_stop stops pc with
    | some l => K pc (mv_clr ls l) st σ
    | none => mv_go2 X call M Q stops K n pc ls st σ
theorem mv_run2 {X : mv_X} {d : Nat} {M : mv_M} {Q : mv_Q} (stops : List (Nat × List Nat)) : ∀ (n : Nat) {pc : Nat} {ls st : List Value} {σ : mv_S}, mv_go2 X (mv_wp X d) M Q stops (mv_wf X (mv_wp X d) M Q) n pc ls st σ → mv_wf X (mv_wp X d) M Q pc ls st σ
  | 0, _, _, _, _ => id
  | n + 1, pc, ls, st, σ => fun h => by
    rw [← mv_wf_step]
    refine mv_stp_mono (mv_wp_mono d) (fun _ _ q => q) (fun pc ls st σ => ?_) h
    split
    · exact mv_forget (mv_clr_le _ _)
    · exact mv_run2 stops n
