/-! ===== reading, the reference: letters ===== -/
theorem bool_eq {p q : Bool} (h : p = true ↔ q = true) : p = q := by
  cases p <;> cases q
  · rfl
  · exact absurd (h.mpr rfl) (by decide)
  · exact absurd (h.mp rfl) (by decide)
  · rfl
section READR3
variable {X : mv_X} {d : Nat} {σ : mv_S} {Q : mv_Q} {N : Nat} {b : Nat → Int32} {w : List Nat}
theorem at_5 {ls : List Nat} (ok : wk w) (h3 : ls.length ≤ 3) (h0 : ¬ ls = []) (hl : ∀ l, l ∈ ls → l < 3) : atS (lcode 5 ls) w.length (wb w) = (decide (ls.length ≤ w.length) && stB ls w 0 ls.length) := by
  obtain ⟨_, a1, a2, a3⟩ := atk_l (kd := 5) (by decide) h3 h0 hl
  unfold atS
  rw [a1, a2, a3, if_neg (by decide), if_neg (by decide), if_pos rfl]
  by_cases e : ls.length ≤ w.length
  · rw [decide_eq_true e, Bool.true_and, Bool.true_and]
    have h := stB_wb (k := 0) (ls := ls) (w := w) (by omega) ok.2 hl
    have lt : wb w / 4 ^ (w.length - ls.length) < 4 ^ ls.length := by
      have := wb_lt w ok.2
      rw [Nat.div_lt_iff_lt_mul (Nat.pow_pos (by decide)), ← Nat.pow_add, show ls.length + (w.length - ls.length) = w.length by omega]
      exact this
    rw [Nat.sub_zero, Nat.mod_eq_of_lt lt] at h
    exact bool_eq (by rw [decide_eq_true_eq]; exact h.symm)
  · rw [decide_eq_false e, Bool.false_and, Bool.false_and]
theorem at_6 {ls : List Nat} (ok : wk w) (h3 : ls.length ≤ 3) (h0 : ¬ ls = []) (hl : ∀ l, l ∈ ls → l < 3) : atS (lcode 6 ls) w.length (wb w) = (decide (ls.length ≤ w.length) && stB ls w (w.length - ls.length) ls.length) := by
  obtain ⟨_, a1, a2, a3⟩ := atk_l (kd := 6) (by decide) h3 h0 hl
  unfold atS
  rw [a1, a2, a3, if_neg (by decide), if_neg (by decide), if_neg (by decide), if_pos rfl]
  by_cases e : ls.length ≤ w.length
  · rw [decide_eq_true e, Bool.true_and, Bool.true_and]
    have h := stB_wb (k := w.length - ls.length) (ls := ls) (w := w) (by omega) ok.2 hl
    rw [show w.length - (w.length - ls.length) - ls.length = 0 by omega, Nat.pow_zero, Nat.div_one] at h
    exact bool_eq (by rw [decide_eq_true_eq]; exact h.symm)
  · rw [decide_eq_false e, Bool.false_and, Bool.false_and]
theorem at_7 {ls : List Nat} (ok : wk w) (h3 : ls.length ≤ 3) (h0 : ¬ ls = []) (hl : ∀ l, l ∈ ls → l < 3) : atS (lcode 7 ls) w.length (wb w) = true ↔ ∃ k, k + ls.length ≤ w.length ∧ stB ls w k ls.length = true := by
  obtain ⟨ak, a1, a2, a3⟩ := atk_l (kd := 7) (by decide) h3 h0 hl
  have h1 := (ak.2.2.2.2 (by omega)).1
  rw [a2] at h1
  unfold atS
  rw [a1, a2, a3, if_neg (by decide), if_neg (by decide), if_neg (by decide), if_neg (by decide), if_pos rfl, besN_iff h1]
  constructor
  · rintro ⟨e, e1, e2, e3⟩
    refine ⟨e - ls.length, by omega, (stB_wb (by omega) ok.2 hl).mpr ?_⟩
    rw [show w.length - (e - ls.length) - ls.length = w.length - e by omega]
    exact e3
  · rintro ⟨k, k1, k2⟩
    refine ⟨k + ls.length, by omega, k1, ?_⟩
    have := (stB_wb (by omega) ok.2 hl).mp k2
    rw [show w.length - k - ls.length = w.length - (k + ls.length) by omega] at this
    exact this
theorem at_8 {ls : List Nat} (ok : wk w) (h3 : ls.length ≤ 3) (h0 : ¬ ls = []) (hl : ∀ l, l ∈ ls → l < 3) : atS (lcode 8 ls) w.length (wb w) = gre ls w := by
  obtain ⟨_, a1, a2, a3⟩ := atk_l (kd := 8) (by decide) h3 h0 hl
  unfold atS
  rw [a1, a2, a3, if_neg (by decide), if_neg (by decide), if_neg (by decide), if_neg (by decide), if_neg (by decide)]
  exact sca_eq ok.2 hl
theorem rR_no {f : Nat} {os0 : List Nat} {τ : mv_S} (h6 : os0.length ≤ 6) (fr : rdR os0.length σ τ) (ps : rPos f os0 τ) (hr : rR Q os0 σ w (Sum.inl (f, []))) : mv_wp X (d + 1) 210 [.ref 61, .int (nI f)] τ (fun r3 σ3 => r3 = none ∧ (((0 : Int32) = (0 : Int32) ∨ (0 : Int32) = (1 : Int32)) ∧ Q (some (.int 0)) σ3)) := by
  refine r_faulty h6 ps.2.1 ps.2.2.1 ps.2.2.2 (fun τ2 t1 t2 t3 t4 t5 => ⟨rfl, Or.inl rfl, ?_⟩)
  refine hr τ2 0 (Or.inl rfl) ⟨fun c j q1 q2 q3 => by rw [t1 c j (by omega) q3]; exact fr.1 c j (by omega) q2, t2.trans fr.2⟩ t3 ?_ ?_ ?_
  · rw [t1 61 49 (by omega) (by omega)]; exact ps.2.2.1
  · rw [List.append_nil]; exact t4
  · rw [List.append_nil]; exact t5
/-- sign and kind -/
def sgk (sg kd : Nat) : Prop := (sg = 94 ∧ kd = 5) ∨ (sg = 36 ∧ kd = 6) ∨ (sg = 35 ∧ kd = 7) ∨ (sg = 126 ∧ kd = 8)
theorem r_sfin {sg kd p : Nat} {ls os0 : List Nat} {τ : mv_S} (hs : sgk sg kd) (hN : rst N b w τ) (h6 : os0.length ≤ 6) (h3 : ls.length ≤ 3) (hl : ∀ l, l ∈ ls → l < 3) (ht : tpe (p + 1) ls τ) (fr : rdR os0.length σ τ) (ps : rPos (p + 1 + ls.length) os0 τ)
    (hr : rR Q os0 σ w (if ls = [] then Sum.inl (p + 1, []) else Sum.inr (p + 1 + ls.length, [lcode kd ls], fun n B => atS (lcode kd ls) n B))) :
    mv_sh 61 = 12 ∧ ((¬ ((τ.1 61 46) - nI (p + 1)) = 0 → (¬ nI sg = 126 → (¬ nI sg = 35 → mv_sh 61 = 12 ∧ (((τ.1 61 6) < ((τ.1 61 46) - nI (p + 1)) → ((0 : Int32) = (0 : Int32) ∨ (0 : Int32) = (1 : Int32)) ∧ Q (some (.int 0)) τ) ∧ (¬ (τ.1 61 6) < ((τ.1 61 46) - nI (p + 1)) →
      (¬ nI sg = 94 → mv_sh 61 = 12 ∧ mv_sh 61 = 12 ∧ mv_wp X (d + 1) 217 [.ref 61, .int (nI (p + 1)), .int ((τ.1 61 46) - nI (p + 1)), .int ((τ.1 61 6) - ((τ.1 61 46) - nI (p + 1)))] τ (fun r1 σ1 => ∃ v1, r1 = some (.int v1) ∧ ((v1 = 0 → ((0 : Int32) = (0 : Int32) ∨ (0 : Int32) = (1 : Int32)) ∧ Q (some (.int 0)) σ1) ∧ (¬ v1 = 0 → ((1 : Int32) = (0 : Int32) ∨ (1 : Int32) = (1 : Int32)) ∧ Q (some (.int 1)) σ1)))) ∧
      (nI sg = 94 → mv_sh 61 = 12 ∧ mv_wp X (d + 1) 217 [.ref 61, .int (nI (p + 1)), .int ((τ.1 61 46) - nI (p + 1)), .int 0] τ (fun r2 σ2 => ∃ v2, r2 = some (.int v2) ∧ ((v2 = 0 → ((0 : Int32) = (0 : Int32) ∨ (0 : Int32) = (1 : Int32)) ∧ Q (some (.int 0)) σ2) ∧ (¬ v2 = 0 → ((1 : Int32) = (0 : Int32) ∨ (1 : Int32) = (1 : Int32)) ∧ Q (some (.int 1)) σ2))))))) ∧
      (nI sg = 35 → mv_wf X (mv_wp X (d + 1)) m_Ref_sample Q 165 [.ref 61, .retAddr 0, .int (nI (p + 1)), .int ((τ.1 61 46) - nI (p + 1)), .int 0, .int 0] [] τ)) ∧
      (nI sg = 126 → mv_wf X (mv_wp X (d + 1)) m_Ref_sample Q 88 [.ref 61, .retAddr 0, .int (nI (p + 1)), .int ((τ.1 61 46) - nI (p + 1)), .int 0, .int 0] [] τ)) ∧
      (((τ.1 61 46) - nI (p + 1)) = 0 → mv_sh 61 = 12 ∧ mv_sh 61 = 12 ∧ mv_wp X (d + 1) 210 [.ref 61, .int (τ.1 61 46)] τ (fun r3 σ3 => r3 = none ∧ (((0 : Int32) = (0 : Int32) ∨ (0 : Int32) = (1 : Int32)) ∧ Q (some (.int 0)) σ3)))) := by
  obtain ⟨n1, n2, n3, hw, ok⟩ := hN
  have w9 := ok.1
  have t60 := ht.1
  have em : τ.1 61 46 - nI (p + 1) = nI ls.length := by
    rw [ps.1, pk_sub (by omega)]
    congr 1
    omega
  rw [em, hw.1]
  have z : nI ls.length = 0 ↔ ls.length = 0 := q_inj (b := 0) (by omega) (by omega)
  rw [z]
  by_cases el : ls = []
  · subst el
    rw [if_pos rfl] at hr
    rw [ps.1]
    exact ⟨rfl, fun y => absurd rfl y, fun _ => ⟨rfl, rfl, rR_no h6 fr ps hr⟩⟩
  rw [if_neg el] at hr
  have h1 : 1 ≤ ls.length := by
    cases ls with
    | nil => exact absurd rfl el
    | cons a b => exact Nat.succ_le_succ (Nat.zero_le _)
  have hr : Q (some (.int (if atS (lcode kd ls) w.length (wb w) = true then 1 else 0))) τ := hr τ fr ps.1 ps.2.1 ps.2.2.1
  refine ⟨rfl, fun _ => ?_, fun y => absurd y (by omega)⟩
  rcases hs with ⟨rfl, rfl⟩ | ⟨rfl, rfl⟩ | ⟨rfl, rfl⟩ | ⟨rfl, rfl⟩
  · refine ⟨fun _ => ⟨fun _ => ⟨rfl, ?_⟩, fun z => absurd z (by decide)⟩, fun z => absurd z (by decide)⟩
    rw [at_5 ok h3 el hl] at hr
    by_cases e : ls.length ≤ w.length
    · rw [decide_eq_true e, Bool.true_and] at hr
      refine ⟨fun z => absurd z (nI_nlt (by omega) (by omega)), fun _ => ⟨fun z => absurd rfl z, fun _ => ⟨rfl, r_stands (k := 0) hw ok ht (by omega) ⟨_, rfl, ?_⟩⟩⟩⟩
      by_cases es : stB ls w 0 ls.length = true
      · rw [if_pos es] at hr ⊢
        exact ⟨fun z => absurd z (by decide), fun _ => ⟨Or.inr rfl, hr⟩⟩
      · rw [if_neg es] at hr ⊢
        exact ⟨fun _ => ⟨Or.inl rfl, hr⟩, fun z => absurd rfl z⟩
    · rw [decide_eq_false e, Bool.false_and, if_neg (by decide)] at hr
      exact ⟨fun _ => ⟨Or.inl rfl, hr⟩, fun z => absurd (nI_lt (by omega) (by omega)) z⟩
  · refine ⟨fun _ => ⟨fun _ => ⟨rfl, ?_⟩, fun z => absurd z (by decide)⟩, fun z => absurd z (by decide)⟩
    rw [at_6 ok h3 el hl] at hr
    by_cases e : ls.length ≤ w.length
    · rw [decide_eq_true e, Bool.true_and] at hr
      refine ⟨fun z => absurd z (nI_nlt (by omega) (by omega)), fun _ => ⟨fun _ => ⟨rfl, rfl, ?_⟩, fun z => absurd z (by decide)⟩⟩
      rw [pk_sub e]
      refine r_stands (k := w.length - ls.length) hw ok ht (by omega) ⟨_, rfl, ?_⟩
      by_cases es : stB ls w (w.length - ls.length) ls.length = true
      · rw [if_pos es] at hr ⊢
        exact ⟨fun z => absurd z (by decide), fun _ => ⟨Or.inr rfl, hr⟩⟩
      · rw [if_neg es] at hr ⊢
        exact ⟨fun _ => ⟨Or.inl rfl, hr⟩, fun z => absurd rfl z⟩
    · rw [decide_eq_false e, Bool.false_and, if_neg (by decide)] at hr
      exact ⟨fun _ => ⟨Or.inl rfl, hr⟩, fun z => absurd (nI_lt (by omega) (by omega)) z⟩
  · exact ⟨fun _ => ⟨fun z => absurd rfl z, fun _ => r_bes hw ok ht h1 _ (at_7 ok h3 el hl) hr⟩, fun z => absurd z (by decide)⟩
  · rw [at_8 ok h3 el hl] at hr
    exact ⟨fun z => absurd rfl z, fun _ => r_scat hw ok ht h3 hr⟩
theorem r_sample {sg kd p : Nat} {os0 : List Nat} (hs : sgk sg kd) (hN : rst N b w σ) (h6 : os0.length ≤ 6) (ps : rPos p os0 σ) (pN : p < N) (hr : rR Q os0 σ w (lettP (pkb N b) kd p)) : mv_wp X (d + 2) 216 [.ref 61, .int (nI sg)] σ Q := by
  have h60 := hN.1
  have pkp : ∀ q, q < N → ∀ τ, rst N b w τ → τ.1 92 q = pkb N b q := fun q hq τ h => by unfold pkb; rw [if_pos hq]; exact h.2.2.1 q hq
  have la := ltr_at (pkb_k N b) (p + 1) 3 (p + 1) [] rfl (fun i hi => absurd hi (Nat.not_lt_zero _))
  have lo := ltr_ok (pkb_k N b) 3 (p + 1) [] (by omega) (fun l hl => absurd hl (List.not_mem_nil))
  unfold lettP at hr
  have loop : ∀ f (τ : mv_S) ls, ls.length + f = 3 → p + 1 + ls.length ≤ N → (∀ l, l ∈ ls → l < 3) → (∀ i, i < ls.length → pkb N b (p + 1 + i) = nI (97 + ls.getD i 0)) → rdR os0.length σ τ → rPos (p + 1 + ls.length) os0 τ → ltr (pkb N b) 3 (p + 1) [] = ltr (pkb N b) f (p + 1 + ls.length) ls → mv_wf X (mv_wp X (d + 1)) m_Ref_sample Q 15 [.ref 61, .int (nI sg), .int (nI (p + 1)), .retAddr 0, .retAddr 0, .retAddr 0] [] τ := by
    intro f
    have tp : ∀ (τ : mv_S) ls, p + 1 + ls.length ≤ N → (∀ l, l ∈ ls → l < 3) → (∀ i, i < ls.length → pkb N b (p + 1 + i) = nI (97 + ls.getD i 0)) → rdR os0.length σ τ → tpe (p + 1) ls τ := fun τ ls h1 h2 h3 fr => ⟨by omega, h2, fun i hi => by rw [pkp _ (by omega) τ (rst_R hN fr)]; exact h3 i hi⟩
    induction f with
    | zero =>
      intro τ ls h3 hq hl ha fr ps e
      have e : ltr (pkb N b) 3 (p + 1) [] = (p + 1 + ls.length, ls) := e
      rw [e] at hr
      dsimp only at hr
      refine h_Ref_sample_15 ⟨rfl, ?_⟩
      refine ⟨fun _ => r_sfin hs (rst_R hN fr) h6 (by omega) hl (tp τ ls hq hl ha fr) fr ps hr, fun z => absurd ?_ z⟩
      rw [ps.1, show nI (p + 1) + 3 = nI (p + 1 + 3) from nI_add _ 3]
      exact nI_le (by omega) (by omega)
    | succ f ih =>
      intro τ ls h3 hq hl ha fr ps e
      have hT := rst_R hN fr
      refine h_Ref_sample_15 ⟨rfl, ?_⟩
      refine ⟨fun z => absurd z ?_, fun _ => ⟨rfl, r_next hT ps.1 hq ⟨_, rfl, ?_⟩⟩⟩
      · rw [ps.1, show nI (p + 1) + 3 = nI (p + 1 + 3) from nI_add _ 3]
        exact nI_ge (by omega) (by omega)
      rw [r_inI (A := 97) (C := 99) rfl rfl]
      unfold ltr at e
      cases el : ltq (pkb N b (p + 1 + ls.length)) with
      | none =>
        rw [el] at e
        have e : ltr (pkb N b) 3 (p + 1) [] = (p + 1 + ls.length, ls) := e
        rw [e] at hr
        dsimp only at hr
        rw [if_neg (by rcases ltq_n el with h | h <;> omega)]
        exact ⟨_, rfl, fun _ => r_sfin hs hT h6 (by omega) hl (tp τ ls hq hl ha fr) fr ps hr, fun z => absurd rfl z⟩
      | some l =>
        rw [el] at e
        obtain ⟨l1, l2⟩ := ltq_s el
        have hqN : p + 1 + ls.length < N := pq_in (pkb_k N b) l2 (by
          intro z
          have : (nI (97 + l)).toInt = -1 := by rw [← z]; decide
          rw [nI_toInt (by omega)] at this
          omega)
        rw [l2, nI_toInt (by omega), if_pos (by omega)]
        refine ⟨_, rfl, fun z => absurd z (by decide), fun _ => ⟨rfl, rfl, ?_⟩⟩
        rw [ps.1, nI_1]
        refine ih _ (ls ++ [l]) (by rw [ln_s]; omega) (by rw [ln_s]; omega) (fun x hx => ?_) (fun i hi => ?_) (rdR_tr fr R_46 (Nat.le_refl _)) ⟨?_, ?_, ?_, fun i hi => ?_⟩ ?_
        · rcases List.mem_append.mp hx with hx | hx
          · exact hl x hx
          · rw [List.mem_singleton.mp hx]; exact l1
        · rw [ln_s] at hi
          by_cases ei : i < ls.length
          · rw [gd_l ei]; exact ha i ei
          · rw [gd_r (by omega), show i - ls.length = 0 by omega, show i = ls.length by omega]; exact l2
        · rw [mv_rd, ln_s]; rfl
        · rw [mv_rn (by omega)]; exact ps.2.1
        · rw [mv_rn (by omega)]; exact ps.2.2.1
        · rw [mv_rn (by omega)]; exact ps.2.2.2 i hi
        · rw [ln_s]; exact e
  refine w_Ref_sample ⟨rfl, rfl, rfl, ?_⟩
  rw [mv_rd, ps.1, nI_1]
  exact loop 3 _ [] rfl (by show p + 1 + 0 ≤ N; omega) (fun l hl => absurd hl (List.not_mem_nil)) (fun i hi => absurd hi (Nat.not_lt_zero _)) R_46 ⟨mv_rd, by rw [mv_rn (by omega)]; exact ps.2.1, by rw [mv_rn (by omega)]; exact ps.2.2.1, fun i hi => by rw [mv_rn (by omega)]; exact ps.2.2.2 i hi⟩ rfl
end READR3
