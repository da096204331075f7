/-! ===== the table and the laws, reference ===== -/
def nq (g : Nat → Nat) (c : Nat) : Nat := bf_ix (eF g) c
theorem nq_eq (g : Nat → Nat) (c : Nat) : nq g c = bf_ix (eF g) c := rfl
theorem nq_ne {g : Nat → Nat} {a b : Nat} (ha : inm g a) (hb : inm g b) : nI (nq g a) = nI (nq g b) ↔ a = b := by
  have hle := eF_le (g := g)
  have ia := inm_ix ha
  have ib := inm_ix hb
  rw [← nq_eq] at ia ib
  constructor
  · intro h
    have := nI_28 (by omega) (by omega) h
    rw [← ia.2, this, ib.2]
  · intro h; rw [h]
def tbR (M : md_T) (σ : mv_S) : Prop := moR M σ ∧ (∀ a b, inm (gL M) a → inm (gL M) b → σ.1 74 (256 * nq (gL M) a + nq (gL M) b) = nI (nq (gL M) (th a b))) ∧ ∀ a, inm (gL M) a → σ.1 75 (nq (gL M) a) = nI (nq (gL M) (om a))
def frw (σ τ : mv_S) : Prop := (∀ c j, ¬ c = 74 → ¬ c = 75 → ¬ (c = 61 ∧ (j = 31 ∨ j = 32)) → τ.1 c j = σ.1 c j) ∧ τ.2 = σ.2
theorem frw_tr {a b c : mv_S} (h : frw a b) (g : frw b c) : frw a c := ⟨fun x j q1 q2 q3 => (g.1 x j q1 q2 q3).trans (h.1 x j q1 q2 q3), g.2.trans h.2⟩
theorem frw_R {M : md_T} {σ τ : mv_S} (h : frw σ τ) (m : moR M σ) : moR M τ := moR_S (fun c j q => h.1 c j (by omega) (by omega) (by omega)) m
theorem S_w {σ τ : mv_S} (h : frw σ τ) : frS σ τ := ⟨fun c j q => h.1 c j (fun z => q (by unfold sc2; omega)) (fun z => q (by unfold sc2; omega)) (fun z => q (by unfold sc2; omega)), h.2⟩
theorem G_w {G : Nat} {σ τ : mv_S} (h : frw σ τ) (m : iv_G G σ) : iv_G G τ := iv_G_S (h.1 _ _ (by omega) (by omega) (by omega)) (fun c => h.1 _ _ (by omega) (by omega) (by omega)) m
section RWRONG
variable {X : mv_X} {d : Nat} {σ : mv_S} {Q : mv_Q} {M : md_T}
theorem r_tabL (hM : md_ok M) (m : moR M σ) (hQ : ∀ τ2, tbR M τ2 → frw σ τ2 → Q none τ2) : mv_wf X (mv_wp X (d + 5)) m_Ref_findsTable Q 7 [.ref 61, .retAddr 0, .int (nI 0), .retAddr 0] [] σ := by
  have hle := eF_le (g := gL M)
  have hpd : ∀ i j, i < (eF (gL M)).1 → j < (eF (gL M)).1 → pd (gL M) i j < 256 := fun i j hi hj => Nat.lt_of_lt_of_le (pd_lt hi hj) hle
  have om_l : ∀ r i (τ : mv_S), i + r = (eF (gL M)).1 → frw σ τ → (∀ x y, x < (eF (gL M)).1 → y < (eF (gL M)).1 → τ.1 74 (256 * x + y) = nI (pd (gL M) x y)) → (∀ x, x < i → τ.1 75 x = nI (nq (gL M) (om ((eF (gL M)).2.1 x)))) → mv_wf X (mv_wp X (d + 5)) m_Ref_findsTable Q 57 [.ref 61, .retAddr 0, .int (nI i), .retAddr 0] [] τ := by
    intro r
    induction r with
    | zero =>
      intro i τ hi fr t1 t2
      have mm := frw_R fr m
      refine h_Ref_findsTable_57 ⟨rfl, ?_⟩
      rw [mm.2.2.1]
      refine ⟨fun _ => hQ τ ⟨mm, fun a b ha hb => ?_, fun a ha => ?_⟩ fr, fun z => absurd (nI_le (by omega) (by omega)) z⟩
      · have ia := inm_ix ha
        have ib := inm_ix hb
        rw [← nq_eq] at ia ib
        rw [t1 _ _ ia.1 ib.1]
        unfold pd
        rw [ia.2, ib.2, ← nq_eq]
      · have ia := inm_ix ha
        rw [← nq_eq] at ia
        rw [t2 _ (by omega), ia.2]
    | succ r ih =>
      intro i τ hi fr t1 t2
      have mm := frw_R fr m
      refine h_Ref_findsTable_57 ⟨rfl, ?_⟩
      rw [mm.2.2.1]
      refine ⟨fun z => absurd z (nI_ge (by omega) (by omega)), fun _ => ⟨rfl, rfl, ?_⟩⟩
      refine r_omegaOf hM mm (by omega) ⟨_, rfl, ⟨rfl, vp_in_nI (N := 256) (by omega) (by omega)⟩, ?_⟩
      rw [nI_clamp (by omega), nI_1]
      refine ih (i + 1) _ (by omega) ⟨fun c y q1 q2 q3 => by rw [mv_rn (by omega)]; exact fr.1 c y q1 q2 q3, fr.2⟩ (fun x y hx hy => by rw [mv_rn (by omega)]; exact t1 x y hx hy) (fun x hx => ?_)
      by_cases e : x = i
      · rw [e, mv_rd, nq_eq]
      · rw [mv_rn (by omega)]; exact t2 x (by omega)
  have rows : ∀ r i (τ : mv_S), i + r = (eF (gL M)).1 → frw σ τ → (∀ x y, x < i → y < (eF (gL M)).1 → τ.1 74 (256 * x + y) = nI (pd (gL M) x y)) → mv_wf X (mv_wp X (d + 5)) m_Ref_findsTable Q 7 [.ref 61, .retAddr 0, .int (nI i), .retAddr 0] [] τ := by
    intro r
    induction r with
    | zero =>
      intro i τ hi fr t1
      have mm := frw_R fr m
      refine h_Ref_findsTable_7 ⟨rfl, ?_⟩
      rw [mm.2.2.1]
      exact ⟨fun _ => om_l (eF (gL M)).1 0 τ (by omega) fr (fun x y hx hy => t1 x y (by omega) hy) (fun x hx => absurd hx (Nat.not_lt_zero _)), fun z => absurd (nI_le (by omega) (by omega)) z⟩
    | succ r ih =>
      intro i τ hi fr t1
      have mm := frw_R fr m
      have cols : ∀ s j (υ : mv_S), j + s = (eF (gL M)).1 → frw σ υ → (∀ x y, x < i → y < (eF (gL M)).1 → υ.1 74 (256 * x + y) = nI (pd (gL M) x y)) → (∀ y, y < j → υ.1 74 (256 * i + y) = nI (pd (gL M) i y)) → mv_wf X (mv_wp X (d + 5)) m_Ref_findsTable Q 17 [.ref 61, .retAddr 0, .int (nI i), .int (nI j)] [] υ := by
        intro s
        induction s with
        | zero =>
          intro j υ hj fu u1 u2
          have mu := frw_R fu m
          refine h_Ref_findsTable_17 ⟨rfl, ?_⟩
          rw [mu.2.2.1]
          refine ⟨fun _ => ?_, fun z => absurd (nI_le (by omega) (by omega)) z⟩
          rw [nI_1]
          refine ih (i + 1) υ (by omega) fu (fun x y hx hy => ?_)
          by_cases e : x = i
          · rw [e]; exact u2 y (by omega)
          · exact u1 x y (by omega) hy
        | succ s ih2 =>
          intro j υ hj fu u1 u2
          have mu := frw_R fu m
          refine h_Ref_findsTable_17 ⟨rfl, ?_⟩
          rw [mu.2.2.1]
          refine ⟨fun z => absurd z (nI_ge (by omega) (by omega)), fun _ => ⟨rfl, rfl, ?_⟩⟩
          refine r_timesOf hM mu (by omega) (by omega) ⟨_, rfl, ?_⟩
          rw [show (256 : Int32) = nI 256 from rfl, pk_mul, nI_add]
          refine ⟨⟨rfl, vp_in_nI (N := 65536) (by omega) (by omega)⟩, ?_⟩
          rw [nI_clamp (n := 256 * i + j) (by omega), nI_1]
          refine ih2 (j + 1) _ (by omega) ⟨fun c y q1 q2 q3 => by rw [mv_rn (by omega)]; exact fu.1 c y q1 q2 q3, fu.2⟩ (fun x y hx hy => ?_) (fun y hy => ?_)
          · rw [mv_rn (by omega)]; exact u1 x y hx hy
          · by_cases e : y = j
            · rw [e, mv_rd]
            · rw [mv_rn (by omega)]; exact u2 y (by omega)
      refine h_Ref_findsTable_7 ⟨rfl, ?_⟩
      rw [mm.2.2.1]
      exact ⟨fun z => absurd z (nI_ge (by omega) (by omega)), fun _ => cols (eF (gL M)).1 0 τ (by omega) fr t1 (fun y hy => absurd hy (Nat.not_lt_zero _))⟩
  exact rows (eF (gL M)).1 0 σ (by omega) ⟨fun _ _ _ _ _ => rfl, rfl⟩ (fun x y hx => absurd hx (Nat.not_lt_zero _))
theorem nq_lt {a : Nat} (ha : inm (gL M) a) : nq (gL M) a < 256 := by
  have := (inm_ix ha).1
  rw [nq_eq]
  have hle := eF_le (g := gL M)
  omega
theorem r_at {a b : Nat} (t : tbR M σ) (ha : inm (gL M) a) (hb : inm (gL M) b) (hQ : Q (some (.int (nI (nq (gL M) (th a b))))) σ) : mv_wp X (d + 1) 178 [.ref 61, .int (nI (nq (gL M) a)), .int (nI (nq (gL M) b))] σ Q := by
  have la := nq_lt ha
  have lb := nq_lt hb
  refine (w_Ref_at _ _ _ _ _ _).mpr ⟨rfl, ?_⟩
  rw [show (256 : Int32) = nI 256 from rfl, pk_mul, nI_add, nI_clamp (n := 256 * nq (gL M) a + nq (gL M) b) (by omega), t.2.1 a b ha hb]
  exact ⟨⟨rfl, vp_in_nI (N := 65536) (by omega) (by omega)⟩, hQ⟩
theorem cmpR {x y : Nat} (hx : inm (gL M) x) (hy : inm (gL M) y) (hQ : Q (some (.int (if decide (x = y) = true then 1 else 0))) σ) : (¬ nI (nq (gL M) x) = nI (nq (gL M) y) → ((0 : Int32) = (0 : Int32) ∨ (0 : Int32) = (1 : Int32)) ∧ Q (some (.int 0)) σ) ∧ (nI (nq (gL M) x) = nI (nq (gL M) y) → ((1 : Int32) = (0 : Int32) ∨ (1 : Int32) = (1 : Int32)) ∧ Q (some (.int 1)) σ) := by
  rw [nq_ne hx hy]
  by_cases e : x = y
  · rw [if_pos (decide_eq_true e)] at hQ
    exact ⟨fun z => absurd e z, fun _ => ⟨Or.inr rfl, hQ⟩⟩
  · rw [if_neg (fun z => e (of_decide_eq_true z))] at hQ
    exact ⟨fun _ => ⟨Or.inl rfl, hQ⟩, fun z => absurd z e⟩
theorem r_idem {a : Nat} (t : tbR M σ) (ha : inm (gL M) a) (hQ : Q (some (.int (if decide (th a a = a) = true then 1 else 0))) σ) : mv_wp X (d + 2) 197 [.ref 61, .int (nI (nq (gL M) a))] σ Q := by
  refine (w_Ref_isIdempotent _ _ _ _ _).mpr ⟨rfl, ?_⟩
  exact r_at t ha ha ⟨_, rfl, cmpR (inm_th ha ha) ha hQ⟩
theorem r_isTie {i : Nat} (t : tbR M σ) (hi : i < (eF (gL M)).1) (hQ : Q (some (.int (if tie (gL M) i = true then 1 else 0))) σ) : mv_wp X (d + 3) 198 [.ref 61, .int (nI i)] σ Q := by
  have hle := eF_le (g := gL M)
  have ei : nq (gL M) ((eF (gL M)).2.1 i) = i := by rw [nq_eq]; exact ix_cd hi
  have idm : ∀ (Q : mv_Q), Q (some (.int (if decide (th ((eF (gL M)).2.1 i) ((eF (gL M)).2.1 i) = (eF (gL M)).2.1 i) = true then 1 else 0))) σ → mv_wp X (d + 2) 197 [.ref 61, .int (nI i)] σ Q := fun Q q => by
    have := r_idem (X := X) (d := d) (Q := Q) (a := (eF (gL M)).2.1 i) t ⟨i, hi, rfl⟩ q
    rw [ei] at this
    exact this
  refine (w_Ref_isTie _ _ _ _ _).mpr ⟨rfl, idm _ ⟨_, rfl, ?_⟩⟩
  unfold tie at hQ
  by_cases e : decide (th ((eF (gL M)).2.1 i) ((eF (gL M)).2.1 i) = (eF (gL M)).2.1 i) = true
  · rw [if_pos e]
    rw [e, Bool.true_and] at hQ
    refine ⟨fun z => absurd z (by decide), fun _ => ?_⟩
    by_cases e0 : i = 0
    · rw [decide_eq_true e0, Bool.not_true, Bool.false_or] at hQ
      rw [e0]
      refine ⟨fun z => absurd z (by decide), fun _ => ⟨rfl, ?_⟩⟩
      rw [t.1.2.2.2.1]
      by_cases et : tf (gL M) (3 * (eF (gL M)).1) = true
      · rw [if_pos et] at hQ ⊢
        exact ⟨fun z => absurd z (by decide), fun _ => ⟨Or.inr rfl, hQ⟩⟩
      · rw [if_neg et] at hQ ⊢
        exact ⟨fun _ => ⟨Or.inl rfl, hQ⟩, fun z => absurd rfl z⟩
    · rw [decide_eq_false e0, Bool.not_false, Bool.true_or, if_pos rfl] at hQ
      exact ⟨fun _ => ⟨Or.inr rfl, hQ⟩, fun z => absurd (nI_lt (a := 0) (by omega) (by omega)) z⟩
  · rw [if_neg e]
    rw [eq_false_of_ne_true e, Bool.false_and, if_neg (by decide)] at hQ
    exact ⟨fun _ => ⟨Or.inl rfl, hQ⟩, fun z => absurd rfl z⟩
theorem r_goesWith {x a : Nat} (t : tbR M σ) (hx : inm (gL M) x) (ha : inm (gL M) a) (hQ : Q (some (.int (if qui (gL M) a x (eF (gL M)).1 = true then 1 else 0))) σ) : mv_wp X (d + 3) 199 [.ref 61, .int (nI (nq (gL M) x)), .int (nI (nq (gL M) a))] σ Q := by
  have hle := eF_le (g := gL M)
  have q2 := qui_iff (g := gL M) (a := a) (x := x) (n := (eF (gL M)).1)
  refine w_Ref_goesWith ?_
  have loop : ∀ r k, k + r = (eF (gL M)).1 → (∀ j, j < k → th x (th (th a ((eF (gL M)).2.1 j)) a) = th (th (th a ((eF (gL M)).2.1 j)) a) x) → mv_wf X (mv_wp X (d + 2)) m_Ref_goesWith Q 2 [.ref 61, .int (nI (nq (gL M) x)), .int (nI (nq (gL M) a)), .int (nI k), .retAddr 0] [] σ := by
    intro r
    induction r with
    | zero =>
      intro k hk p
      refine h_Ref_goesWith_2 ⟨rfl, ?_⟩
      rw [t.1.2.2.1]
      refine ⟨fun _ => ⟨Or.inr rfl, ?_⟩, fun z => absurd (nI_le (by omega) (by omega)) z⟩
      rw [if_pos (q2.mpr (fun j hj => p j (by omega)))] at hQ
      exact hQ
    | succ r ih =>
      intro k hk p
      refine h_Ref_goesWith_2 ⟨rfl, ?_⟩
      rw [t.1.2.2.1]
      refine ⟨fun z => absurd z (nI_ge (by omega) (by omega)), fun _ => ⟨rfl, ?_⟩⟩
      have ek : nq (gL M) ((eF (gL M)).2.1 k) = k := by rw [nq_eq]; exact ix_cd (by omega)
      have ik : inm (gL M) ((eF (gL M)).2.1 k) := ⟨k, by omega, rfl⟩
      have pk := p
      generalize hkk : (eF (gL M)).2.1 k = b at ek ik
      rw [← ek]
      have i1 := inm_th ha ik
      have i2 := inm_th i1 ha
      have i3 := inm_th hx i2
      have i4 := inm_th i2 hx
      refine r_at t ha ik ⟨_, rfl, rfl, r_at t i1 ha ⟨_, rfl, rfl, r_at t hx i2 ⟨_, rfl, rfl, r_at t i2 hx ⟨_, rfl, ?_⟩⟩⟩⟩
      rw [nq_ne i3 i4, ek]
      refine ⟨fun z => ?_, fun z => ⟨Or.inl rfl, ?_⟩⟩
      · rw [nI_1]
        refine ih (k + 1) (by omega) (fun j hj => ?_)
        by_cases e : j = k
        · rw [e, hkk]; exact z
        · exact p j (by omega)
      · rw [if_neg (fun y => z (by have := q2.mp y k (by omega); rw [hkk] at this; exact this))] at hQ
        exact hQ
  exact loop (eF (gL M)).1 0 (by omega) (fun j hj => absurd hj (Nat.not_lt_zero _))
theorem r_om {a : Nat} (t : tbR M σ) (ha : inm (gL M) a) : σ.1 75 (nI (nq (gL M) a)).toNatClampNeg = nI (nq (gL M) (om a)) := by
  have := nq_lt ha
  rw [nI_clamp (by omega)]
  exact t.2.2 a ha
theorem v_75 {a : Nat} (ha : inm (gL M) a) : mv_sh 75 = 20 ∧ vp_in (nI (nq (gL M) a)) (mv_ln 75) := by
  have := nq_lt ha
  exact ⟨rfl, vp_in_nI (N := 256) (by omega) (by omega)⟩
theorem r_isSo {law i j : Nat} (hl : law < 12) (t : tbR M σ) (hi : i < (eF (gL M)).1) (hj : j < (eF (gL M)).1) (hQ : Q (some (.int (if lawb (gL M) law i j = true then 1 else 0))) σ) : mv_wp X (d + 4) 200 [.ref 61, .int (nI law), .int (nI i), .int (nI j)] σ Q := by
  have hle := eF_le (g := gL M)
  have ei : nq (gL M) ((eF (gL M)).2.1 i) = i := by rw [nq_eq]; exact ix_cd hi
  have ej : nq (gL M) ((eF (gL M)).2.1 j) = j := by rw [nq_eq]; exact ix_cd hj
  have ina : inm (gL M) ((eF (gL M)).2.1 i) := ⟨i, hi, rfl⟩
  have inb : inm (gL M) ((eF (gL M)).2.1 j) := ⟨j, hj, rfl⟩
  have cT : ∀ (Q : mv_Q), Q (some (.int (if tie (gL M) i = true then 1 else 0))) σ → mv_wp X (d + 3) 198 [.ref 61, .int (nI i)] σ Q := fun Q q => r_isTie t hi q
  unfold lawb at hQ
  have cW : ∀ x, inm (gL M) x → ∀ (Q : mv_Q), Q (some (.int (if qui (gL M) ((eF (gL M)).2.1 i) x (eF (gL M)).1 = true then 1 else 0))) σ → mv_wp X (d + 3) 199 [.ref 61, .int (nI (nq (gL M) x)), .int (nI (nq (gL M) ((eF (gL M)).2.1 i)))] σ Q := fun x hx Q q => r_goesWith t hx ina q
  have cW := cW _ (inm_th (inm_th ina inb) ina)
  generalize qui (gL M) ((eF (gL M)).2.1 i) (th (th ((eF (gL M)).2.1 i) ((eF (gL M)).2.1 j)) ((eF (gL M)).2.1 i)) (eF (gL M)).1 = q at *
  generalize tie (gL M) i = tt at *
  generalize (eF (gL M)).2.1 i = a at *
  generalize (eF (gL M)).2.1 j = b at *
  have inab := inm_th ina inb
  have inba := inm_th inb ina
  have inaba := inm_th inab ina
  have ine := inm_om inab
  have inf := inm_om inba
  have e0 : i = 0 ∨ ¬ i = 0 := by omega
  have e0' : ¬ i = 0 → ¬ nI (nq (gL M) a) = 0 := fun z => by rw [ei]; exact nI_ne0 (by omega) (by omega)
  have e0'' : i = 0 → nI (nq (gL M) a) = 0 := fun z => by rw [ei, z]; rfl
  rw [← ej]
  have ei2 := ei.symm
  rw [ei2] at cT
  rw [show nI i = nI (nq (gL M) a) by rw [ei]]
  clear ei ei2 ej hi hj
  refine (w_Ref_isSo _ _ _ _ _ _ _).mpr ⟨rfl, rfl, ?_⟩
  refine r_at t ina inb ⟨_, rfl, v_75 inab, rfl, rfl, ?_⟩
  refine r_at t inb ina ⟨_, rfl, v_75 inba, rfl, ?_⟩
  refine r_at t ina inb ⟨_, rfl, rfl, ?_⟩
  refine r_at t inab ina ⟨_, rfl, ?_⟩
  rw [r_om t inab, r_om t inba]
  have hl12 : law = 0 ∨ law = 1 ∨ law = 2 ∨ law = 3 ∨ law = 4 ∨ law = 5 ∨ law = 6 ∨ law = 7 ∨ law = 8 ∨ law = 9 ∨ law = 10 ∨ law = 11 := by omega
  rcases hl12 with rfl | rfl | rfl | rfl | rfl | rfl | rfl | rfl | rfl | rfl | rfl | rfl
  · repeat (first | refine dt (by decide) ?_ | refine df (by decide) ?_)
    refine ⟨rfl, v_75 ina, rfl, ?_⟩
    rw [r_om t ina]
    refine r_at t (inm_om ina) ina ⟨_, rfl, rfl, v_75 ina, ?_⟩
    rw [r_om t ina]
    exact cmpR (inm_th (inm_om ina) ina) (inm_om ina) hQ
  · repeat (first | refine dt (by decide) ?_ | refine df (by decide) ?_)
    have hQ : Q (some (.int (if (decide (i = 0) || !decide (th a a = a)) = true then 1 else 0))) σ := hQ
    rcases e0 with e0 | e0
    · rw [decide_eq_true e0, Bool.true_or, if_pos rfl] at hQ
      exact ⟨fun _ => ⟨Or.inr rfl, hQ⟩, fun z => absurd (e0'' e0) z⟩
    · rw [decide_eq_false e0, Bool.false_or] at hQ
      refine ⟨fun z => absurd z (e0' e0), fun _ => ⟨rfl, ?_⟩⟩
      refine r_idem t ina ⟨_, rfl, ?_⟩
      by_cases e : th a a = a
      · rw [decide_eq_true e, if_neg (by decide)] at hQ
        rw [if_pos (decide_eq_true e)]
        exact ⟨fun _ => ⟨Or.inl rfl, hQ⟩, fun z => absurd z (by decide)⟩
      · rw [decide_eq_false e, if_pos (by decide)] at hQ
        rw [if_neg (fun z => e (of_decide_eq_true z))]
        exact ⟨fun z => absurd rfl z, fun _ => ⟨Or.inr rfl, hQ⟩⟩
  · repeat (first | refine dt (by decide) ?_ | refine df (by decide) ?_)
    refine ⟨rfl, r_at t ina inb ⟨_, rfl, rfl, r_at t inb ina ⟨_, rfl, cmpR inab inba hQ⟩⟩⟩
  · repeat (first | refine dt (by decide) ?_ | refine df (by decide) ?_)
    exact ⟨rfl, r_idem t ina ⟨_, rfl, bI_01 _, hQ⟩⟩
  · repeat (first | refine dt (by decide) ?_ | refine df (by decide) ?_)
    exact ⟨rfl, r_at t ine ina ⟨_, rfl, cmpR (inm_th ine ina) ine hQ⟩⟩
  · repeat (first | refine dt (by decide) ?_ | refine df (by decide) ?_)
    exact ⟨rfl, r_at t inb ine ⟨_, rfl, cmpR (inm_th inb ine) ine hQ⟩⟩
  · repeat (first | refine dt (by decide) ?_ | refine df (by decide) ?_)
    have hQ : Q (some (.int (if (decide (th (om (th a b)) a = om (th a b)) && decide (th b (om (th a b)) = om (th a b))) = true then 1 else 0))) σ := hQ
    refine ⟨rfl, r_at t ine ina ⟨_, rfl, ?_⟩⟩
    rw [nq_ne (inm_th ine ina) ine]
    by_cases e : th (om (th a b)) a = om (th a b)
    · rw [decide_eq_true e, Bool.true_and] at hQ
      exact ⟨fun z => absurd e z, fun _ => ⟨rfl, r_at t inb ine ⟨_, rfl, cmpR (inm_th inb ine) ine hQ⟩⟩⟩
    · rw [decide_eq_false e, Bool.false_and, if_neg (by decide)] at hQ
      exact ⟨fun _ => ⟨Or.inl rfl, hQ⟩, fun z => absurd z e⟩
  · repeat (first | refine dt (by decide) ?_ | refine df (by decide) ?_)
    obtain ⟨o1, o2⟩ := or_t (b := decide (th (th (th a b) a) (th (th a b) a) = th (th a b) a) && q) hQ
    refine ⟨rfl, cT _ ⟨_, rfl, ?_⟩⟩
    cases tt with
    | false => exact ⟨fun _ => ⟨Or.inr rfl, o1 rfl⟩, fun z => absurd rfl z⟩
    | true =>
      have o2 := o2 rfl
      refine ⟨fun z => absurd z (by decide), fun _ => ⟨rfl, r_idem t inaba ⟨_, rfl, ?_⟩⟩⟩
      by_cases e : th (th (th a b) a) (th (th a b) a) = th (th a b) a
      · rw [decide_eq_true e, Bool.true_and] at o2
        rw [if_pos (decide_eq_true e)]
        refine ⟨fun z => absurd z (by decide), fun _ => ⟨rfl, cW _ ⟨_, rfl, ?_⟩⟩⟩
        cases q with
        | true => exact ⟨fun z => absurd z (by decide), fun _ => ⟨Or.inr rfl, o2⟩⟩
        | false => exact ⟨fun _ => ⟨Or.inl rfl, o2⟩, fun z => absurd rfl z⟩
      · rw [decide_eq_false e, Bool.false_and, if_neg (by decide)] at o2
        rw [if_neg (fun z => e (of_decide_eq_true z))]
        exact ⟨fun _ => ⟨Or.inl rfl, o2⟩, fun z => absurd rfl z⟩
  · repeat (first | refine dt (by decide) ?_ | refine df (by decide) ?_)
    obtain ⟨o1, o2⟩ := or_t (b := decide (th b a = a)) hQ
    refine ⟨rfl, cT _ ⟨_, rfl, ?_⟩⟩
    cases tt with
    | false => exact ⟨fun _ => ⟨Or.inr rfl, o1 rfl⟩, fun z => absurd rfl z⟩
    | true => exact ⟨fun z => absurd z (by decide), fun _ => ⟨rfl, r_at t inb ina ⟨_, rfl, cmpR inba ina (o2 rfl)⟩⟩⟩
  · repeat (first | refine dt (by decide) ?_ | refine df (by decide) ?_)
    obtain ⟨o1, o2⟩ := or_t (b := decide (th a b = a)) hQ
    refine ⟨rfl, cT _ ⟨_, rfl, ?_⟩⟩
    cases tt with
    | false => exact ⟨fun _ => ⟨Or.inr rfl, o1 rfl⟩, fun z => absurd rfl z⟩
    | true => exact ⟨fun z => absurd z (by decide), fun _ => ⟨rfl, r_at t ina inb ⟨_, rfl, cmpR inab ina (o2 rfl)⟩⟩⟩
  · repeat (first | refine dt (by decide) ?_ | refine df (by decide) ?_)
    obtain ⟨o1, o2⟩ := or_t (b := decide (th (th a b) a = a)) hQ
    refine ⟨rfl, cT _ ⟨_, rfl, ?_⟩⟩
    cases tt with
    | false => exact ⟨fun _ => ⟨Or.inr rfl, o1 rfl⟩, fun z => absurd rfl z⟩
    | true => exact ⟨fun z => absurd z (by decide), fun _ => cmpR inaba ina (o2 rfl)⟩
  · repeat (first | refine dt (by decide) ?_ | refine df (by decide) ?_)
    exact ⟨rfl, r_at t ine inf ⟨_, rfl, rfl, r_at t (inm_th ine inf) ine ⟨_, rfl, cmpR (inm_th (inm_th ine inf) ine) ine hQ⟩⟩⟩
end RWRONG
