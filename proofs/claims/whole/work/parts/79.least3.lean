/-! ===== least, reference and op ===== -/
theorem lN_m62 {a : Nat} (ha : a < 2 ^ 62) : ¬ lN a = -1 := by
  intro h
  have h1 : (lN a).toInt = (-1 : Int64).toInt := by rw [h]
  rw [show (lN a).toInt = (a : Int) from lg_ofNat_toInt (by omega), show (-1 : Int64).toInt = -1 by decide] at h1
  omega
section LEASTR
variable {X : mv_X} {d : Nat} {σ : mv_S} {Q : mv_Q} {A B : md_T}
def ls_iR (A B : md_T) (s : Nat) (τ : mv_S) : Prop := (∀ x, x < 16 → τ.2 86 x = if bf_ix (ls_S A B s) x < (ls_S A B s).1 then lN (wdp (ls_F A B).2.2 (bf_ix (ls_S A B s) x) (bf_ix (ls_S A B s) x)) else -1) ∧ ∀ k, k < (ls_S A B s).1 → τ.1 82 k = nI ((ls_S A B s).2.1 k)
theorem rf_fr {n c k : Nat} {τ : mv_S} {M : md_T} (h : rf_M σ c k M) (hf : fr1 n σ τ) (h1 : ¬ c = n) : rf_M τ c k M := ⟨(hf _ _ h1).trans h.1, (hf _ _ h1).trans h.2.1, (hf _ _ h1).trans h.2.2.1, fun j hj => (hf _ _ h1).trans (h.2.2.2 j hj)⟩
theorem ls_in (A B : md_T) (s : Nat) : bf_In (ls_S A B s) := by rw [ls_S_eq]; exact bf_inj _
theorem wdp_62 {src : Nat → Nat} {k : Nat} (hk : k < 16) : wdp src k k < 2 ^ 62 := by
  have h1 := wdp_lt src k k
  have h2 : 10 ^ k ≤ 10 ^ 15 := Nat.pow_le_pow_right (by decide) (by omega)
  exact Nat.lt_of_lt_of_le h1 (Nat.le_trans h2 (by decide))
theorem lsr_in {t u w h : Nat} (ht : t < 3) (hu : u < 3) (oA : md_ok A) (oB : md_ok B) (cA : rf_M σ 62 t A) (cB : rf_M σ 62 u B) (hh : h < 16)
    (K : ∀ τ, ls_iR A B (3 * h + 3) τ → fr1 82 σ τ → fr2 86 σ τ → mv_wf X (mv_wp X (d + 1)) m_Ref_least Q 95 [.ref 61, .int (nI t), .int (nI u), .int (nI w), .int (nI (ls_S A B (3 * h + 3)).1), .int (nI (h + 1)), .retAddr 0, .retAddr 0, .retAddr 0, .retAddr 0, .retAddr 0, .retAddr 0] [] τ) :
    ∀ k l τ, l + k = 3 → h < (ls_S A B (3 * h + l)).1 → ls_iR A B (3 * h + l) τ → fr1 82 σ τ → fr2 86 σ τ → mv_wf X (mv_wp X (d + 1)) m_Ref_least Q 200 [.ref 61, .int (nI t), .int (nI u), .int (nI w), .int (nI (ls_S A B (3 * h + l)).1), .int (nI h), .int (nI ((ls_S A B (3 * h + l)).2.1 h / 4)), .int (nI ((ls_S A B (3 * h + l)).2.1 h % 4)), .retAddr 0, .retAddr 0, .int (nI l), .retAddr 0] [] τ := by
  intro k
  induction k with
  | zero =>
    intro l τ hl hc hi hf1 hf2
    obtain rfl : l = 3 := by omega
    refine h_Ref_least_200 ⟨fun _ => ?_, fun z => absurd (by decide) z⟩
    rw [nI_1]
    exact K τ hi hf1 hf2
  | succ k ih =>
    intro l τ hl hc hi hf1 hf2
    obtain ⟨i2, i3⟩ := hi
    have hx := ls_q_lt oA oB (3 * h + l) h hc
    have hle := ls_le oA oB (3 * h + l)
    have hs1 : (3 * h + l) / 3 = h := by omega
    have hs2 : (3 * h + l) % 3 = l := by omega
    have hcl := ls_lt oA oB ((ls_S A B (3 * h + l)).2.1 h) l hx (by omega)
    have cA' := rf_fr cA hf1 (by omega)
    have cB' := rf_fr cB hf1 (by omega)
    refine h_Ref_least_200 ⟨fun z => absurd z (nI_ge (b := 3) (by omega) (by omega)), fun _ => ⟨rfl, ?_⟩⟩
    refine r_toM ht cA' (by omega) (by omega) ⟨_, rfl, rfl, r_toM hu cB' (by omega) (by omega) ⟨_, rfl, rfl, ?_⟩⟩
    have hcc : 4 * nI (A.2.2.2 (3 * ((ls_S A B (3 * h + l)).2.1 h / 4) + l)) + nI (B.2.2.2 (3 * ((ls_S A B (3 * h + l)).2.1 h % 4) + l)) = nI (ls_nx A B ((ls_S A B (3 * h + l)).2.1 h) l) := by
      unfold ls_nx
      rw [show (4 : Int32) = nI 4 from rfl, pk_mul, nI_add]
    rw [hcc, nI_clamp (n := ls_nx A B ((ls_S A B (3 * h + l)).2.1 h) l) (by omega), lg_0, i2 _ hcl]
    refine ⟨⟨rfl, vp_in_nI (N := 16) (by omega) (by omega)⟩, ?_⟩
    by_cases htb : bf_ix (ls_S A B (3 * h + l)) (ls_nx A B ((ls_S A B (3 * h + l)).2.1 h) l) < (ls_S A B (3 * h + l)).1
    · rw [if_pos htb]
      refine ⟨fun _ => ?_, fun z => absurd z (lN_m62 (wdp_62 (by omega)))⟩
      have e : ls_S A B (3 * h + l + 1) = ls_S A B (3 * h + l) := by
        rw [ls_S_eq, ls_S_eq]
        refine bf_has (by rw [hs1]; exact hc) ?_
        rw [hs1, hs2]
        exact htb
      have := ih (l + 1) τ (by omega) (by rw [← Nat.add_assoc, e]; exact hc) (by rw [← Nat.add_assoc]; unfold ls_iR; rw [e]; exact ⟨i2, i3⟩) hf1 hf2
      rw [← Nat.add_assoc, e] at this
      rw [nI_1]
      exact this
    · rw [if_neg htb]
      refine ⟨fun z => absurd rfl z, fun _ => ⟨rfl, rfl, rfl, ?_⟩⟩
      have hnew : ¬ bf_ix (bf (ls_nx A B) (ls_q0 A B) 3 (3 * h + l)) (ls_nx A B ((bf (ls_nx A B) (ls_q0 A B) 3 (3 * h + l)).2.1 ((3 * h + l) / 3)) ((3 * h + l) % 3)) < (bf (ls_nx A B) (ls_q0 A B) 3 (3 * h + l)).1 := by
        rw [hs1, hs2]
        exact htb
      have hlt : (3 * h + l) / 3 < (bf (ls_nx A B) (ls_q0 A B) 3 (3 * h + l)).1 := by rw [hs1]; exact hc
      have e0 := bf_new hlt hnew
      have hroom : (ls_S A B (3 * h + l)).1 < 16 := bf_room (by decide) (ls_q0_lt oA oB) (ls_lt oA oB) hlt hnew
      have hw := ls_word (A := A) (B := B) (s := 3 * h + l) (by omega) hlt e0
      rw [hs1, hs2] at e0 hw
      have e : ls_S A B (3 * h + l + 1) = bf_add (ls_S A B (3 * h + l)) (ls_nx A B ((ls_S A B (3 * h + l)).2.1 h) l) (3 * h + l) := e0
      have hxh : bf_ix (ls_S A B (3 * h + l)) ((ls_S A B (3 * h + l)).2.1 h) = h := bf_ix_eq (ls_in _ _ _) hc rfl
      have inj1 := ls_in A B (3 * h + l + 1)
      have inj0 := ls_in A B (3 * h + l)
      rw [nI_clamp (n := h) (by omega), i3 h hc, nI_clamp (n := (ls_S A B (3 * h + l)).1) (by omega), nI_clamp (n := (ls_S A B (3 * h + l)).2.1 h) (by omega), i2 _ hx, hxh, if_pos hc, nI_l (by omega), show (10 : Int64) = lN 10 from rfl, lN_mul, lN_add, lN_1]
      refine ⟨⟨rfl, vp_in_nI (N := 32768) (by omega) (by omega)⟩, ⟨rfl, vp_in_nI (N := 16) (by omega) (by omega)⟩, ⟨rfl, vp_in_nI (N := 16) (by omega) (by omega)⟩, rfl, ⟨rfl, vp_in_nI (N := 32768) (by omega) (by omega)⟩, ?_⟩
      generalize hS : ls_S A B (3 * h + l) = S at *
      generalize hC : ls_nx A B (S.2.1 h) l = C at *
      rw [e] at inj1
      have := ih (l + 1) (mv_pi (mv_pl τ 86 C (lN (10 * wdp (ls_F A B).2.2 h h + l + 1))) 82 S.1 (nI C)) (by omega) (by rw [← Nat.add_assoc, e, add_1]; omega) (by
        rw [← Nat.add_assoc]
        unfold ls_iR
        rw [e]
        have iC : bf_ix (bf_add S C (3 * h + l)) C = S.1 := bf_ix_eq inj1 (by rw [add_1]; omega) (add_n _ _ _).1
        refine ⟨fun x hx => ?_, fun k hk => ?_⟩
        · show (mv_pl τ 86 C (lN (10 * wdp (ls_F A B).2.2 h h + l + 1))).2 86 x = _
          by_cases ex : x = C
          · rw [ex, iC, add_1, if_pos (by omega), mv_ld, hw]
          · rw [mv_ln_ (by omega), i2 x hx]
            by_cases ei : bf_ix S x < S.1
            · have at1 := bf_ix_at ei
              have iX : bf_ix (bf_add S C (3 * h + l)) x = bf_ix S x := bf_ix_eq inj1 (by rw [add_1]; omega) (by rw [(add_o _ _ _ (by omega)).1]; exact at1)
              rw [iX, add_1, if_pos ei, if_pos (by omega)]
            · rw [if_neg ei, if_neg ?_]
              intro z
              obtain ⟨y, y1, y2⟩ := (bf_ix_iff _ _).mp z
              rw [add_1] at y1
              by_cases ey : y = S.1
              · rw [ey, (add_n _ _ _).1] at y2; exact ex y2.symm
              · rw [(add_o _ _ _ ey).1] at y2; exact ei ((bf_ix_iff _ _).mpr ⟨y, by omega, y2⟩)
        · rw [add_1] at hk
          by_cases ez : k = S.1
          · subst ez
            rw [(add_n _ _ _).1]
            exact mv_rd
          · rw [(add_o _ _ _ ez).1]
            exact (mv_rn (by omega)).trans (i3 k (by omega))) (fun c j hcj => by
          rw [mv_rn (by omega)]; exact hf1 c j hcj) (fun c j hcj => by
          show (mv_pl τ 86 C (lN (10 * wdp (ls_F A B).2.2 h h + l + 1))).2 c j = _
          rw [mv_ln_ (by omega)]; exact hf2 c j hcj)
      rw [← Nat.add_assoc, e, add_1, (add_o _ _ _ (by omega)).1] at this
      rw [nI_1, nI_1]
      exact this
theorem lsr_out {t u w : Nat} (hw : w < 3) (ht : t < 3) (hu : u < 3) (oA : md_ok A) (oB : md_ok B) (cA : rf_M σ 62 t A) (cB : rf_M σ 62 u B)
    (hQ : ∀ τ : mv_S, fr1 82 σ τ → fr2 86 σ τ → Q (some (.long (ls_ans A B w))) τ) :
    ∀ k h τ, h + k = 16 → h ≤ (ls_S A B (3 * h)).1 → (∀ j, j < h → ls_wt A B w ((ls_F A B).2.1 j) = false) → ls_iR A B (3 * h) τ → fr1 82 σ τ → fr2 86 σ τ → mv_wf X (mv_wp X (d + 1)) m_Ref_least Q 95 [.ref 61, .int (nI t), .int (nI u), .int (nI w), .int (nI (ls_S A B (3 * h)).1), .int (nI h), .retAddr 0, .retAddr 0, .retAddr 0, .retAddr 0, .retAddr 0, .retAddr 0] [] τ := by
  intro k
  induction k with
  | zero =>
    intro h τ hk hc hn hi hf1 hf2
    have hle := ls_le oA oB (3 * h)
    have e : (ls_S A B (3 * h)).1 = h := by omega
    have := hQ τ hf1 hf2
    rw [ls_none hn (by rw [← ls_end oA oB e]; exact e)] at this
    exact h_Ref_least_95 ⟨fun _ => this, fun z => absurd (nI_le (by omega) (by omega)) z⟩
  | succ k ih =>
    intro h τ hk hc hn hi hf1 hf2
    have hle := ls_le oA oB (3 * h)
    by_cases e : (ls_S A B (3 * h)).1 = h
    · have := hQ τ hf1 hf2
      rw [ls_none hn (by rw [← ls_end oA oB e]; exact e)] at this
      exact h_Ref_least_95 ⟨fun _ => this, fun z => absurd (nI_le (by omega) (by omega)) z⟩
    have hlt : h < (ls_S A B (3 * h)).1 := by omega
    have hx := ls_q_lt oA oB (3 * h) h hlt
    have hp := ls_pre (A := A) (B := B) (3 * h) h (by omega) hlt
    have cA' := rf_fr cA hf1 (by omega)
    have cB' := rf_fr cB hf1 (by omega)
    have i3 := hi.2 h hlt
    have hxh : bf_ix (ls_S A B (3 * h)) ((ls_S A B (3 * h)).2.1 h) = h := bf_ix_eq (ls_in _ _ _) hlt rfl
    have i2 := hi.1 _ hx
    rw [hxh, if_pos hlt] at i2
    refine h_Ref_least_95 ⟨fun z => absurd z (nI_ge (by omega) (by omega)), fun _ => ?_⟩
    rw [nI_clamp (by omega), i3, q_rem4 (by omega), q_div4 (by omega)]
    refine ⟨rfl, ⟨rfl, vp_in_nI (N := 32768) (by omega) (by omega)⟩, by decide, rfl, ⟨rfl, vp_in_nI (N := 32768) (by omega) (by omega)⟩, by decide, rfl, ?_⟩
    refine r_isEndM ht oA cA' (by omega) ⟨_, rfl, rfl, r_isEndM hu oB cB' (by omega) ⟨_, rfl, ?_⟩⟩
    have yes : ls_wt A B w ((ls_S A B (3 * h)).2.1 h) = true → mv_sh 61 = 12 ∧ mv_sh 61 = 12 ∧ (mv_sh 82 = 20 ∧ vp_in (nI h) (mv_ln 82)) ∧ (mv_sh 86 = 23 ∧ vp_in (τ.1 82 h) (mv_ln 86)) ∧ Q (some (.long (τ.2 86 (τ.1 82 h).toNatClampNeg))) τ := by
      intro hwt
      rw [i3, nI_clamp (n := (ls_S A B (3 * h)).2.1 h) (by omega), i2]
      have := hQ τ hf1 hf2
      rw [ls_some hn hp.1 (by rw [hp.2.1]; exact hwt)] at this
      exact ⟨rfl, rfl, ⟨rfl, vp_in_nI (N := 32768) (by omega) (by omega)⟩, ⟨rfl, vp_in_nI (N := 16) (by omega) (by omega)⟩, this⟩
    have no : ls_wt A B w ((ls_S A B (3 * h)).2.1 h) = false → mv_wf X (mv_wp X (d + 1)) m_Ref_least Q 200 [.ref 61, .int (nI t), .int (nI u), .int (nI w), .int (nI (ls_S A B (3 * h)).1), .int (nI h), .int (nI ((ls_S A B (3 * h)).2.1 h / 4)), .int (nI ((ls_S A B (3 * h)).2.1 h % 4)), .retAddr 0, .retAddr 0, .int 0, .retAddr 0] [] τ := by
      intro hwt
      refine lsr_in (σ := σ) (A := A) (B := B) ht hu oA oB cA cB (by omega) (fun τ' j1 j2 j3 => ?_) 3 0 τ rfl hlt hi hf1 hf2
      refine ih (h + 1) τ' (by omega) ?_ (fun j hj => ?_) j1 j2 j3
      · have m := bf_mono (nx := ls_nx A B) (q0 := ls_q0 A B) (J := 3) (3 * h) 3
        exact Nat.lt_of_lt_of_le hlt m.1
      · by_cases ej : j = h
        · rw [ej, hp.2.1]; exact hwt
        · exact hn j (by omega)
    unfold ls_wt at yes no
    generalize A.2.2.1.testBit ((ls_S A B (3 * h)).2.1 h / 4) = ea at *
    generalize B.2.2.1.testBit ((ls_S A B (3 * h)).2.1 h % 4) = eb at *
    have hw2 : w = 0 ∨ w = 1 ∨ w = 2 := by omega
    rcases hw2 with rfl | rfl | rfl <;> cases ea <;> cases eb <;>
    · repeat (first
        | refine dt (by decide) ?_
        | refine df (by decide) ?_
        | refine dt' (by decide) ?_
        | refine df' (by decide) ?_)
      first
        | exact yes rfl
        | exact no rfl
theorem r_leastB {t u w : Nat} (hw : w < 3) (ht : t < 3) (hu : u < 3) (oA : md_ok A) (oB : md_ok B) (cA : rf_M σ 62 t A) (cB : rf_M σ 62 u B)
    (hQ : ∀ τ : mv_S, fr1 82 σ τ → fr2 86 σ τ → Q (some (.long (ls_ans A B w))) τ) :
    mv_wf X (mv_wp X (d + 1)) m_Ref_least Q 35 [.ref 61, .int (nI t), .int (nI u), .int (nI w), .int 0, .retAddr 0, .retAddr 0, .retAddr 0, .retAddr 0, .retAddr 0, .retAddr 0, .retAddr 0] [] σ := by
  have hq0 := ls_q0_lt oA oB
  have loop : ∀ r x (τ : mv_S), x + r = 16 → τ.1 = σ.1 → fr2 86 σ τ → (∀ y, y < x → τ.2 86 y = -1) → mv_wf X (mv_wp X (d + 1)) m_Ref_least Q 35 [.ref 61, .int (nI t), .int (nI u), .int (nI w), .int (nI x), .retAddr 0, .retAddr 0, .retAddr 0, .retAddr 0, .retAddr 0, .retAddr 0, .retAddr 0] [] τ := by
    intro r
    induction r with
    | zero =>
      intro x τ hx h1 h2 h3
      refine h_Ref_least_35 ⟨fun _ => ⟨rfl, rfl, ?_⟩, fun z => absurd (nI_le (a := 16) (by omega) (by omega)) z⟩
      have cA' : rf_M τ 62 t A := rf_fr cA (n := 82) (fun c j _ => by rw [h1]) (by omega)
      have cB' : rf_M τ 62 u B := rf_fr cB (n := 82) (fun c j _ => by rw [h1]) (by omega)
      refine r_startM ht cA' ⟨_, rfl, rfl, r_startM hu cB' ⟨_, rfl, ?_⟩⟩
      have eq : 4 * nI A.2.1 + nI B.2.1 = nI (ls_q0 A B) := by unfold ls_q0; rw [show (4 : Int32) = nI 4 from rfl, pk_mul, nI_add]
      rw [eq, show (0 : Int32).toNatClampNeg = 0 from rfl, mv_rd, nI_clamp (n := ls_q0 A B) (by omega)]
      refine ⟨⟨rfl, vp_in_nI (N := 32768) (n := 0) (by omega) (by omega)⟩, rfl, rfl, ⟨rfl, vp_in_nI (N := 32768) (n := 0) (by omega) (by omega)⟩, ⟨rfl, vp_in_nI (N := 16) (by omega) (by omega)⟩, ?_⟩
      refine lsr_out (A := A) (B := B) (σ := σ) hw ht hu oA oB cA cB hQ 16 0 _ rfl (Nat.zero_le _) (fun j hj => absurd hj (Nat.not_lt_zero _)) ⟨fun x hx => ?_, fun k hk => ?_⟩ (fun c j hc => ?_) (fun c j hc => ?_)
      · have i0 : bf_ix (ls_S A B 0) (ls_q0 A B) = 0 := bf_ix_eq (ls_in _ _ _) (show 0 < 1 by omega) rfl
        by_cases ex : x = ls_q0 A B
        · rw [ex, mv_ld, i0, if_pos (show 0 < (ls_S A B (3 * 0)).1 from Nat.one_pos)]
          rfl
        · rw [mv_ln_ (by omega), if_neg]
          · exact h3 x (by omega)
          · intro z
            obtain ⟨y, y1, y2⟩ := (bf_ix_iff _ _).mp z
            exact ex y2.symm
      · have hk1 : k < 1 := hk
        obtain rfl : k = 0 := by omega
        rw [mv_pl1, mv_rd]; rfl
      · show (mv_pi τ 82 0 (nI (ls_q0 A B))).1 c j = _
        rw [mv_rn (by omega), h1]
      · rw [mv_ln_ (by omega)]; exact h2 c j hc
    | succ r ih =>
      intro x τ hx h1 h2 h3
      refine h_Ref_least_35 ⟨fun z => absurd z (nI_ge (b := 16) (by omega) (by omega)), fun _ => ⟨rfl, ⟨rfl, vp_in_nI (N := 16) (by omega) (by omega)⟩, ?_⟩⟩
      rw [nI_clamp (by omega), nI_1]
      refine ih (x + 1) _ (by omega) (by rw [mv_pl1]; exact h1) (fun c j hc => by rw [mv_ln_ (by omega)]; exact h2 c j hc) (fun y hy => ?_)
      by_cases e : y = x
      · rw [e, mv_ld]
      · rw [mv_ln_ (by omega)]; exact h3 y (by omega)
  exact loop 16 0 σ (by omega) rfl (fun _ _ _ => rfl) (fun y hy => absurd hy (Nat.not_lt_zero _))
def mls_P (σ σ2 : mv_S) : Prop := (∀ c j, ¬ c = 31 → ¬ c = 82 → σ2.1 c j = σ.1 c j) ∧ ∀ c j, ¬ c = 32 → ¬ c = 86 → σ2.2 c j = σ.2 c j
theorem op_least {n : Nat} {Ms : Nat → md_T} {a1 a2 a3 : Int32} (h : iv_M n Ms σ) : lw_opL X (d + 5) (mls_P σ) 117 208 [.int a1, .int a2, .int a3] σ := by
  unfold lw_opL
  obtain ⟨b1, b2, b3, b4⟩ := h
  have same : mls_P σ σ := ⟨fun _ _ _ _ => rfl, fun _ _ _ _ => rfl⟩
  refine (w_WM_least _ _ _ _ _ _ _).mpr ⟨rfl, ?_⟩
  rcases ix_cs a1 n (by omega) with ⟨c1, c2⟩ | ⟨k, hk, rfl, c1⟩
  · rw [s_machineAt_no b2 c1]
    have fin : ∃ v, (some (.long (-2)) : Option Value) = some (.long v) ∧ mv_wp X (d + 5) 208 [.ref 61, .int a1, .int a2, .int a3] σ (fun r2 σ2 => r2 = some (.long v) ∧ mls_P σ σ2) := by
      refine ⟨_, rfl, w_Ref_least ⟨rfl, ?_⟩⟩
      rw [r_isMachine b3 b1, if_neg c2]
      exact ⟨_, rfl, fun _ => ⟨rfl, same⟩, fun z => absurd rfl z⟩
    refine Or.inl ⟨rfl, rfl, ?_⟩
    rcases ix_cs a2 n (by omega) with ⟨e1, e2⟩ | ⟨m, hm, rfl, e1⟩
    · rw [s_machineAt_no b2 e1]
      exact Or.inl ⟨rfl, fin⟩
    · rw [s_machineAt_ok b2 b1 hm]
      exact Or.inr ⟨_, rfl, fin⟩
  rw [s_machineAt_ok b2 b1 hk]
  refine Or.inr ⟨_, rfl, rfl, ?_⟩
  rcases ix_cs a2 n (by omega) with ⟨e1, e2⟩ | ⟨m, hm, rfl, e1⟩
  · rw [s_machineAt_no b2 e1]
    refine Or.inl ⟨rfl, _, rfl, w_Ref_least ⟨rfl, ?_⟩⟩
    rw [r_isMachine b3 b1, if_pos c1]
    refine ⟨_, rfl, fun z => absurd z (by decide), fun _ => ⟨rfl, ?_⟩⟩
    rw [r_isMachine b3 b1, if_neg e2]
    exact ⟨_, rfl, fun _ => ⟨rfl, same⟩, fun z => absurd rfl z⟩
  rw [s_machineAt_ok b2 b1 hm]
  refine Or.inr ⟨_, rfl, ?_⟩
  have bad : ¬ (0 ≤ a3.toInt ∧ a3.toInt ≤ 2) → ∃ v, (some (.long (-2)) : Option Value) = some (.long v) ∧ mv_wp X (d + 5) 208 [.ref 61, .int (nI k), .int (nI m), .int a3] σ (fun r2 σ2 => r2 = some (.long v) ∧ mls_P σ σ2) := by
    intro hb
    refine ⟨_, rfl, w_Ref_least ⟨rfl, ?_⟩⟩
    rw [r_isMachine b3 b1, if_pos c1]
    refine ⟨_, rfl, fun z => absurd z (by decide), fun _ => ⟨rfl, ?_⟩⟩
    rw [r_isMachine b3 b1, if_pos e1]
    refine ⟨_, rfl, fun z => absurd z (by decide), fun _ => ?_⟩
    rw [r_inI (A := 0) (C := 2) rfl rfl, if_neg hb]
    exact ⟨_, rfl, fun z => absurd rfl z, fun _ => ⟨rfl, same⟩⟩
  rcases ix_cs2 a3 with t3 | ⟨w, hw, rfl⟩
  · exact ⟨fun _ => bad (by omega), fun z => absurd (by rw [fa_lt, Int32.toInt_zero]; omega) z⟩
  refine ⟨fun z => absurd z (nI_pos hw), fun _ => ?_⟩
  by_cases hw2 : w < 3
  case neg => exact ⟨fun z => absurd z (nI_ge (a := 2) (by omega) (by omega)), fun _ => bad (by rw [nI_toInt hw]; omega)⟩
  refine ⟨fun _ => ⟨rfl, rfl, ?_⟩, fun z => absurd (nI_le (b := 2) (by omega) (by omega)) z⟩
  obtain ⟨m1, m2, m3⟩ := b4 k hk
  obtain ⟨n1, n2, n3⟩ := b4 m hm
  refine s_leastWord hw2 (mc_now k (by omega)).1 (mc_now m (by omega)).1 m1 n1 m2 n2 (by omega) (by omega) (fun τ f1 f2 => ⟨_, rfl, _, rfl, ?_⟩)
  refine w_Ref_least ⟨rfl, ?_⟩
  rw [r_isMachine ((f1 _ _ (by omega)).trans b3) b1, if_pos c1]
  refine ⟨_, rfl, fun z => absurd z (by decide), fun _ => ⟨rfl, ?_⟩⟩
  rw [r_isMachine ((f1 _ _ (by omega)).trans b3) b1, if_pos e1]
  refine ⟨_, rfl, fun z => absurd z (by decide), fun _ => ?_⟩
  rw [r_inI (A := 0) (C := 2) rfl rfl, if_pos (by rw [nI_toInt hw]; omega)]
  refine ⟨_, rfl, fun _ => ?_, fun z => absurd z (by decide)⟩
  exact r_leastB hw2 (by omega) (by omega) m1 n1 (rf_fr m3 f1 (by omega)) (rf_fr n3 f1 (by omega)) (fun τ2 g1 g2 => ⟨rfl, fun c j q1 q2 => (g1 c j q2).trans (f1 c j q1), fun c j q1 q2 => (g2 c j q2).trans (f2 c j q1)⟩)
end LEASTR
