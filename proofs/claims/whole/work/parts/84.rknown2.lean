/-! ===== known: the reference's search, and the ops ===== -/
section RKNOWN2
variable {X : mv_X} {d : Nat} {σ : mv_S} {Q : mv_Q} {k v : Nat} {M N : md_T}
theorem kf_0 (k v : Nat) : kf k v 0 = 0 := by
  unfold kf
  split
  · split
    · rfl
    · rfl
  · rfl
theorem rx_d {x : Nat} : rx k v x / 4 = kf k v (x / 4) ∧ rx k v x % 4 = x % 4 := by unfold rx; omega
def fkM (k v : Nat) (F : bf_T) (E : Nat) (τ : mv_S) : Prop := ∀ r, r < 8192 → kb 83 r (krP k v F E true F.1 r) τ ∧ kb 84 r (krP k v F E false F.1 r) τ
theorem r_fkL {m : Nat} (hk : k < 2) (hv : v < 3) (hm : m < 3) (hM : md_ok M) (hr : rf_M σ 62 m M) (hQ : ∀ τ, fkM k v (kF k v M) M.2.2.1 τ → frJ σ τ → Q none τ) :
    ∀ n h (τ : mv_S), h + n = 6460 → h ≤ (kS k v M (3 * h)).1 → kR k v M.2.2.1 (kS k v M (3 * h)) h τ → frJ σ τ → mv_wf X (mv_wp X (d + 1)) m_Ref_findsKnown Q 86 [.ref 61, .int (nI m), .int (nI k), .int (nI v), .int (nI (kS k v M (3 * h)).1), .int (nI h), .retAddr 0, .retAddr 0, .retAddr 0, .retAddr 0] [] τ := by
  obtain ⟨o1, o2, o3, o4, o5, o6⟩ := id hM
  have inner : ∀ n h l (τ : mv_S), l + n = 3 → h < (kS k v M (3 * h + l)).1 → h < 6460 → kR k v M.2.2.1 (kS k v M (3 * h + l)) (h + 1) τ → frJ σ τ →
      (∀ τ2, kR k v M.2.2.1 (kS k v M (3 * h + 3)) (h + 1) τ2 → frJ σ τ2 → mv_wf X (mv_wp X (d + 1)) m_Ref_findsKnown Q 86 [.ref 61, .int (nI m), .int (nI k), .int (nI v), .int (nI (kS k v M (3 * h + 3)).1), .int (nI (h + 1)), .retAddr 0, .retAddr 0, .retAddr 0, .retAddr 0] [] τ2) →
      mv_wf X (mv_wp X (d + 1)) m_Ref_findsKnown Q 182 [.ref 61, .int (nI m), .int (nI k), .int (nI v), .int (nI (kS k v M (3 * h + l)).1), .int (nI h), .int (nI (kf k v ((kS k v M (3 * h + l)).2.1 h / 4))), .int (nI ((kS k v M (3 * h + l)).2.1 h % 4)), .int (nI l), .retAddr 0] [] τ := by
    intro n
    induction n with
    | zero =>
      intro h l τ hl hh h6 kc fr K
      obtain rfl : l = 3 := by omega
      refine h_Ref_findsKnown_182 ⟨fun _ => ?_, fun z => absurd (by decide) z⟩
      rw [nI_1]
      exact K τ kc fr
    | succ n ih =>
      intro h l τ hl hh h6 kc fr K
      have nd := kS_nd hk hv hM (3 * h + l) h hh
      have ka := kin_all hk hv nd.1
      have kl := (ka.2.2.2 l (by omega)).1
      have kl4 := (kin_all hk hv kl).2.1
      have hs1 : (3 * h + l) / 3 = h := by omega
      have hs2 : (3 * h + l) % 3 = l := by omega
      have up := kS_up (k := k) (v := v) (M := M) (s := 3 * h + l) (by rw [hs1]; exact hh)
      have room := kS_room (k := k) (v := v) (M := M) (s := 3 * h + l) hk hv hM (by rw [hs1]; exact hh)
      have le := kS_le hk hv hM (3 * h + l)
      have nds := kS_nd (v := v) hk hv hM (3 * h + l)
      rw [hs1, hs2] at up room
      have q1 := kS_q (k := k) (v := v) (M := M) (s := 3 * h + l) 1 hh
      have hto := o5 (3 * ((kS k v M (3 * h + l)).2.1 h % 4) + l) (by omega)
      have hnx : kin k v (knx k v M ((kS k v M (3 * h + l)).2.1 h) l / 4) := by
        unfold knx
        rw [show (4 * kn k v ((kS k v M (3 * h + l)).2.1 h / 4) l + M.2.2.2 (3 * ((kS k v M (3 * h + l)).2.1 h % 4) + l)) / 4 = kn k v ((kS k v M (3 * h + l)).2.1 h / 4) l by omega]
        exact kl
      have hrx : 4 * kf k v (kn k v ((kS k v M (3 * h + l)).2.1 h / 4) l) + M.2.2.2 (3 * ((kS k v M (3 * h + l)).2.1 h % 4) + l) = rx k v (knx k v M ((kS k v M (3 * h + l)).2.1 h) l) := by
        unfold rx knx
        rw [show (4 * kn k v ((kS k v M (3 * h + l)).2.1 h / 4) l + M.2.2.2 (3 * ((kS k v M (3 * h + l)).2.1 h % 4) + l)) / 4 = kn k v ((kS k v M (3 * h + l)).2.1 h / 4) l by omega]
        omega
      refine h_Ref_findsKnown_182 ⟨fun z => absurd z (nI_ge (b := 3) (by omega) (by omega)), fun _ => ?_⟩
      refine r_known hk hv nd.1 (by omega) ⟨_, rfl, rfl, ?_⟩
      refine r_toM hm (frJ_rf fr hr) (by omega) (by omega) ⟨_, rfl, rfl, ?_⟩
      have hlt : rx k v (knx k v M ((kS k v M (3 * h + l)).2.1 h) l) < 32768 := by omega
      have nx : ∀ τ2, kR k v M.2.2.1 (kS k v M (3 * h + l + 1)) (h + 1) τ2 → frJ σ τ2 → mv_wf X (mv_wp X (d + 1)) m_Ref_findsKnown Q 182 [.ref 61, .int (nI m), .int (nI k), .int (nI v), .int (nI (kS k v M (3 * h + l + 1)).1), .int (nI h), .int (nI (kf k v ((kS k v M (3 * h + l)).2.1 h / 4))), .int (nI ((kS k v M (3 * h + l)).2.1 h % 4)), .int (nI (l + 1)), .retAddr 0] [] τ2 := by
        intro τ2 g1 g2
        have := ih h (l + 1) τ2 (by omega) q1.1 h6 g1 g2 K
        rw [← Nat.add_assoc, q1.2] at this
        exact this
      rw [show (4 : Int32) = nI 4 from rfl, pk_mul, nI_add, hrx, nI_clamp (n := rx k v (knx k v M ((kS k v M (3 * h + l)).2.1 h) l)) (by omega), nI_1]
      generalize knx k v M ((kS k v M (3 * h + l)).2.1 h) l = y at *
      generalize kS k v M (3 * h + l + 1) = S' at *
      generalize kS k v M (3 * h + l) = S at *
      clear q1 ih hrx
      have v81 : mv_sh 81 = 22 ∧ (mv_sh 81 = 21 ∨ mv_sh 81 = 22) ∧ vp_in (nI (rx k v y)) (mv_ln 81) := ⟨rfl, Or.inr rfl, vp_in_nI (N := 32768) (by omega) (by omega)⟩
      obtain ⟨k1, k2, k3⟩ := kc
      have k2y := k2 _ hlt
      refine ⟨v81, fun z => ?_, fun z => ⟨rfl, v81, rfl, ⟨rfl, vp_in_nI (N := 32768) (by omega) (by omega)⟩, ?_⟩⟩
      · have mem : bf_ix S y < S.1 := by
          refine Classical.byContradiction fun w => z (k2y.2 ?_)
          rintro ⟨i, hi, e⟩
          exact w ((bf_ix_iff _ _).mpr ⟨i, hi, rx_inj hk hv (nds i hi).1 hnx e⟩)
        unfold bf_up at up
        rw [if_pos mem] at up
        rw [up] at nx
        exact nx τ ⟨k1, k2, k3⟩ fr
      · have nm : ¬ bf_ix S y < S.1 := by
          intro w
          obtain ⟨i, hi, e⟩ := (bf_ix_iff _ _).mp w
          rw [k2y.1 ⟨i, hi, by rw [e]⟩] at z
          exact absurd z (by decide)
        have rm := room nm
        unfold bf_up at up
        rw [if_neg nm] at up
        rw [up, add_1] at nx
        rw [nar22_1, nI_clamp (n := S.1) (by omega), nI_1]
        refine nx _ ⟨fun i hi => ?_, fun y' hy' => ?_, fun r hr8 => ?_⟩ ⟨fun c j q => by rw [mv_rn (by omega), mv_rn (by omega)]; exact fr.1 c j q, fr.2⟩
        · rw [add_1] at hi
          by_cases e : i = S.1
          · rw [e, mv_rd, (add_n _ _ _).1]
          · rw [mv_rn (by omega), mv_rn (by omega), (add_o _ _ _ e).1]
            exact k1 i (by omega)
        · refine kb_rn ?_ (by omega)
          have iff : (∃ i, i < (bf_add S y (3 * h + l)).1 ∧ rx k v ((bf_add S y (3 * h + l)).2.1 i) = y') ↔ (∃ i, i < S.1 ∧ rx k v (S.2.1 i) = y') ∨ rx k v y = y' := by
            constructor
            · rintro ⟨i, hi, e⟩
              rw [add_1] at hi
              by_cases ei : i = S.1
              · rw [ei, (add_n _ _ _).1] at e; exact Or.inr e
              · rw [(add_o _ _ _ ei).1] at e; exact Or.inl ⟨i, by omega, e⟩
            · rintro (⟨i, hi, e⟩ | e)
              · exact ⟨i, by rw [add_1]; omega, by rw [(add_o _ _ _ (by omega)).1]; exact e⟩
              · exact ⟨S.1, by rw [add_1]; omega, by rw [(add_n _ _ _).1]; exact e⟩
          unfold kb
          rw [iff]
          by_cases e : y' = rx k v y
          · rw [e, mv_rd]
            exact ⟨fun _ => rfl, fun z => absurd (Or.inr rfl) z⟩
          · rw [mv_rn (by omega)]
            exact ⟨fun z => (k2 y' hy').1 (z.elim id (fun w => absurd w.symm e)), fun z => (k2 y' hy').2 (fun w => z (Or.inl w))⟩
        · have cg : ∀ b, krP k v S M.2.2.1 b (h + 1) r ↔ krP k v (bf_add S y (3 * h + l)) M.2.2.1 b (h + 1) r := fun b => krP_cg (fun i hi => ((add_o _ _ _ (by omega)).1).symm)
          exact ⟨kb_cg (kb_rn (kb_rn (k3 r hr8).1 (by omega)) (by omega)) (cg _), kb_cg (kb_rn (kb_rn (k3 r hr8).2 (by omega)) (by omega)) (cg _)⟩
  intro n
  have stop : ∀ h (τ : mv_S), h ≤ 6460 → (kS k v M (3 * h)).1 = h → kR k v M.2.2.1 (kS k v M (3 * h)) h τ → frJ σ τ → mv_wf X (mv_wp X (d + 1)) m_Ref_findsKnown Q 86 [.ref 61, .int (nI m), .int (nI k), .int (nI v), .int (nI (kS k v M (3 * h)).1), .int (nI h), .retAddr 0, .retAddr 0, .retAddr 0, .retAddr 0] [] τ := by
    intro h τ h6 e kc fr
    refine h_Ref_findsKnown_86 ⟨fun _ => ?_, fun z => absurd (nI_le (by omega) (by omega)) z⟩
    have en := kS_end h6 e
    refine hQ τ (fun r hr8 => ?_) fr
    have := kc.2.2 r hr8
    rw [← en, e]
    exact this
  induction n with
  | zero =>
    intro h τ hn hh kc fr
    have le := kS_le hk hv hM (3 * h)
    exact stop h τ (by omega) (by omega) kc fr
  | succ n ih =>
    intro h τ hn hh kc fr
    have le := kS_le hk hv hM (3 * h)
    by_cases e : (kS k v M (3 * h)).1 = h
    · exact stop h τ (by omega) e kc fr
    have hlt : h < (kS k v M (3 * h)).1 := by omega
    have nd := kS_nd hk hv hM (3 * h) h hlt
    have nf := (kin_all hk hv nd.1).2.1
    have hrx := rx_d (k := k) (v := v) (x := (kS k v M (3 * h)).2.1 h)
    refine h_Ref_findsKnown_86 ⟨fun z => absurd z (nI_ge (by omega) (by omega)), fun _ => ?_⟩
    rw [nI_clamp (n := h) (by omega), kc.1 h hlt, q_rem4 (by omega), q_div4 (by omega), hrx.1, hrx.2, nI_clamp (n := kf k v ((kS k v M (3 * h)).2.1 h / 4)) (by omega)]
    refine ⟨rfl, ⟨rfl, vp_in_nI (N := 32768) (by omega) (by omega)⟩, by decide, rfl, ⟨rfl, vp_in_nI (N := 32768) (by omega) (by omega)⟩, by decide, ?_⟩
    refine r_marks (k := k) (v := v) (M := M) (S := kS k v M (3 * h)) (h := h) (m := m) hm hM (frJ_rf fr hr) (by omega) nf rfl rfl kc.2.2 (fun τ' => mv_wf X (mv_wp X (d + 1)) m_Ref_findsKnown Q 182 [.ref 61, .int (nI m), .int (nI k), .int (nI v), .int (nI (kS k v M (3 * h)).1), .int (nI h), .int (nI (kf k v ((kS k v M (3 * h)).2.1 h / 4))), .int (nI ((kS k v M (3 * h)).2.1 h % 4)), .int 0, .retAddr 0] [] τ') (fun τ2 g1 g2 g3 => ?_)
    have fr2 : frJ σ τ2 := ⟨fun c j q => (g1 c j (by omega) (by omega)).trans (fr.1 c j q), g2.trans fr.2⟩
    refine inner 3 h 0 τ2 (by omega) hlt (by omega) ⟨fun i hi => by rw [g1 _ _ (by omega) (by omega)]; exact kc.1 i hi, fun y hy => kb_fr (kc.2.1 y hy) (g1 _ _ (by omega) (by omega)), g3⟩ fr2 (fun τ3 g4 g5 => ?_)
    refine ih (h + 1) τ3 (by omega) ?_ g4 g5
    have := (kS_q (k := k) (v := v) (M := M) 3 hlt).1
    exact this
theorem r_findsKnown {m : Nat} (hk : k < 2) (hv : v < 3) (hm : m < 3) (hM : md_ok M) (hr : rf_M σ 62 m M) (hQ : ∀ τ, fkM k v (kF k v M) M.2.2.1 τ → frJ σ τ → Q none τ) : mv_wp X (d + 2) 205 [.ref 61, .int (nI m), .int (nI k), .int (nI v)] σ Q := by
  obtain ⟨o1, o2, o3, o4, o5, o6⟩ := id hM
  have seen : ∀ n y (τ : mv_S), y + n = 32768 → (∀ r, r < 8192 → τ.1 83 r = 0 ∧ τ.1 84 r = 0) → (∀ x, x < y → τ.1 81 x = 0) → frJ σ τ → mv_wf X (mv_wp X (d + 1)) m_Ref_findsKnown Q 36 [.ref 61, .int (nI m), .int (nI k), .int (nI v), .int (nI y), .retAddr 0, .retAddr 0, .retAddr 0, .retAddr 0, .retAddr 0] [] τ := by
    intro n
    induction n with
    | zero =>
      intro y τ hn z1 z2 fr
      refine h_Ref_findsKnown_36 ⟨fun _ => ⟨rfl, rfl, ?_⟩, fun z => absurd (nI_le (a := 32768) (by omega) (by omega)) z⟩
      refine r_startM hm (frJ_rf fr hr) ⟨_, rfl, ?_⟩
      rw [show (0 : Int32).toNatClampNeg = 0 from rfl, mv_rd, nI_clamp (n := M.2.1) (by omega), nar22_1]
      refine ⟨⟨rfl, vp_in_nI (N := 32768) (n := 0) (by omega) (by omega)⟩, rfl, rfl, ⟨rfl, vp_in_nI (N := 32768) (n := 0) (by omega) (by omega)⟩, ⟨rfl, Or.inr rfl, vp_in_nI (N := 32768) (by omega) (by omega)⟩, ?_⟩
      have S0 : kS k v M (3 * 0) = (1, fun _ => M.2.1, fun _ => 0) := by rw [kS_eq]; rfl
      have r0 : rx k v M.2.1 = M.2.1 := by
        unfold rx
        rw [show M.2.1 / 4 = 0 by omega, kf_0]
        omega
      refine r_fkL (σ := σ) hk hv hm hM hr hQ 6460 0 _ (by omega) (Nat.zero_le _) ?_ ⟨fun c j q => by rw [mv_rn (by omega), mv_rn (by omega)]; exact fr.1 c j q, fr.2⟩
      rw [S0]
      refine ⟨fun i hi => ?_, fun x hx => ?_, fun r hr8 => ?_⟩
      · have hi : i < 1 := hi
        obtain rfl : i = 0 := by omega
        rw [mv_rn (by omega), mv_rd]
        show nI M.2.1 = nI (rx k v M.2.1)
        rw [r0]
      · have iff : (∃ i, i < 1 ∧ rx k v M.2.1 = x) ↔ x = M.2.1 := ⟨fun ⟨_, _, e⟩ => by rw [r0] at e; exact e.symm, fun e => ⟨0, by omega, by rw [r0]; exact e.symm⟩⟩
        refine kb_cg (P := x = M.2.1) ?_ iff.symm
        by_cases e : x = M.2.1
        · rw [e]
          exact ⟨fun _ => mv_rd, fun z => absurd rfl z⟩
        · exact ⟨fun z => absurd z e, fun _ => by rw [mv_rn (by omega), mv_rn (by omega)]; exact z2 x (by omega)⟩
      · have no : ∀ b, ¬ krP k v (1, fun _ => M.2.1, fun _ => 0) M.2.2.1 b 0 r := fun b ⟨i, hi, _⟩ => absurd hi (Nat.not_lt_zero _)
        exact ⟨⟨fun z => absurd z (no _), fun _ => by rw [mv_rn (by omega), mv_rn (by omega)]; exact (z1 r hr8).1⟩, ⟨fun z => absurd z (no _), fun _ => by rw [mv_rn (by omega), mv_rn (by omega)]; exact (z1 r hr8).2⟩⟩
    | succ n ih =>
      intro y τ hn z1 z2 fr
      refine h_Ref_findsKnown_36 ⟨fun z => absurd z (nI_ge (b := 32768) (by omega) (by omega)), fun _ => ⟨rfl, ⟨rfl, Or.inr rfl, vp_in_nI (N := 32768) (by omega) (by omega)⟩, ?_⟩⟩
      rw [nI_clamp (by omega), nI_1, nar22_0]
      refine ih (y + 1) _ (by omega) (fun r hr8 => by rw [mv_rn (by omega), mv_rn (by omega)]; exact z1 r hr8) (fun x hx => ?_) ⟨fun c j q => by rw [mv_rn (by omega)]; exact fr.1 c j q, fr.2⟩
      by_cases e : x = y
      · rw [e, mv_rd]
      · rw [mv_rn (by omega)]; exact z2 x (by omega)
  have marks : ∀ n y (τ : mv_S), y + n = 8192 → (∀ r, r < y → τ.1 83 r = 0 ∧ τ.1 84 r = 0) → frJ σ τ → mv_wf X (mv_wp X (d + 1)) m_Ref_findsKnown Q 3 [.ref 61, .int (nI m), .int (nI k), .int (nI v), .int (nI y), .retAddr 0, .retAddr 0, .retAddr 0, .retAddr 0, .retAddr 0] [] τ := by
    intro n
    induction n with
    | zero =>
      intro y τ hn z1 fr
      refine h_Ref_findsKnown_3 ⟨fun _ => ?_, fun z => absurd (nI_le (a := 8192) (by omega) (by omega)) z⟩
      exact seen 32768 0 τ (by omega) (fun r hr8 => z1 r (by omega)) (fun x hx => absurd hx (Nat.not_lt_zero _)) fr
    | succ n ih =>
      intro y τ hn z1 fr
      refine h_Ref_findsKnown_3 ⟨fun z => absurd z (nI_ge (b := 8192) (by omega) (by omega)), fun _ => ⟨rfl, ⟨rfl, Or.inr rfl, vp_in_nI (N := 8192) (by omega) (by omega)⟩, rfl, ⟨rfl, Or.inr rfl, vp_in_nI (N := 8192) (by omega) (by omega)⟩, ?_⟩⟩
      rw [nI_clamp (by omega), nI_1, nar22_0]
      refine ih (y + 1) _ (by omega) (fun r hr8 => ?_) ⟨fun c j q => by rw [mv_rn (by omega), mv_rn (by omega)]; exact fr.1 c j q, fr.2⟩
      by_cases e : r = y
      · rw [e, mv_rn (by omega), mv_rd, mv_rd]; exact ⟨rfl, rfl⟩
      · rw [mv_rn (by omega), mv_rn (by omega), mv_rn (by omega), mv_rn (by omega)]; exact z1 r (by omega)
  exact w_Ref_findsKnown (marks 8192 0 σ (by omega) (fun x hx => absurd hx (Nat.not_lt_zero _)) ⟨fun _ _ _ => rfl, rfl⟩)
end RKNOWN2
