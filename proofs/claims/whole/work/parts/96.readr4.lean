/-! ===== reading, the reference: atom, one, through ===== -/
section READR4
variable {X : mv_X} {N : Nat} {b : Nat → Int32} {w : List Nat}
theorem rR_ret {Q : mv_Q} {os0 : List Nat} {σ : mv_S} {r : fR} (h : rR Q os0 σ w r) : rR (fun r2 σ2 => ∃ v2, r2 = some (.int v2) ∧ ((v2 = (0 : Int32) ∨ v2 = (1 : Int32)) ∧ Q (some (.int v2)) σ2)) os0 σ w r := by
  rcases r with ⟨f, os⟩ | ⟨p', a, v⟩
  · exact fun τ v hv t1 t2 t3 t4 t5 => ⟨_, rfl, hv, h τ v hv t1 t2 t3 t4 t5⟩
  · exact fun τ t1 t2 t3 t4 => ⟨_, rfl, bI_01 _, h τ t1 t2 t3 t4⟩
theorem r_atom {d p : Nat} {Q : mv_Q} {σ : mv_S} {os0 : List Nat} (hN : rst N b w σ) (h6 : os0.length ≤ 6) (ps : rPos p os0 σ) (pN : p ≤ N) (hr : rR Q os0 σ w (atomP (pkb N b) p)) : mv_wp X (d + 3) 215 [.ref 61, .int (pkb N b p)] σ Q := by
  have h60 := hN.1
  refine (w_Ref_atom _ _ _ _ _).mpr ?_
  unfold atomP at hr
  have sm : ∀ sg kd, sgk sg kd → pkb N b p = nI sg → ¬ (-1 : Int32) = nI sg → rR Q os0 σ w (lettP (pkb N b) kd p) → mv_wp X (d + 2) 216 [.ref 61, .int (pkb N b p)] σ (fun r2 σ2 => ∃ v2, r2 = some (.int v2) ∧ ((v2 = (0 : Int32) ∨ v2 = (1 : Int32)) ∧ Q (some (.int v2)) σ2)) := by
    intro sg kd hs e hn hr
    have hp := pq_in (pkb_k N b) e hn
    rw [e]
    exact r_sample hs hN h6 ps hp (rR_ret hr)
  by_cases e1 : pkb N b p = 35
  · rw [if_pos e1] at hr
    exact ⟨fun _ => ⟨rfl, sm 35 7 (Or.inr (Or.inr (Or.inl ⟨rfl, rfl⟩))) e1 (by decide) hr⟩, fun z => absurd e1 z⟩
  rw [if_neg e1] at hr
  refine ⟨fun z => absurd z e1, fun _ => ?_⟩
  by_cases e2 : pkb N b p = 36
  · rw [if_pos e2] at hr
    exact ⟨fun _ => ⟨rfl, sm 36 6 (Or.inr (Or.inl ⟨rfl, rfl⟩)) e2 (by decide) hr⟩, fun z => absurd e2 z⟩
  rw [if_neg e2] at hr
  refine ⟨fun z => absurd z e2, fun _ => ?_⟩
  by_cases e3 : pkb N b p = 37
  · rw [if_pos e3] at hr
    have hp := pq_in (pkb_k N b) e3 (by decide)
    refine ⟨fun _ => ⟨rfl, rfl, rfl, ?_⟩, fun z => absurd e3 z⟩
    rw [ps.1, nI_1]
    have fr : rdR os0.length σ (mv_pi σ 61 46 (nI (p + 1))) := R_46
    have ps1 : rPos (p + 1) os0 (mv_pi σ 61 46 (nI (p + 1))) := ⟨mv_rd, by rw [mv_rn (by omega)]; exact ps.2.1, by rw [mv_rn (by omega)]; exact ps.2.2.1, fun i hi => by rw [mv_rn (by omega)]; exact ps.2.2.2 i hi⟩
    refine r_next (rst_R hN fr) mv_rd (by omega) ⟨_, rfl, ?_⟩
    rw [r_inI (A := 50) (C := 53) rfl rfl]
    unfold multP at hr
    cases e : dgq (pkb N b (p + 1)) with
    | none =>
      rw [e] at hr
      rw [if_neg (by rcases dgq_n e with h | h <;> omega)]
      refine ⟨_, rfl, fun z => absurd rfl z, fun _ => ⟨rfl, rfl, ?_⟩⟩
      rw [mv_rd]
      exact rR_no h6 fr ps1 hr
    | some k =>
      rw [e] at hr
      obtain ⟨k1, k2, k3⟩ := dgq_s e
      have hp2 : p + 1 < N := pq_in (pkb_k N b) k3 (by
        intro z
        have : (nI (48 + k)).toInt = -1 := by rw [← z]; decide
        rw [nI_toInt (by omega)] at this
        omega)
      rw [k3, nI_toInt (by omega), if_pos (by omega)]
      refine ⟨_, rfl, fun _ => ⟨rfl, rfl, rfl, rfl, rfl, ?_⟩, fun z => absurd z (by decide)⟩
      have w9 := hN.2.2.2.2.1
      have b1 : b (p + 1) = nI (48 + k) := by unfold pkb at k3; rw [if_pos hp2] at k3; exact k3
      rw [mv_rd, mv_rd, nI_1, show nI (p + 1 + 1) - 1 = nI (p + 1) from pk_sub (b := 1) (by omega), nI_clamp (by omega), mv_rn (by omega), mv_rn (by omega), hN.2.2.1 (p + 1) hp2, b1, mv_rn (by omega), mv_rn (by omega), hN.2.2.2.1.1, show nI (48 + k) - 48 = nI (48 + k - 48) from pk_sub (b := 48) (by omega), show 48 + k - 48 = k by omega, pk_rem (by omega) (by omega) (by omega)]
      refine ⟨⟨rfl, vp_in_nI (N := 60) (by omega) (by omega)⟩, nI_ne0 (by omega) (by omega), ?_⟩
      have fr2 : rdR os0.length σ (mv_pi (mv_pi σ 61 46 (nI (p + 1))) 61 46 (nI (p + 1 + 1))) := rdR_tr fr R_46 (Nat.le_refl _)
      have hr : Q (some (.int (if atS (4 + 16 * k) w.length (wb w) = true then 1 else 0))) _ := hr _ fr2 mv_rd (by rw [mv_rn (by omega)]; exact ps1.2.1) (by rw [mv_rn (by omega)]; exact ps1.2.2.1)
      have ea : atS (4 + 16 * k) w.length (wb w) = decide (w.length % k = 0) := by
        unfold atS
        rw [if_neg (by omega), if_pos (by omega), show (4 + 16 * k) / 16 % 16 = k by omega]
      rw [ea] at hr
      have hm := Nat.mod_lt w.length (show 0 < k by omega)
      rw [show (nI (w.length % k) = 0) = (nI (w.length % k) = nI 0) from rfl, q_inj (by omega) (by omega)]
      exact dec_fin hr
  rw [if_neg e3] at hr
  refine ⟨fun z => absurd z e3, fun _ => ?_⟩
  by_cases e4 : pkb N b p = 94
  · rw [if_pos e4] at hr
    exact ⟨fun _ => ⟨rfl, sm 94 5 (Or.inl ⟨rfl, rfl⟩) e4 (by decide) hr⟩, fun z => absurd e4 z⟩
  rw [if_neg e4] at hr
  refine ⟨fun z => absurd z e4, fun _ => ?_⟩
  by_cases e5 : pkb N b p = 101
  · rw [if_pos e5] at hr
    have hp := pq_in (pkb_k N b) e5 (by decide)
    have w9 := hN.2.2.2.2.1
    refine ⟨fun _ => ⟨rfl, rfl, rfl, ?_⟩, fun z => absurd e5 z⟩
    rw [mv_rn (by omega), hN.2.2.2.1.1, ps.1, nI_1, show (nI w.length = 0) = (nI w.length = nI 0) from rfl, q_inj (by omega) (by omega)]
    have hr : Q (some (.int (if decide (w.length = 0) = true then 1 else 0))) _ := hr _ R_46 mv_rd (by rw [mv_rn (by omega)]; exact ps.2.1) (by rw [mv_rn (by omega)]; exact ps.2.2.1)
    exact dec_fin hr
  rw [if_neg e5] at hr
  refine ⟨fun z => absurd z e5, fun _ => ?_⟩
  by_cases e6 : pkb N b p = 126
  · rw [if_pos e6] at hr
    exact ⟨fun _ => ⟨rfl, sm 126 8 (Or.inr (Or.inr (Or.inr ⟨rfl, rfl⟩))) e6 (by decide) hr⟩, fun z => absurd e6 z⟩
  rw [if_neg e6] at hr
  refine ⟨fun z => absurd z e6, fun _ => ⟨rfl, rfl, ?_⟩⟩
  rw [ps.1]
  exact rR_no h6 (rdR_rf _ _) ps hr
def opr (σ : mv_S) (o p : Nat) : mv_S := mv_pi (mv_pi (mv_pi σ 90 o (nI p)) 61 49 (nI (o + 1))) 61 46 (nI (p + 1))
theorem opr_fr {o p : Nat} {σ : mv_S} : rdR o σ (opr σ o p) := ⟨fun x j q1 q2 => by unfold opr; rw [mv_rn (by omega), mv_rn (by omega), mv_rn (by omega)], rfl⟩
theorem opr_ps {p : Nat} {os0 : List Nat} {σ : mv_S} (ps : rPos p os0 σ) : rPos (p + 1) (os0 ++ [p]) (opr σ os0.length p) := by
  unfold opr
  refine ⟨mv_rd, ?_, ?_, fun i hi => ?_⟩
  · rw [mv_rn (by omega), mv_rn (by omega), mv_rn (by omega)]; exact ps.2.1
  · rw [mv_rn (by omega), mv_rd, ln_s]
  · rw [ln_s] at hi
    rw [mv_rn (by omega), mv_rn (by omega)]
    by_cases e : i < os0.length
    · rw [mv_rn (by omega), gd_l e]; exact ps.2.2.2 i e
    · rw [show i = os0.length by omega, mv_rd, gd_r (Nat.le_refl _), Nat.sub_self]; rfl
theorem r_opens_ok {d p : Nat} {Q : mv_Q} {σ : mv_S} {os0 : List Nat} (h6 : os0.length < 6) (ps : rPos p os0 σ) (hQ : Q (some (.int 1)) (opr σ os0.length p)) : mv_wp X (d + 1) 213 [.ref 61] σ Q := by
  refine (w_Ref_opens _ _ _ _).mpr ⟨rfl, ?_⟩
  rw [ps.2.2.1, ps.1, nI_clamp (by omega)]
  refine ⟨fun _ => ⟨rfl, rfl, rfl, ⟨rfl, vp_in_nI (N := 6) (by omega) (by omega)⟩, rfl, rfl, rfl, rfl, Or.inr rfl, ?_⟩, fun z => absurd (nI_28 (b := 6) (by omega) (by omega) z) (by omega)⟩
  have e1 : (mv_pi σ 90 os0.length (nI p)).1 61 49 + 1 = nI (os0.length + 1) := by rw [mv_rn (by omega), ps.2.2.1, nI_1]
  have e2 : (mv_pi (mv_pi σ 90 os0.length (nI p)) 61 49 ((mv_pi σ 90 os0.length (nI p)).1 61 49 + 1)).1 61 46 + 1 = nI (p + 1) := by rw [mv_rn (by omega), mv_rn (by omega), ps.1, nI_1]
  rw [e2, e1]
  exact hQ
theorem r_opens_no {d p : Nat} {Q : mv_Q} {σ : mv_S} {os0 : List Nat} (h6 : os0.length = 6) (ps : rPos p os0 σ) (hr : rR Q os0 σ w (Sum.inl (p, []))) : mv_wp X (d + 2) 213 [.ref 61] σ Q := by
  refine (w_Ref_opens _ _ _ _).mpr ⟨rfl, ?_⟩
  rw [ps.2.2.1, h6, ps.1]
  exact ⟨fun z => absurd rfl z, fun _ => ⟨rfl, rfl, rR_no (by omega) (rdR_rf _ _) ps hr⟩⟩
end READR4
