/-! ===== reading, the class: one, and the whole tape ===== -/
section READC3
variable {X : mv_X} {N : Nat} {b : Nat → Int32}
theorem cR_ret {Q : mv_Q} {c o : Nat} {σ : mv_S} {r : fR} (h : cR Q c o σ r) : cR (fun r2 σ2 => ∃ v2, r2 = some (.int v2) ∧ ((v2 = (0 : Int32) ∨ v2 = (1 : Int32)) ∧ Q (some (.int v2)) σ2)) c o σ r := by
  rcases r with ⟨f, os⟩ | ⟨p', a, v⟩
  · exact fun τ t1 t2 t3 t4 => ⟨_, rfl, Or.inl rfl, h τ t1 t2 t3 t4⟩
  · exact fun τ t1 t2 t3 t4 t5 => ⟨_, rfl, Or.inr rfl, h τ t1 t2 t3 t4 t5⟩
/-- the state when a sign that opens has been read -/
def opn (σ : mv_S) (o p : Nat) : mv_S := mv_pi (mv_pi (mv_pi σ 8 o (nI p)) 5 6 (nI (o + 1))) 5 8 (nI (p + 1))
theorem opn_fr {c o p : Nat} {σ : mv_S} : rdF c o σ (opn σ o p) := ⟨fun x j q1 q2 q3 => by unfold opn; rw [mv_rn (by omega), mv_rn (by omega), mv_rn (by omega)], rfl⟩
theorem opn_ps {c o p : Nat} {σ : mv_S} (h : σ.1 5 5 = nI c) : cPos (p + 1) c (o + 1) (opn σ o p) ∧ (opn σ o p).1 8 o = nI p := by
  unfold opn
  exact ⟨⟨mv_rd, by rw [mv_rn (by omega), mv_rn (by omega), mv_rn (by omega)]; exact h, by rw [mv_rn (by omega), mv_rd]⟩, by rw [mv_rn (by omega), mv_rn (by omega), mv_rd]⟩
theorem opn_no {Q : mv_Q} {c o p f : Nat} {os : List Nat} {σ τ : mv_S} (hr : cR Q c o σ (Sum.inl (f, p :: os))) (h1 : rdF c (o + 1) (opn σ o p) τ) (h2 : τ.1 5 9 = nI f) (h3 : τ.1 5 6 = nI (o + 1 + os.length)) (h4 : ∀ i, i < os.length → τ.1 8 (o + 1 + i) = nI (os.getD i 0)) (h8 : (opn σ o p).1 8 o = nI p) : Q (some (.int 0)) τ := by
  refine hr τ (rdF_tr opn_fr h1 (Nat.le_refl _) (Nat.le_succ _)) h2 ?_ (fun i hi => ?_)
  · rw [h3, show (p :: os).length = os.length + 1 from rfl]; congr 1; omega
  · cases i with
    | zero => rw [Nat.add_zero, h1.1 8 o (by omega) (by omega) (by omega)]; exact h8
    | succ i =>
      have hi : i + 1 < os.length + 1 := hi
      rw [show o + (i + 1) = o + 1 + i by omega]
      exact h4 i (by omega)
theorem c_one : ∀ d o D, d + o = 6 → 4 * d + 4 ≤ D → spC X N b D 36 o (oneP (pkb N b) d) := by
  intro d
  induction d with
  | zero =>
    intro o D ho hD σ Q p c hN ps cp pN hr
    obtain ⟨e, rfl⟩ : ∃ e, D = e + 4 := ⟨D - 4, by omega⟩
    obtain rfl : o = 6 := by omega
    refine (w_Reader_readOne _ _ _ _).mpr ⟨rfl, c_peek hN ps.1 pN ⟨_, rfl, ?_⟩⟩
    rw [ps.2.2]
    unfold oneP at hr
    by_cases e1 : pkb N b p = 33
    · rw [if_pos e1] at hr
      exact ⟨fun _ => ⟨rfl, fun z => absurd z (by decide), fun _ => ⟨rfl, fun z => absurd z (by decide), fun _ => ⟨rfl, cR_no (rdF_rf _ _ _) ps.1 ps.2.2 hr⟩⟩⟩, fun z => absurd e1 z⟩
    rw [if_neg e1] at hr
    refine ⟨fun z => absurd z e1, fun _ => ?_⟩
    by_cases e2 : pkb N b p = 40
    · rw [if_pos e2] at hr
      exact ⟨fun _ => ⟨rfl, fun z => absurd z (by decide), fun _ => ⟨rfl, fun z => absurd z (by decide), fun _ => ⟨rfl, cR_no (rdF_rf _ _ _) ps.1 ps.2.2 hr⟩⟩⟩, fun z => absurd e2 z⟩
    rw [if_neg e2] at hr
    exact ⟨fun z => absurd z e2, fun _ => ⟨rfl, c_atom hN ps cp pN (cR_ret hr)⟩⟩
  | succ d ih =>
    intro o D ho hD σ Q p c hN ps cp pN hr
    obtain ⟨e, rfl⟩ : ∃ e, D = e + 8 := ⟨D - 8, by omega⟩
    have h60 := hN.1
    have ps0 := ps
    obtain ⟨p1, p2, p3⟩ := ps
    refine (w_Reader_readOne _ _ _ _).mpr ⟨rfl, c_peek hN p1 pN ⟨_, rfl, ?_⟩⟩
    rw [p3, p1, nI_clamp (n := o) (by omega)]
    have eo : mv_pi (mv_pi (mv_pi σ 8 o (nI p)) 5 6 ((mv_pi σ 8 o (nI p)).1 5 6 + 1)) 5 8 ((mv_pi (mv_pi σ 8 o (nI p)) 5 6 ((mv_pi σ 8 o (nI p)).1 5 6 + 1)).1 5 8 + 1) = opn σ o p := by
      have e1 : (mv_pi σ 8 o (nI p)).1 5 6 + 1 = nI (o + 1) := by rw [mv_rn (by omega), p3, nI_1]
      have e2 : (mv_pi (mv_pi σ 8 o (nI p)) 5 6 ((mv_pi σ 8 o (nI p)).1 5 6 + 1)).1 5 8 + 1 = nI (p + 1) := by rw [mv_rn (by omega), mv_rn (by omega), p1, nI_1]
      rw [e2, e1]
      rfl
    rw [eo]
    have v8 : mv_sh 8 = 20 ∧ vp_in (nI o) (mv_ln 8) := ⟨rfl, vp_in_nI (N := 6) (by omega) (by omega)⟩
    obtain ⟨ops, op8⟩ := opn_ps (o := o) (p := p) p2
    have hNo : cst N b (opn σ o p) := cst_P hN (opn_fr (c := c))
    unfold oneP at hr
    by_cases e1 : pkb N b p = 33
    · rw [if_pos e1] at hr
      have hp := pq_in (pkb_k N b) e1 (by decide)
      refine ⟨fun _ => ⟨rfl, fun z => absurd z (nI_pos (by omega)), fun _ => ⟨rfl, fun _ => ⟨rfl, rfl, rfl, v8, rfl, rfl, rfl, rfl, fun z => absurd e1 z, fun _ => ⟨rfl, ?_⟩⟩, fun z => absurd (nI_lt (b := 6) (by omega) (by omega)) z⟩⟩, fun z => absurd e1 z⟩
      refine (w_Reader_readNegated _ _ _ _).mpr ⟨rfl, ih (o + 1) (e + 6) (by omega) (by omega) _ _ (p + 1) c hNo ops (by omega) (by omega) ?_⟩
      have sok := one_ok (pkb_k N b) d (p + 1) (by omega)
      cases es : oneP (pkb N b) d (p + 1) with
      | inl r =>
        rw [es] at hr
        obtain ⟨f, os⟩ := r
        intro τ t1 t2 t3 t4
        exact ⟨_, rfl, fun z => absurd rfl z, fun _ => ⟨Or.inl rfl, _, rfl, fun _ => ⟨Or.inl rfl, opn_no hr t1 t2 t3 t4 op8⟩, fun z => absurd rfl z⟩⟩
      | inr r =>
        rw [es] at hr sok
        obtain ⟨p', a, v⟩ := r
        obtain ⟨s1, s2, s3, s4, s5⟩ := sok
        intro τ t1 t2 t3 t4 t5
        refine ⟨_, rfl, fun _ => ⟨rfl, c_emit (c := c + a.length) t3 (by omega) ⟨rfl, Or.inr rfl, _, rfl, fun z => absurd z (by decide), fun _ => ⟨rfl, rfl, Or.inr rfl, ?_⟩⟩⟩, fun z => absurd z (by decide)⟩
        have fr := rdF_tr (opn_fr (c := c) (o := o) (p := p) (σ := σ)) t1 (Nat.le_refl _) (Nat.le_succ _)
        refine hr _ ⟨fun x j q1 q2 q3 => by rw [mv_rn (by omega), mv_rn (by omega), mv_rn (by omega)]; exact fr.1 x j q1 q2 q3, fr.2⟩ ?_ ?_ ?_ (fun i hi => ?_)
        · rw [mv_rn (by omega), mv_rn (by omega), mv_rn (by omega)]; exact t2
        · rw [mv_rn (by omega), mv_rd, ln_s]; congr 1
        · rw [mv_rd, mv_rn (by omega), mv_rn (by omega), t4]; exact pk_sub (b := 1) (by omega)
        · rw [ln_s] at hi
          rw [mv_rn (by omega), mv_rn (by omega)]
          by_cases i1 : i < a.length
          · rw [mv_rn (by omega), gd_l i1]; exact t5 i i1
          · rw [show c + i = c + a.length by omega, mv_rd, gd_r (by omega), show i - a.length = 0 by omega]; rfl
    rw [if_neg e1] at hr
    refine ⟨fun z => absurd z e1, fun _ => ?_⟩
    by_cases e2 : pkb N b p = 40
    · rw [if_pos e2] at hr
      have hp := pq_in (pkb_k N b) e2 (by decide)
      refine ⟨fun _ => ⟨rfl, fun z => absurd z (nI_pos (by omega)), fun _ => ⟨rfl, fun _ => ⟨rfl, rfl, rfl, v8, rfl, rfl, rfl, rfl, fun _ => ⟨rfl, ?_⟩, fun z => absurd z e1⟩, fun z => absurd (nI_lt (b := 6) (by omega) (by omega)) z⟩⟩, fun z => absurd e2 z⟩
      have h1 : spC X N b (e + 3 + 1) 36 (o + 1) (oneP (pkb N b) d) := ih (o + 1) (e + 4) (by omega) (by omega)
      have o1 := one_ok (pkb_k N b) d
      have h2 : spC X N b (e + 4 + 1) 35 (o + 1) (bothP (pkb N b) (oneP (pkb N b) d)) := c_both o1 h1
      have h3 : spC X N b (e + 4 + 2) 34 (o + 1) (eithP (pkb N b) (oneP (pkb N b) d)) := c_eith (both_ok (pkb_k N b) (by omega) o1) h2
      refine (w_Reader_readEnclosed _ _ _ _).mpr ⟨rfl, h3 _ _ (p + 1) c hNo ops (by omega) (by omega) ?_⟩
      have sok := eith_ok (pkb_k N b) (by omega) o1 (p + 1) (by omega)
      cases es : eithP (pkb N b) (oneP (pkb N b) d) (p + 1) with
      | inl r =>
        rw [es] at hr
        obtain ⟨f, os⟩ := r
        intro τ t1 t2 t3 t4
        exact ⟨_, rfl, fun z => absurd rfl z, fun _ => ⟨Or.inl rfl, _, rfl, fun z => absurd rfl z, fun _ => ⟨Or.inl rfl, opn_no hr t1 t2 t3 t4 op8⟩⟩⟩
      | inr r =>
        rw [es] at hr sok
        obtain ⟨p', a, v⟩ := r
        obtain ⟨s1, s2, s3, s4, s5⟩ := sok
        intro τ t1 t2 t3 t4 t5
        have hT := cst_P hNo t1
        refine ⟨_, rfl, fun _ => ⟨rfl, c_peek hT t2 s2 ⟨_, rfl, ?_⟩⟩, fun z => absurd z (by decide)⟩
        have hr : cR Q c o σ (if pkb N b p' = 41 then Sum.inr (p' + 1, a, v) else Sum.inl (p', [p])) := hr
        by_cases e3 : pkb N b p' = 41
        · rw [if_pos e3] at hr
          refine ⟨fun _ => ⟨rfl, rfl, Or.inr rfl, _, rfl, fun _ => ⟨rfl, rfl, Or.inr rfl, ?_⟩, fun z => absurd z (by decide)⟩, fun z => absurd e3 z⟩
          rw [t2, nI_1]
          have fr := rdF_tr (opn_fr (c := c) (o := o) (p := p) (σ := σ)) t1 (Nat.le_refl _) (Nat.le_succ _)
          refine hr _ ⟨fun x j q1 q2 q3 => by rw [mv_rn (by omega), mv_rn (by omega)]; exact fr.1 x j q1 q2 q3, fr.2⟩ ?_ ?_ ?_ (fun i hi => ?_)
          · rw [mv_rn (by omega), mv_rd]
          · rw [mv_rn (by omega), mv_rn (by omega)]; exact t3
          · rw [mv_rd, mv_rn (by omega), t4]; exact pk_sub (b := 1) (by omega)
          · rw [mv_rn (by omega), mv_rn (by omega)]; exact t5 i hi
        · rw [if_neg e3] at hr
          refine ⟨fun z => absurd z e3, fun _ => ⟨rfl, c_refuse ⟨_, rfl, Or.inl rfl, _, rfl, fun z => absurd rfl z, fun _ => ⟨Or.inl rfl, ?_⟩⟩⟩⟩
          refine opn_no (os := []) hr (rdF_tr t1 (P_5 (by omega)) (Nat.le_refl _) (Nat.le_refl _)) ?_ ?_ (fun i hi => absurd hi (Nat.not_lt_zero _)) op8
          · rw [mv_rd]; exact t2
          · rw [mv_rn (by omega)]; exact t4
    rw [if_neg e2] at hr
    exact ⟨fun z => absurd z e2, fun _ => ⟨rfl, c_atom (d := e + 4) hN ps0 cp pN (cR_ret hr)⟩⟩
end READC3
