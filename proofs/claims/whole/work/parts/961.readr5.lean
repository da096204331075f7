/-! ===== reading, the reference: one, and through all of it ===== -/
section READR5
variable {X : mv_X} {N : Nat} {b : Nat → Int32} {w : List Nat}
theorem opr_no {Q : mv_Q} {f p : Nat} {os os0 : List Nat} {σ τ : mv_S} {v : Int32} (h6 : os0.length < 2 ^ 30) (hr : rR Q os0 σ w (Sum.inl (f, p :: os))) (hv : v = (0 : Int32) ∨ v = (1 : Int32)) (h1 : rdX (os0 ++ [p]).length (opr σ os0.length p) τ) (h2 : τ.1 61 47 = nI f) (h3 : τ.1 61 49 = nI (os0 ++ [p]).length) (h4 : τ.1 61 51 = nI (((os0 ++ [p]) ++ os).length + 2)) (h5 : ∀ i, i < ((os0 ++ [p]) ++ os).length + 2 → τ.1 91 i = nI ((0 :: ((os0 ++ [p]) ++ os) ++ [f]).getD i 0)) : Q (some (.int v)) (mv_pi τ 61 49 (τ.1 61 49 - 1)) := by
  have ea : (os0 ++ [p]) ++ os = os0 ++ p :: os := by rw [List.append_assoc]; rfl
  rw [ea] at h4 h5
  have fr := rdX_tr (opr_fr (o := os0.length) (p := p) (σ := σ)) h1 (by rw [ln_s]; exact Nat.le_succ _)
  refine hr _ v hv ⟨fun c j q1 q2 q3 => by rw [mv_rn (by omega)]; exact fr.1 c j q1 q2 q3, fr.2⟩ ?_ ?_ ?_ (fun i hi => ?_)
  · rw [mv_rn (by omega)]; exact h2
  · rw [mv_rd, h3, ln_s]; exact pk_sub (b := 1) (by omega)
  · rw [mv_rn (by omega)]; exact h4
  · rw [mv_rn (by omega)]; exact h5 i hi
theorem opr_ok {Q : mv_Q} {p p' : Nat} {a : List Nat} {os0 : List Nat} {v : Nat → Nat → Bool} {σ τ : mv_S} (h6 : os0.length < 2 ^ 30) (hr : rR Q os0 σ w (Sum.inr (p', a, v))) (h1 : rdR (os0 ++ [p]).length (opr σ os0.length p) τ) (h2 : τ.1 61 46 = nI p') (h3 : τ.1 61 47 = -1) (h4 : τ.1 61 49 = nI (os0 ++ [p]).length) : Q (some (.int (if v w.length (wb w) = true then 1 else 0))) (mv_pi τ 61 49 (τ.1 61 49 - 1)) := by
  have fr := rdR_tr (opr_fr (o := os0.length) (p := p) (σ := σ)) h1 (by rw [ln_s]; exact Nat.le_succ _)
  refine hr _ ⟨fun c j q1 q2 => by rw [mv_rn (by omega)]; exact fr.1 c j q1 q2, fr.2⟩ ?_ ?_ ?_
  · rw [mv_rn (by omega)]; exact h2
  · rw [mv_rn (by omega)]; exact h3
  · rw [mv_rd, h4, ln_s]; exact pk_sub (b := 1) (by omega)
theorem le0 {f : Nat} (h : f < 2 ^ 31) : (0 : Int32) ≤ nI f := nI_le (a := 0) (by omega) h
theorem r_one : ∀ d (os0 : List Nat) D, d + os0.length = 6 → 3 * d + 4 ≤ D → spR X N b w D 214 os0 (oneP (pkb N b) d) := by
  intro d
  induction d with
  | zero =>
    intro os0 D ho hD σ Q p hN ps pN hr
    obtain ⟨e, rfl⟩ : ∃ e, D = e + 4 := ⟨D - 4, by omega⟩
    refine (w_Ref_one _ _ _ _).mpr ⟨rfl, r_next hN ps.1 pN ⟨_, rfl, ?_⟩⟩
    unfold oneP at hr
    have stop : ∀ (K : Int32 → mv_S → Prop), rR Q os0 σ w (Sum.inl (p, [])) → mv_wp X (e + 3) 213 [.ref 61] σ (fun r2 σ2 => ∃ v2, r2 = some (.int v2) ∧ ((¬ v2 = 0 → K v2 σ2) ∧ (v2 = 0 → ((0 : Int32) = (0 : Int32) ∨ (0 : Int32) = (1 : Int32)) ∧ Q (some (.int 0)) σ2))) := by
      intro K hr
      refine (w_Ref_opens _ _ _ _).mpr ⟨rfl, ?_⟩
      rw [ps.2.2.1, show os0.length = 6 by omega, ps.1]
      refine ⟨fun z => absurd rfl z, fun _ => ⟨rfl, rfl, ?_⟩⟩
      refine r_faulty (os := os0) (by omega) ps.2.1 ps.2.2.1 ps.2.2.2 (fun τ2 t1 t2 t3 t4 t5 => ⟨rfl, Or.inl rfl, _, rfl, fun z => absurd rfl z, fun _ => ⟨Or.inl rfl, ?_⟩⟩)
      refine hr τ2 0 (Or.inl rfl) ⟨fun c j q1 q2 q3 => t1 c j (by omega) q3, t2⟩ t3 ?_ ?_ ?_
      · rw [t1 61 49 (by omega) (by omega)]; exact ps.2.2.1
      · rw [List.append_nil]; exact t4
      · rw [List.append_nil]; exact t5
    by_cases e1 : pkb N b p = 33
    · rw [if_pos e1] at hr
      exact ⟨fun _ => ⟨rfl, stop _ hr⟩, fun z => absurd e1 z⟩
    rw [if_neg e1] at hr
    refine ⟨fun z => absurd z e1, fun _ => ?_⟩
    by_cases e2 : pkb N b p = 40
    · rw [if_pos e2] at hr
      exact ⟨fun _ => ⟨rfl, stop _ hr⟩, fun z => absurd e2 z⟩
    rw [if_neg e2] at hr
    exact ⟨fun z => absurd z e2, fun _ => ⟨rfl, r_atom hN (by omega) ps pN (rR_ret hr)⟩⟩
  | succ d ih =>
    intro os0 D ho hD σ Q p hN ps pN hr
    have h60 := hN.1
    obtain ⟨e, rfl⟩ : ∃ e, D = e + 7 := ⟨D - 7, by omega⟩
    refine (w_Ref_one _ _ _ _).mpr ⟨rfl, r_next hN ps.1 pN ⟨_, rfl, ?_⟩⟩
    have pso := opr_ps ps
    have hNo : rst N b w (opr σ os0.length p) := rst_R hN (opr_fr (o := os0.length))
    have lo : (os0 ++ [p]).length = os0.length + 1 := ln_s _ _
    unfold oneP at hr
    by_cases e1 : pkb N b p = 33
    · rw [if_pos e1] at hr
      have hp := pq_in (pkb_k N b) e1 (by decide)
      refine ⟨fun _ => ⟨rfl, r_opens_ok (by omega) ps ⟨_, rfl, fun _ => ⟨fun z => absurd e1 z, fun _ => ⟨rfl, ?_⟩⟩, fun z => absurd z (by decide)⟩⟩, fun z => absurd e1 z⟩
      have n40 : ¬ pkb N b p = 40 := by rw [e1]; decide
      refine ih (os0 ++ [p]) (e + 6) (by rw [lo]; omega) (by omega) _ _ (p + 1) hNo pso (by omega) ?_
      have sok := one_ok (pkb_k N b) d (p + 1) (by omega)
      cases es : oneP (pkb N b) d (p + 1) with
      | inl r =>
        rw [es] at hr sok
        obtain ⟨f, os⟩ := r
        obtain ⟨s1, s2, s3, s4⟩ := sok
        intro τ v hv t1 t2 t3 t4 t5
        refine ⟨_, rfl, fun _ => ⟨rfl, ?_⟩, fun _ => ⟨rfl, ?_⟩⟩
        · rw [t2]
          exact ⟨fun _ => ⟨rfl, rfl, Or.inl rfl, opr_no (by omega) hr (Or.inl rfl) t1 t2 t3 t4 t5⟩, fun z => absurd (le0 (by omega)) z⟩
        · rw [t2]
          exact ⟨fun _ => ⟨rfl, rfl, Or.inr rfl, opr_no (by omega) hr (Or.inr rfl) t1 t2 t3 t4 t5⟩, fun z => absurd (le0 (by omega)) z⟩
      | inr r =>
        rw [es] at hr
        obtain ⟨p', a, v⟩ := r
        intro τ t1 t2 t3 t4
        have fin := opr_ok (by omega) hr t1 t2 t3 t4
        refine ⟨_, rfl, ?_⟩
        rw [t3]
        cases ev : v w.length (wb w)
        · rw [ev] at fin
          exact ⟨fun z => absurd rfl z, fun _ => ⟨rfl, fun z => absurd z (by decide), fun _ => ⟨fun _ => ⟨rfl, rfl, Or.inr rfl, fin⟩, fun z => absurd z n40⟩⟩⟩
        · rw [ev] at fin
          exact ⟨fun _ => ⟨rfl, fun z => absurd z (by decide), fun _ => ⟨fun _ => ⟨rfl, rfl, Or.inl rfl, fin⟩, fun z => absurd z n40⟩⟩, fun z => absurd z (by decide)⟩
    rw [if_neg e1] at hr
    refine ⟨fun z => absurd z e1, fun _ => ?_⟩
    by_cases e2 : pkb N b p = 40
    · rw [if_pos e2] at hr
      have hp := pq_in (pkb_k N b) e2 (by decide)
      refine ⟨fun _ => ⟨rfl, r_opens_ok (by omega) ps ⟨_, rfl, fun _ => ⟨fun _ => ⟨rfl, ?_⟩, fun z => absurd z e1⟩, fun z => absurd z (by decide)⟩⟩, fun z => absurd e2 z⟩
      have h1 : spR X N b w (e + 3 + 1) 214 (os0 ++ [p]) (oneP (pkb N b) d) := ih (os0 ++ [p]) (e + 4) (by rw [lo]; omega) (by omega)
      have o1 := one_ok (pkb_k N b) d
      have h2 : spR X N b w (e + 4 + 1) 212 (os0 ++ [p]) (bothP (pkb N b) (oneP (pkb N b) d)) := r_both o1 h1
      have h3 : spR X N b w (e + 4 + 2) 211 (os0 ++ [p]) (eithP (pkb N b) (oneP (pkb N b) d)) := r_eith (both_ok (pkb_k N b) (by omega) o1) h2
      refine h3 _ _ (p + 1) hNo pso (by omega) ?_
      have sok := eith_ok (pkb_k N b) (by omega) o1 (p + 1) (by omega)
      cases es : eithP (pkb N b) (oneP (pkb N b) d) (p + 1) with
      | inl r =>
        rw [es] at hr sok
        obtain ⟨f, os⟩ := r
        obtain ⟨s1, s2, s3, s4⟩ := sok
        intro τ v hv t1 t2 t3 t4 t5
        refine ⟨_, rfl, rfl, ?_⟩
        rw [t2]
        exact ⟨fun _ => ⟨rfl, rfl, hv, opr_no (by omega) hr hv t1 t2 t3 t4 t5⟩, fun z => absurd (le0 (by omega)) z⟩
      | inr r =>
        rw [es] at hr sok
        obtain ⟨p', a, v⟩ := r
        obtain ⟨s1, s2, s3, s4, s5⟩ := sok
        have hr : rR Q os0 σ w (if pkb N b p' = 41 then Sum.inr (p' + 1, a, v) else Sum.inl (p', [p])) := hr
        intro τ t1 t2 t3 t4
        have hT := rst_R hNo t1
        refine ⟨_, rfl, rfl, ?_⟩
        rw [t3]
        refine ⟨fun z => absurd z (by decide), fun _ => ⟨fun z => absurd e2 z, fun _ => ⟨rfl, r_next hT t2 s2 ⟨_, rfl, ?_⟩⟩⟩⟩
        by_cases e3 : pkb N b p' = 41
        · rw [if_pos e3] at hr
          refine ⟨fun z => absurd e3 z, fun _ => ⟨rfl, rfl, rfl, rfl, bI_01 _, ?_⟩⟩
          rw [t2, nI_1]
          exact opr_ok (by omega) hr (rdR_tr t1 R_46 (Nat.le_refl _)) mv_rd (by rw [mv_rn (by omega)]; exact t3) (by rw [mv_rn (by omega)]; exact t4)
        · rw [if_neg e3] at hr
          refine ⟨fun _ => ⟨rfl, rfl, ?_⟩, fun z => absurd z e3⟩
          rw [t2]
          refine r_faulty (os := os0 ++ [p]) (by omega) t3 t4 (fun i hi => by rw [t1.1 90 i (by omega) (by omega)]; exact pso.2.2.2 i hi) (fun τ2 u1 u2 u3 u4 u5 => ⟨rfl, rfl, rfl, bI_01 _, ?_⟩)
          refine opr_no (os := []) (by omega) hr (bI_01 _) ⟨fun c j q1 q2 q3 => by rw [u1 c j (by omega) q3]; exact t1.1 c j (by omega) q2, u2.trans t1.2⟩ u3 ?_ ?_ ?_
          · rw [u1 61 49 (by omega) (by omega)]; exact t4
          · rw [List.append_nil]; exact u4
          · rw [List.append_nil]; exact u5
    rw [if_neg e2] at hr
    exact ⟨fun z => absurd z e2, fun _ => ⟨rfl, r_atom (d := e + 3) hN (by omega) ps pN (rR_ret hr)⟩⟩
/-- through all of it, from the start -/
theorem r_through {d : Nat} {Q : mv_Q} {σ : mv_S} (h60 : N ≤ 60) (hb : ∀ j, j < N → σ.1 92 j = b j) (hw : rwd σ w) (ok : wk w)
    (hy : ∀ p a v, topP N (pkb N b) = Sum.inr (p, a, v) → ∀ τ, (∀ c j, ¬ (c = 61 ∧ (j = 45 ∨ j = 46 ∨ j = 47 ∨ j = 49)) → ¬ c = 90 → τ.1 c j = σ.1 c j) → τ.2 = σ.2 → τ.1 61 47 = -1 → Q (some (.int (if v w.length (wb w) = true then 1 else 0))) τ)
    (hn : ∀ f os, topP N (pkb N b) = Sum.inl (f, os) → ∀ τ (v : Int32), (v = (0 : Int32) ∨ v = (1 : Int32)) → (∀ c j, ¬ (c = 61 ∧ (j = 45 ∨ j = 46 ∨ j = 47 ∨ j = 49 ∨ j = 51)) → ¬ c = 90 → ¬ c = 91 → τ.1 c j = σ.1 c j) → τ.2 = σ.2 → τ.1 61 47 = nI f → τ.1 61 51 = nI (os.length + 2) → (∀ i, i < os.length + 2 → τ.1 91 i = nI ((0 :: os ++ [f]).getD i 0)) → Q (some (.int v)) τ) : mv_wp X (d + 30) 218 [.ref 61, .int (nI N)] σ Q := by
  refine (w_Ref_goesThrough _ _ _ _ _).mpr ⟨rfl, rfl, rfl, rfl, rfl, ?_⟩
  have g1 : ∀ c j, ¬ (c = 61 ∧ (j = 45 ∨ j = 46 ∨ j = 47 ∨ j = 49)) → (mv_pi (mv_pi (mv_pi (mv_pi σ 61 46 0) 61 45 (nI N)) 61 47 (-1)) 61 49 0).1 c j = σ.1 c j := fun c j q => by rw [mv_rn (by omega), mv_rn (by omega), mv_rn (by omega), mv_rn (by omega)]
  have g2 : (mv_pi (mv_pi (mv_pi (mv_pi σ 61 46 0) 61 45 (nI N)) 61 47 (-1)) 61 49 0).2 = σ.2 := rfl
  have g45 : (mv_pi (mv_pi (mv_pi (mv_pi σ 61 46 0) 61 45 (nI N)) 61 47 (-1)) 61 49 0).1 61 45 = nI N := by rw [mv_rn (by omega), mv_rn (by omega), mv_rd]
  have g46 : (mv_pi (mv_pi (mv_pi (mv_pi σ 61 46 0) 61 45 (nI N)) 61 47 (-1)) 61 49 0).1 61 46 = nI 0 := by rw [mv_rn (by omega), mv_rn (by omega), mv_rn (by omega), mv_rd]; rfl
  have g47 : (mv_pi (mv_pi (mv_pi (mv_pi σ 61 46 0) 61 45 (nI N)) 61 47 (-1)) 61 49 0).1 61 47 = -1 := by rw [mv_rn (by omega), mv_rd]
  have g49 : (mv_pi (mv_pi (mv_pi (mv_pi σ 61 46 0) 61 45 (nI N)) 61 47 (-1)) 61 49 0).1 61 49 = nI 0 := by rw [mv_rd]; rfl
  generalize mv_pi (mv_pi (mv_pi (mv_pi σ 61 46 0) 61 45 (nI N)) 61 47 (-1)) 61 49 0 = σ0 at *
  have hN : rst N b w σ0 := ⟨h60, g45, fun j hj => (g1 _ _ (by omega)).trans (hb j hj), rwd_fr hw (g1 _ _ (by omega)) (fun k => g1 _ _ (by omega)), ok⟩
  have h1 : spR X N b w (d + 26 + 1) 214 [] (oneP (pkb N b) 6) := r_one 6 [] (d + 27) rfl (by omega)
  have o1 := one_ok (pkb_k N b) 6
  have h2 : spR X N b w (d + 27 + 1) 212 [] (bothP (pkb N b) (oneP (pkb N b) 6)) := r_both o1 h1
  have h3 : spR X N b w (d + 27 + 2) 211 [] (eithP (pkb N b) (oneP (pkb N b) 6)) := r_eith (both_ok (pkb_k N b) (by omega) o1) h2
  have eok := eith_ok (pkb_k N b) (by omega) o1 0 (Nat.zero_le _)
  refine h3 σ0 _ 0 hN ⟨g46, g47, g49, fun i hi => absurd hi (Nat.not_lt_zero _)⟩ (Nat.zero_le _) ?_
  unfold topP at hy hn
  cases es : eithP (pkb N b) (oneP (pkb N b) 6) 0 with
  | inl r =>
    obtain ⟨f, os⟩ := r
    rw [es] at hn eok
    obtain ⟨s1, s2, s3, s4⟩ := eok
    intro τ v hv t1 t2 t3 t4 t5
    refine ⟨_, rfl, rfl, ?_⟩
    rw [t2]
    exact ⟨fun _ => ⟨hv, hn f os rfl τ v hv (fun c j q1 q2 q3 => (t1.1 c j (by omega) (by omega) q3).trans (g1 c j (by omega))) (t1.2.trans g2) t2 t4 t5⟩, fun z => absurd (le0 (by omega)) z⟩
  | inr r =>
    obtain ⟨p, a, v⟩ := r
    rw [es] at hn hy eok
    dsimp only at hn hy
    obtain ⟨s1, s2, s3, s4, s5⟩ := eok
    intro τ t1 t2 t3 t4
    refine ⟨_, rfl, rfl, ?_⟩
    rw [t3]
    refine ⟨fun z => absurd z (by decide), fun _ => ⟨rfl, rfl, ?_⟩⟩
    rw [(rst_R hN t1).2.1, t2]
    have fr : ∀ c j, ¬ (c = 61 ∧ (j = 45 ∨ j = 46 ∨ j = 47 ∨ j = 49)) → ¬ c = 90 → τ.1 c j = σ.1 c j := fun c j q1 q2 => (t1.1 c j (by omega) (by omega)).trans (g1 c j q1)
    by_cases e : p < N
    · rw [if_pos e] at hn
      refine ⟨fun z => absurd z (nI_ge e (by omega)), fun _ => ⟨rfl, rfl, ?_⟩⟩
      refine r_faulty (os := []) (Nat.zero_le _) t3 t4 (fun i hi => absurd hi (Nat.not_lt_zero _)) (fun τ2 u1 u2 u3 u4 u5 => ⟨rfl, bI_01 _, ?_⟩)
      exact hn p [] rfl τ2 _ (bI_01 _) (fun c j q1 q2 q3 => (u1 c j (by omega) q3).trans (fr c j (by omega) q2)) (u2.trans (t1.2.trans g2)) u3 u4 u5
    · rw [if_neg e] at hy
      exact ⟨fun _ => ⟨bI_01 _, hy p a v rfl τ fr (t1.2.trans g2) t3⟩, fun z => absurd (nI_le (by omega) (by omega)) z⟩
end READR5
