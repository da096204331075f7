section OPFORM2
variable {X : mv_X} {d : Nat} {σ : mv_S}
/-- the reference reads what stands on the tape -/
theorem r_formula {q m : Nat} {b : Nat → Int32} {τ : mv_S} {Q : mv_Q} (hq : q < 4) (hm : m ≤ 60) (h41 : τ.1 61 41 = nI q) (h43 : τ.1 61 43 = nI m) (h89 : ∀ j, j < m → τ.1 89 j = b j)
    (hy : ∀ p a v, topP m (pkb m b) = Sum.inr (p, a, v) → ∀ υ : mv_S, (∀ c j, ¬ (c = 61 ∧ (j = 6 ∨ j = 41 ∨ j = 43 ∨ (45 ≤ j ∧ j ≤ 49) ∨ j = 51)) → ¬ (c = 87 ∧ 60 * q ≤ j) → ¬ (c = 88 ∧ j = q) → ¬ c = 90 → ¬ c = 92 → υ.1 c j = τ.1 c j) → υ.2 = τ.2 → υ.1 61 41 = nI (q + 1) → υ.1 61 43 = 0 → υ.1 61 51 = 0 → fmR q m b υ → Q (some (.int (nI q))) υ)
    (hn : ∀ f os, topP m (pkb m b) = Sum.inl (f, os) → ∀ υ : mv_S, (∀ c j, ¬ (c = 61 ∧ (j = 6 ∨ j = 43 ∨ (45 ≤ j ∧ j ≤ 49) ∨ j = 51)) → ¬ c = 90 → ¬ c = 91 → ¬ c = 92 → υ.1 c j = τ.1 c j) → υ.2 = τ.2 → υ.1 61 43 = 0 → υ.1 61 51 = nI (os.length + 2) → (∀ i, i < os.length + 2 → υ.1 91 i = nI ((0 :: os ++ [f]).getD i 0)) → Q (some (.int (-100 - nI f))) υ) : mv_wp X (d + 60) 221 [.ref 61] τ Q := by
  refine (w_Ref_formula _ _ _ _).mpr ⟨rfl, ?_⟩
  rw [h41, h43, nI_clamp (n := m) (by omega), show (0 : Int32).toNatClampNeg = 0 from rfl]
  refine ⟨fun _ => ⟨rfl, rfl, rfl, ⟨rfl, rfl, by decide, by decide, nI_pos (by omega), by rw [ln_89]; omega, by rw [ln_92]; omega, fun i hi => rfl⟩, rfl, rfl, rfl, rfl, ?_⟩, fun z => absurd (nI_28 (b := 4) (by omega) (by omega) z) (by omega)⟩
  have o : ∀ c j, ¬ c = 92 → ((fun c' k => if c' = 92 then va_cpy (τ.1 89) (τ.1 92) 0 0 m k else τ.1 c' k, τ.2) : mv_S).1 c j = τ.1 c j := fun c j q => if_neg q
  have o5 : ∀ j, j < m → ((fun c' k => if c' = 92 then va_cpy (τ.1 89) (τ.1 92) 0 0 m k else τ.1 c' k, τ.2) : mv_S).1 92 j = τ.1 89 j := fun j hj => by
    show (if (92 : Nat) = 92 then va_cpy (τ.1 89) (τ.1 92) 0 0 m j else τ.1 92 j) = _
    rw [if_pos rfl]
    exact sb_cpy0 hj
  have o2 : ((fun c' k => if c' = 92 then va_cpy (τ.1 89) (τ.1 92) 0 0 m k else τ.1 c' k, τ.2) : mv_S).2 = τ.2 := rfl
  generalize ((fun c' k => if c' = 92 then va_cpy (τ.1 89) (τ.1 92) 0 0 m k else τ.1 c' k, τ.2) : mv_S) = A at o o5 o2 ⊢
  have a43 : A.1 61 43 = nI m := (o _ _ (by omega)).trans h43
  rw [a43]
  have tok := top_ok (pkb_k m b)
  refine r_through (d := d + 29) (b := b) (w := []) hm (fun j hj => by rw [mv_rn (by omega), mv_rn (by omega)]; exact (o5 j hj).trans (h89 j hj)) ⟨mv_rd, fun k hk => absurd hk (Nat.not_lt_zero _)⟩ ⟨Nat.zero_le _, fun l hl => absurd hl (List.not_mem_nil)⟩ (fun p a v e σ1 u1 u2 u3 => ⟨_, rfl, rfl, ?_⟩) (fun f os e σ1 v hv u1 u2 u3 u4 u5 => ⟨_, rfl, rfl, ?_⟩)
  · rw [u3]
    have k1 : ∀ c j, ¬ (c = 61 ∧ (j = 6 ∨ j = 43 ∨ j = 45 ∨ j = 46 ∨ j = 47 ∨ j = 49 ∨ j = 51)) → ¬ c = 90 → ¬ c = 92 → (mv_pi σ1 61 51 0).1 c j = τ.1 c j := fun c j q1 q2 q3 => by rw [mv_rn (by omega), u1 c j (by omega) q2, mv_rn (by omega), mv_rn (by omega)]; exact o c j q3
    have k92 : ∀ j, j < m → (mv_pi σ1 61 51 0).1 92 j = b j := fun j hj => by rw [mv_rn (by omega), u1 92 j (by omega) (by omega), mv_rn (by omega), mv_rn (by omega)]; exact (o5 j hj).trans (h89 j hj)
    have k43 : (mv_pi σ1 61 51 0).1 61 43 = 0 := by rw [mv_rn (by omega), u1 61 43 (by omega) (by omega), mv_rn (by omega), mv_rd]
    have k51 : (mv_pi σ1 61 51 0).1 61 51 = 0 := mv_rd
    have k2 : (mv_pi σ1 61 51 0).2 = τ.2 := u2.trans o2
    refine ⟨fun _ => ⟨rfl, rfl, rfl, rfl, ?_⟩, fun z => absurd (by decide) z⟩
    generalize mv_pi σ1 61 51 0 = σ2 at *
    rw [(k1 61 41 (by omega) (by omega) (by omega)).trans h41, show (60 : Int32) = nI 60 from rfl, pk_mul, nI_clamp (n := 60 * q) (by omega), nI_clamp (n := m) (by omega)]
    refine ⟨⟨rfl, rfl, by decide, nI_pos (by omega), nI_pos (by omega), by rw [ln_92]; omega, by rw [ln_87]; omega, fun i hi => rfl⟩, rfl, rfl, ?_⟩
    have p1 : ∀ c j, ¬ c = 87 → ((fun c' k => if c' = 87 then va_cpy (σ2.1 92) (σ2.1 87) 0 (60 * q) m k else σ2.1 c' k, σ2.2) : mv_S).1 c j = σ2.1 c j := fun c j q => if_neg q
    have p3 : ∀ j, ¬ 60 * q ≤ j → ((fun c' k => if c' = 87 then va_cpy (σ2.1 92) (σ2.1 87) 0 (60 * q) m k else σ2.1 c' k, σ2.2) : mv_S).1 87 j = σ2.1 87 j := fun j hj => by
      show (if (87 : Nat) = 87 then va_cpy (σ2.1 92) (σ2.1 87) 0 (60 * q) m j else σ2.1 87 j) = _
      rw [if_pos rfl]
      unfold va_cpy
      rw [if_neg (by omega)]
    have p5 : ∀ i, i < m → ((fun c' k => if c' = 87 then va_cpy (σ2.1 92) (σ2.1 87) 0 (60 * q) m k else σ2.1 c' k, σ2.2) : mv_S).1 87 (60 * q + i) = b i := fun i hi => by
      show (if (87 : Nat) = 87 then va_cpy (σ2.1 92) (σ2.1 87) 0 (60 * q) m (60 * q + i) else σ2.1 87 (60 * q + i)) = _
      rw [if_pos rfl]
      unfold va_cpy
      rw [if_pos (by omega), show 0 + (60 * q + i - 60 * q) = i by omega]
      exact k92 i hi
    have p2 : ((fun c' k => if c' = 87 then va_cpy (σ2.1 92) (σ2.1 87) 0 (60 * q) m k else σ2.1 c' k, σ2.2) : mv_S).2 = σ2.2 := rfl
    generalize ((fun c' k => if c' = 87 then va_cpy (σ2.1 92) (σ2.1 87) 0 (60 * q) m k else σ2.1 c' k, σ2.2) : mv_S) = B at p1 p2 p3 p5 ⊢
    have b41 : B.1 61 41 = nI q := (p1 _ _ (by omega)).trans ((k1 61 41 (by omega) (by omega) (by omega)).trans h41)
    rw [b41, nI_clamp (n := q) (by omega), mv_rd, mv_rn (by omega), b41, nI_1, show nI (q + 1) - 1 = nI q from pk_sub (b := 1) (by omega)]
    refine ⟨⟨rfl, vp_in_nI (N := 4) (by omega) (by omega)⟩, rfl, rfl, rfl, hy p a v e _ (fun c j q1 q2 q3 q4 q5 => ?_) (p2.trans k2) mv_rd ?_ ?_ ⟨?_, fun i hi => ?_⟩⟩
    · rw [mv_rn (by omega), mv_rn (by omega)]
      by_cases ec : c = 87
      · subst ec
        rw [p3 j (by omega)]; exact k1 87 j (by omega) (by omega) (by omega)
      · rw [p1 c j ec]; exact k1 c j (by omega) q4 q5
    · rw [mv_rn (by omega), mv_rn (by omega), p1 61 43 (by omega)]; exact k43
    · rw [mv_rn (by omega), mv_rn (by omega), p1 61 51 (by omega)]; exact k51
    · rw [mv_rn (by omega), mv_rd]
    · rw [mv_rn (by omega), mv_rn (by omega)]; exact p5 i hi
  · have hf := (tok.1 f os e).1
    rw [u3]
    refine ⟨fun z => absurd z (nI_pos (by omega)), fun _ => ⟨rfl, hn f os e σ1 (fun c j q1 q2 q3 q4 => ?_) (u2.trans o2) ?_ u4 u5⟩⟩
    · rw [u1 c j (by omega) q2 q3, mv_rn (by omega), mv_rn (by omega)]; exact o c j q4
    · rw [u1 61 43 (by omega) (by omega) (by omega), mv_rn (by omega), mv_rd]
theorem op_formula {q m r : Nat} (hF : iv_F q σ) (hT : iv_T m σ) (hW : iv_W r σ) : lw_op X (d + 60) (fo_P σ) 118 221 [] σ := by
  have same : fo_P σ σ := ⟨⟨q, hF⟩, ⟨m, hT⟩, ⟨r, hW⟩, fun _ _ _ _ _ _ _ _ _ => rfl, rfl⟩
  unfold lw_op
  obtain ⟨f1, f2, f3, f4⟩ := hF
  obtain ⟨t1, t2, t3, t4⟩ := hT
  refine (w_WM_formula _ _ _ _).mpr ⟨rfl, ?_⟩
  rw [f2]
  by_cases e4 : q = 4
  · refine ⟨fun z => absurd z (nI_nlt (b := 4) (by omega) (by omega)), fun _ => ⟨_, rfl, (w_Ref_formula _ _ _ _).mpr ⟨rfl, ?_⟩⟩⟩
    rw [f3]
    exact ⟨fun z => absurd (by rw [e4]; rfl) z, fun _ => ⟨rfl, same⟩⟩
  refine ⟨fun _ => ⟨rfl, rfl, ?_⟩, fun z => absurd (nI_lt (b := 4) (by omega) (by omega)) z⟩
  refine c_readTape (d := d + 19) (N := m) (b := fun j => σ.1 6 j) ⟨t1, t2, fun _ _ => rfl⟩ (fun p a v e τ g1 g2 g3 g4 g5 => ⟨_, rfl, fun _ => ?_, fun z => absurd z (by decide)⟩) (fun f os e τ g1 g2 g3 g4 g5 => ⟨_, rfl, fun z => absurd rfl z, fun _ => ⟨rfl, rfl, _, rfl, ?_⟩⟩)
  · have ta := ((top_ok (pkb_k m _)).2 p a v e).1
    obtain ⟨m1, m2, m3, m4, m5⟩ := fm_at q (by omega)
    rw [(g1.1 0 12 (by omega) (by omega) (by omega) (by omega)).trans f2, nI_clamp (n := q) (by omega), m2, g4]
    refine ⟨rfl, rfl, ⟨by decide, vp_in_nI (N := 4) (by omega) (by omega)⟩, rfl, rfl, rfl, rfl, m1, s_keep (by omega) (by omega) (fun τ2 k1 k2 k3 k4 => ⟨rfl, rfl, rfl, rfl, ?_⟩)⟩
    rw [mv_rd, k1 0 12 (by omega) (by omega), (g1.1 0 12 (by omega) (by omega) (by omega) (by omega)).trans f2, nI_1, show nI (q + 1) - 1 = nI q from pk_sub (b := 1) (by omega)]
    have fr : ∀ c j, ¬ c = 5 → ¬ c = 7 → ¬ c = 8 → ¬ c = 9 → ¬ (c = 0 ∧ j = 12) → ¬ (c = 45 + 2 * q ∧ j = 1) → ¬ c = 45 + 2 * q + 1 → (mv_pi τ2 0 12 (nI (q + 1))).1 c j = σ.1 c j := fun c j q1 q2 q3 q4 q5 q6 q7 => by rw [mv_rn (by omega), k1 c j q6 q7]; exact g1.1 c j q1 q2 q3 q4
    have fr2 : (mv_pi τ2 0 12 (nI (q + 1))).2 = σ.2 := k2.trans g1.2
    have c54 : (mv_pi τ2 0 12 (nI (q + 1))).1 5 4 = 0 := by rw [mv_rn (by omega), k1 5 4 (by omega) (by omega)]; exact g2
    have c57 : (mv_pi τ2 0 12 (nI (q + 1))).1 5 7 = 0 := by rw [mv_rn (by omega), k1 5 7 (by omega) (by omega)]; exact g3
    have c12 : (mv_pi τ2 0 12 (nI (q + 1))).1 0 12 = nI (q + 1) := mv_rd
    have cF : fmC (45 + 2 * q) a (mv_pi τ2 0 12 (nI (q + 1))) := ⟨by rw [mv_rn (by omega)]; exact k3, fun i hi => by rw [mv_rn (by omega), k4 i hi]; exact g5 i hi⟩
    generalize mv_pi τ2 0 12 (nI (q + 1)) = τ3 at *
    refine ⟨_, rfl, r_formula (b := fun j => σ.1 6 j) (by omega) t1 ((fr 61 41 (by omega) (by omega) (by omega) (by omega) (by omega) (by omega) (by omega)).trans f3) ((fr 61 43 (by omega) (by omega) (by omega) (by omega) (by omega) (by omega) (by omega)).trans t3) (fun j hj => (fr 89 j (by omega) (by omega) (by omega) (by omega) (by omega) (by omega) (by omega)).trans (t4 j hj).symm) (fun p' a' v' e' υ u1 u2 u3 u4 u5 u6 => ⟨rfl, ?_⟩) (fun f os e' => ?_)⟩
    · refine ⟨⟨q + 1, by omega, (u1 0 12 (by omega) (by omega) (by omega) (by omega) (by omega)).trans c12, u3, fun k hk => ?_⟩, ⟨0, Nat.zero_le _, (u1 5 4 (by omega) (by omega) (by omega) (by omega) (by omega)).trans c54, u4, fun j hj => absurd hj (Nat.not_lt_zero _)⟩, ⟨0, Nat.zero_le _, (u1 5 7 (by omega) (by omega) (by omega) (by omega) (by omega)).trans c57, u5, fun j hj => absurd hj (Nat.not_lt_zero _)⟩, fun c j q1 q2 q3 q4 q5 q6 q7 => ?_, u2.trans fr2⟩
      · by_cases ek : k = q
        · subst ek
          exact ⟨m, _, p, a, v, t1, e, ⟨(u1 _ _ (by omega) (by omega) (by omega) (by omega) (by omega)).trans cF.1, fun i hi => (u1 _ _ (by omega) (by omega) (by omega) (by omega) (by omega)).trans (cF.2 i hi)⟩, u6⟩
        · obtain ⟨N0, b0, p0, a0, v0, w1, w2, w3, w4⟩ := f4 k (by omega)
          refine ⟨N0, b0, p0, a0, v0, w1, w2, ⟨?_, fun i hi => ?_⟩, ⟨?_, fun i hi => ?_⟩⟩
          · exact ((u1 _ _ (by omega) (by omega) (by omega) (by omega) (by omega)).trans (fr _ _ (by omega) (by omega) (by omega) (by omega) (by omega) (by omega) (by omega))).trans w3.1
          · exact ((u1 _ _ (by omega) (by omega) (by omega) (by omega) (by omega)).trans (fr _ _ (by omega) (by omega) (by omega) (by omega) (by omega) (by omega) (by omega))).trans (w3.2 i hi)
          · exact ((u1 _ _ (by omega) (by omega) (by omega) (by omega) (by omega)).trans (fr _ _ (by omega) (by omega) (by omega) (by omega) (by omega) (by omega) (by omega))).trans w4.1
          · exact ((u1 _ _ (by omega) (by omega) (by omega) (by omega) (by omega)).trans (fr _ _ (by omega) (by omega) (by omega) (by omega) (by omega) (by omega) (by omega))).trans (w4.2 i hi)
      · exact (u1 c j (by omega) (by omega) (by omega) (by omega) (by omega)).trans (fr c j q1 (by omega) (by omega) (by omega) q3 (by omega) (by omega))
    · rw [e] at e'
      cases e'
  · refine r_formula (b := fun j => σ.1 6 j) (by omega) t1 ((g1.1 61 41 (by omega) (by omega) (by omega) (by omega)).trans f3) ((g1.1 61 43 (by omega) (by omega) (by omega) (by omega)).trans t3) (fun j hj => (g1.1 89 j (by omega) (by omega) (by omega) (by omega)).trans (t4 j hj).symm) (fun p' a' v' e' => ?_) (fun f' os' e' υ u1 u2 u3 u4 u5 => ⟨?_, ?_⟩)
    · rw [e] at e'
      cases e'
    · rw [e] at e'
      injection e' with e'
      injection e' with e1 e2
      subst e1
      rw [g3]
    · rw [e] at e'
      injection e' with e'
      injection e' with e1 e2
      subst e1 e2
      have l6 := ((top_ok (pkb_k m _)).1 f os e).2.1
      refine ⟨⟨q, f1, ?_, ?_, fun k hk => ?_⟩, ⟨0, Nat.zero_le _, ?_, u3, fun j hj => absurd hj (Nat.not_lt_zero _)⟩, ⟨os.length + 2, by omega, ?_, u4, fun j hj => ?_⟩, fun c j q1 q2 q3 q4 q5 q6 q7 => ?_, u2.trans g1.2⟩
      · exact ((u1 _ _ (by omega) (by omega) (by omega) (by omega)).trans (g1.1 _ _ (by omega) (by omega) (by omega) (by omega))).trans f2
      · exact ((u1 _ _ (by omega) (by omega) (by omega) (by omega)).trans (g1.1 _ _ (by omega) (by omega) (by omega) (by omega))).trans f3
      · obtain ⟨N0, b0, p0, a0, v0, w1, w2, w3, w4⟩ := f4 k hk
        refine ⟨N0, b0, p0, a0, v0, w1, w2, ⟨?_, fun i hi => ?_⟩, ⟨?_, fun i hi => ?_⟩⟩
        · exact ((u1 _ _ (by omega) (by omega) (by omega) (by omega)).trans (g1.1 _ _ (by omega) (by omega) (by omega) (by omega))).trans w3.1
        · exact ((u1 _ _ (by omega) (by omega) (by omega) (by omega)).trans (g1.1 _ _ (by omega) (by omega) (by omega) (by omega))).trans (w3.2 i hi)
        · exact ((u1 _ _ (by omega) (by omega) (by omega) (by omega)).trans (g1.1 _ _ (by omega) (by omega) (by omega) (by omega))).trans w4.1
        · exact ((u1 _ _ (by omega) (by omega) (by omega) (by omega)).trans (g1.1 _ _ (by omega) (by omega) (by omega) (by omega))).trans (w4.2 i hi)
      · exact (u1 _ _ (by omega) (by omega) (by omega) (by omega)).trans g2
      · exact (u1 _ _ (by omega) (by omega) (by omega) (by omega)).trans g4
      · exact ((u1 _ _ (by omega) (by omega) (by omega) (by omega)).trans (g5 j hj)).trans (u5 j hj).symm
      · exact (u1 c j (by omega) (by omega) (by omega) (by omega)).trans (g1.1 c j q1 (by omega) (by omega) (by omega))
end OPFORM2
