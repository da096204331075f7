section SHEET2
variable {X : mv_X} {d : Nat} {σ : mv_S} {Q : mv_Q}
theorem s_hasItem {t m : Nat} {x : Int32} (ht : sh_at t) (hm : σ.1 t 2 = nI m) (h4 : m ≤ 40) : mv_wp X (d + 1) 20 [.ref t, .int x] σ Q ↔ Q (some (.int (if 0 ≤ x.toInt ∧ x.toInt ≤ (m : Int) - 1 then 1 else 0))) σ := by
  rw [w_Sheet_hasItem, hm]
  rcases ix_cs x m (by omega) with ⟨c1, c2⟩ | ⟨k, hk, rfl, c1⟩
  · rw [if_neg c2]
    by_cases h1 : x < 0
    · exact ⟨fun q => (q.1 h1).2, fun q => ⟨fun _ => ⟨Or.inl rfl, q⟩, fun z => absurd h1 z⟩⟩
    · have h2 := c1.resolve_left h1
      exact ⟨fun q => ((q.2 h1).2.1 h2).2, fun q => ⟨fun z => absurd z h1, fun _ => ⟨ht.1, fun _ => ⟨Or.inl rfl, q⟩, fun z => absurd h2 z⟩⟩⟩
  · rw [if_pos c1]
    have h1 : ¬ nI k < 0 := nI_pos (by omega)
    have h2 : ¬ nI m ≤ nI k := nI_ge hk (by omega)
    exact ⟨fun q => ((q.2 h1).2.2 h2).2, fun q => ⟨fun z => absurd z h1, fun _ => ⟨ht.1, fun z => absurd z h2, fun _ => ⟨Or.inr rfl, q⟩⟩⟩⟩
theorem s_write {t i : Nat} {x : Int32} (ht : sh_at t) (hi : i < 40) : mv_wp X (d + 1) 23 [.ref t, .int (nI i), .int x] σ Q ↔ Q none (mv_pi σ (t + 1) i (if σ.1 t 1 = 0 then x.toInt16.toInt32 else x)) := by
  rw [w_Sheet_write, ht.2.1, ht.2.2.2, nI_clamp (by omega)]
  have h1 : ¬ nI i < 0 := nI_pos (by omega)
  have h2 : ¬ (40 : Int32) ≤ nI i := nI_ge (b := 40) hi (by omega)
  have hv : vp_in (nI i) 40 := vp_in_nI hi (by omega)
  by_cases h : σ.1 t 1 = 0
  · rw [if_pos h]
    exact ⟨fun q => (((q.2 h1).2 h2).2.2.2 h).2, fun q => ⟨fun z => absurd z h1, fun _ => ⟨fun z => absurd z h2, fun _ => ⟨ht.1, ht.1, fun z => absurd h z, fun _ => ⟨⟨ht.2.2.1, hv⟩, q⟩⟩⟩⟩⟩
  · rw [if_neg h]
    exact ⟨fun q => (((q.2 h1).2 h2).2.2.1 h).2, fun q => ⟨fun z => absurd z h1, fun _ => ⟨fun z => absurd z h2, fun _ => ⟨ht.1, ht.1, fun _ => ⟨⟨ht.2.2.1, hv⟩, q⟩, fun z => absurd z h⟩⟩⟩⟩
theorem ms_put {k i : Nat} {v : Int32} (h : iv_S σ) (hk : k < 4) (hi : i < 40) : ms_P σ (mv_pi (mv_pi σ (53 + 2 * k + 1) i v) 95 (40 * k + i) v) := by
  refine Or.inr ⟨fun q hq => ?_, fun c j hc => ?_, rfl⟩
  · obtain ⟨s1, s2, ⟨m', s3, s4, s5⟩, s6⟩ := h q hq
    refine ⟨?_, ?_, ⟨m', s3, ?_, ?_⟩, fun j hj => ?_⟩
    · rw [mv_rn (by omega), mv_rn (by omega)]; exact s1
    · rw [mv_rn (by omega), mv_rn (by omega), mv_rn (by omega), mv_rn (by omega)]; exact s2
    · rw [mv_rn (by omega), mv_rn (by omega)]; exact s4
    · rw [mv_rn (by omega), mv_rn (by omega)]; exact s5
    · by_cases e : q = k ∧ j = i
      · obtain ⟨rfl, rfl⟩ := e
        rw [mv_rd, mv_rn (by omega), mv_rd]
      · rw [mv_rn (by omega), mv_rn (by omega), mv_rn (by omega), mv_rn (by omega)]; exact s6 j hj
  · unfold tm_S at hc
    rw [mv_rn (by omega), mv_rn (by omega)]
theorem op_put {a1 a2 a3 : Int32} (h : iv_S σ) : lw_op X (d + 5) (ms_P σ) 133 242 [.int a1, .int a2, .int a3] σ := by
  unfold lw_op
  rw [w_WM_put]
  rcases ix_cs a1 4 (by omega) with ⟨c1, c2⟩ | ⟨k, hk, rfl, c1⟩
  · rw [s_sheetAt_no c1]
    refine ⟨rfl, Or.inl ⟨rfl, _, rfl, ?_⟩⟩
    rw [w_Ref_put, r_isSheet, if_neg c2]
    exact ⟨_, rfl, fun z => absurd rfl z, fun _ => ⟨rfl, Or.inl rfl⟩⟩
  have ht : sh_at (53 + 2 * k) := (sh_now k hk).1
  obtain ⟨s1, s2, ⟨m, s3, s4, s5⟩, s6⟩ := h k hk
  have hv4 : vp_in (nI k) (mv_ln 93) := vp_in_nI (N := 4) (by omega) (by omega)
  have hv5 : vp_in (nI k) (mv_ln 94) := vp_in_nI (N := 4) (by omega) (by omega)
  rw [s_sheetAt_ok hk]
  refine ⟨rfl, Or.inr ⟨_, rfl, ht.1, ?_⟩⟩
  rw [s_isMissing ht]
  by_cases hmi : σ.1 (53 + 2 * k) 1 = -1
  · rw [if_pos hmi]
    refine ⟨_, rfl, fun z => absurd z (by decide), fun _ => ⟨_, rfl, ?_⟩⟩
    rw [w_Ref_put, r_isSheet, if_pos c1]
    refine ⟨_, rfl, fun _ => ⟨rfl, ⟨rfl, hv4⟩, ?_⟩, fun z => absurd z (by decide)⟩
    rw [nI_clamp (by omega), s2]
    exact ⟨fun z => absurd hmi z, fun _ => ⟨rfl, Or.inl rfl⟩⟩
  rw [if_neg hmi]
  refine ⟨_, rfl, fun _ => ⟨ht.1, ?_⟩, fun z => absurd rfl z⟩
  rw [s_hasItem ht s4 s3]
  rcases ix_cs a2 m (by omega) with ⟨d1, d2⟩ | ⟨i, hi, rfl, d1⟩
  · rw [if_neg d2]
    refine ⟨_, rfl, fun z => absurd rfl z, fun _ => ⟨_, rfl, ?_⟩⟩
    rw [w_Ref_put, r_isSheet, if_pos c1]
    refine ⟨_, rfl, fun _ => ⟨rfl, ⟨rfl, hv4⟩, ?_⟩, fun z => absurd z (by decide)⟩
    rw [nI_clamp (by omega), s2]
    refine ⟨fun _ => ⟨rfl, ⟨rfl, hv5⟩, ?_⟩, fun z => absurd z hmi⟩
    rw [s5, r_inI (A := 0) rfl (pt_l (by omega)), if_neg d2]
    exact ⟨_, rfl, fun z => absurd rfl z, fun _ => ⟨rfl, Or.inl rfl⟩⟩
  rw [if_pos d1]
  refine ⟨_, rfl, fun _ => ⟨ht.1, ?_⟩, fun z => absurd z (by decide)⟩
  rw [s_write ht (by omega)]
  refine ⟨rfl, _, rfl, ?_⟩
  rw [w_Ref_put, r_isSheet, if_pos c1]
  refine ⟨_, rfl, fun _ => ⟨rfl, ⟨rfl, hv4⟩, ?_⟩, fun z => absurd z (by decide)⟩
  rw [nI_clamp (by omega), mv_rn (by omega), mv_rn (by omega), s2]
  refine ⟨fun _ => ⟨rfl, ⟨rfl, hv5⟩, ?_⟩, fun z => absurd z hmi⟩
  have e1 : (40 : Int32) * nI k + nI i = nI (40 * k + i) := by rw [show (40 : Int32) = nI 40 from rfl, pk_mul, nI_add]
  have hv6 : vp_in (nI (40 * k + i)) (mv_ln 95) := vp_in_nI (N := 160) (by omega) (by omega)
  rw [s5, r_inI (A := 0) rfl (pt_l (by omega)), if_pos d1, e1, nI_clamp (by omega)]
  refine ⟨_, rfl, fun _ => ⟨rfl, rfl, ⟨rfl, hv4⟩, ?_⟩, fun z => absurd z (by decide)⟩
  rw [mv_rn (by omega), s2]
  refine ⟨fun z => ⟨⟨rfl, hv6⟩, rfl, ?_⟩, fun z => ⟨⟨rfl, hv6⟩, rfl, ?_⟩⟩
  · rw [if_neg z]; exact ms_put h hk (by omega)
  · rw [if_pos z]; exact ms_put h hk (by omega)
/-- a run of n from i on lies within m -/
def rn_in (m : Nat) (i n : Int32) : Prop := 0 ≤ i.toInt ∧ 0 ≤ n.toInt ∧ i.toInt + n.toInt ≤ (m : Int)
theorem s_hasRun_ok {t m : Nat} {x y : Int32} (ht : sh_at t) (hm : σ.1 t 2 = nI m) (h4 : m ≤ 40) (h : rn_in m x y) : mv_wp X (d + 1) 21 [.ref t, .int x, .int y] σ Q ↔ Q (some (.int 1)) σ := by
  obtain ⟨q1, q2, q3⟩ := h
  rw [w_Sheet_hasRun, hm]
  have h1 : ¬ x < 0 := by rw [Int32.lt_iff_toInt_lt, Int32.toInt_zero]; omega
  have h2 : ¬ y < 0 := by rw [Int32.lt_iff_toInt_lt, Int32.toInt_zero]; omega
  have h3 : ¬ nI m < x := by rw [Int32.lt_iff_toInt_lt, nI_toInt (by omega)]; omega
  have h5 : ¬ nI m - x < y := by rw [Int32.lt_iff_toInt_lt, sub_I (by omega) q1]; omega
  exact ⟨fun q => ((((q.2 h1).2 h2).2.2 h3).2.2 h5).2, fun q => ⟨fun z => absurd z h1, fun _ => ⟨fun z => absurd z h2, fun _ => ⟨ht.1, fun z => absurd z h3, fun _ => ⟨ht.1, fun z => absurd z h5, fun _ => ⟨Or.inr rfl, q⟩⟩⟩⟩⟩⟩
theorem s_hasRun_no {t m : Nat} {x y : Int32} (ht : sh_at t) (hm : σ.1 t 2 = nI m) (h4 : m ≤ 40) (h : ¬ rn_in m x y) (hQ : Q (some (.int 0)) σ) : mv_wp X (d + 1) 21 [.ref t, .int x, .int y] σ Q := by
  rw [w_Sheet_hasRun, hm]
  refine ⟨fun _ => ⟨Or.inl rfl, hQ⟩, fun h1 => ⟨fun _ => ⟨Or.inl rfl, hQ⟩, fun h2 => ⟨ht.1, fun _ => ⟨Or.inl rfl, hQ⟩, fun h3 => ⟨ht.1, fun _ => ⟨Or.inl rfl, hQ⟩, fun h5 => absurd ?_ h⟩⟩⟩⟩
  rw [Int32.lt_iff_toInt_lt, Int32.toInt_zero] at h1 h2
  rw [Int32.lt_iff_toInt_lt, nI_toInt (by omega)] at h3
  rw [Int32.lt_iff_toInt_lt, sub_I (by omega) (by omega)] at h5
  exact ⟨by omega, by omega, by omega⟩
end SHEET2
