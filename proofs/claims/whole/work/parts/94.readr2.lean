/-! ===== reading, the reference: atoms ===== -/
section READR2
variable {X : mv_X} {d : Nat} {σ : mv_S} {Q : mv_Q} {N : Nat} {b : Nat → Int32} {w : List Nat}
/-- the letters stand on the tape from q on -/
def tpe (q : Nat) (ls : List Nat) (σ : mv_S) : Prop := q + ls.length ≤ 60 ∧ (∀ l, l ∈ ls → l < 3) ∧ ∀ i, i < ls.length → σ.1 92 (q + i) = nI (97 + ls.getD i 0)
theorem gd_3 {l : List Nat} (h : ∀ x, x ∈ l → x < 3) (i : Nat) : l.getD i 0 < 3 := by
  rw [List.getD_eq_getElem?_getD]
  cases e : l[i]? with
  | none => show 0 < 3; omega
  | some x => exact h x (List.mem_of_getElem? e)
theorem tpe_m {q i : Nat} {ls : List Nat} (h : tpe q ls σ) (hi : i < ls.length) : σ.1 92 (q + i) - 97 = nI (ls.getD i 0) := by
  rw [h.2.2 i hi, show nI (97 + ls.getD i 0) - 97 = nI (97 + ls.getD i 0 - 97) from pk_sub (b := 97) (by omega)]
  congr 1
  omega
theorem r_stands {q k : Nat} {ls : List Nat} (hw : rwd σ w) (ok : wk w) (ht : tpe q ls σ) (hk : k + ls.length ≤ w.length) (hQ : Q (some (.int (if stB ls w k ls.length = true then 1 else 0))) σ) : mv_wp X (d + 1) 217 [.ref 61, .int (nI q), .int (nI ls.length), .int (nI k)] σ Q := by
  have w9 := ok.1
  have t60 := ht.1
  have bad : stB ls w k ls.length = false → ∀ n i, i + n = ls.length → mv_wf X (mv_wp X d) m_Ref_stands Q 6 [.ref 61, .int (nI q), .int (nI ls.length), .int (nI k), .int 0, .int (nI i)] [] σ := by
    intro hf n
    rw [hf, if_neg (by decide)] at hQ
    induction n with
    | zero =>
      intro i hi
      exact h_Ref_stands_6 ⟨fun _ => ⟨Or.inl rfl, hQ⟩, fun z => absurd (nI_le (by omega) (by omega)) z⟩
    | succ n ih =>
      intro i hi
      refine h_Ref_stands_6 ⟨fun z => absurd z (nI_ge (by omega) (by omega)), fun _ => ⟨fun _ => ?_, fun z => absurd rfl z⟩⟩
      rw [nI_1]
      exact ih (i + 1) (by omega)
  have good : ∀ n i, i + n = ls.length → (∀ j, j < i → w.getD (k + j) 0 = ls.getD j 0) → mv_wf X (mv_wp X d) m_Ref_stands Q 6 [.ref 61, .int (nI q), .int (nI ls.length), .int (nI k), .int 1, .int (nI i)] [] σ := by
    intro n
    induction n with
    | zero =>
      intro i hi p
      rw [if_pos ((stB_iff _).mpr (fun j hj => p j (by omega)))] at hQ
      exact h_Ref_stands_6 ⟨fun _ => ⟨Or.inr rfl, hQ⟩, fun z => absurd (nI_le (by omega) (by omega)) z⟩
    | succ n ih =>
      intro i hi p
      have g1 := gd_3 ok.2 (k + i)
      have g2 := gd_3 ht.2.1 i
      refine h_Ref_stands_6 ⟨fun z => absurd z (nI_ge (by omega) (by omega)), fun _ => ⟨fun z => absurd z (by decide), fun _ => ?_⟩⟩
      rw [nI_add, nI_add, nI_clamp (by omega), nI_clamp (by omega), hw.2 (k + i) (by omega), tpe_m ht (by omega), q_inj (by omega) (by omega), nI_1]
      refine ⟨rfl, ⟨rfl, vp_in_nI (N := 9) (by omega) (by omega)⟩, rfl, ⟨rfl, vp_in_nI (N := 60) (by omega) (by omega)⟩, fun z => ?_, fun z => ?_⟩
      · refine bad ?_ n (i + 1) (by omega)
        cases e : stB ls w k ls.length
        · rfl
        · exact absurd ((stB_iff _).mp e i (by omega)) z
      · refine ih (i + 1) (by omega) (fun j hj => ?_)
        by_cases e : j = i
        · rw [e]; exact z
        · exact p j (by omega)
  exact w_Ref_stands (good ls.length 0 (by omega) (fun j hj => absurd hj (Nat.not_lt_zero _)))
theorem r_scat {q : Nat} {ls : List Nat} (hw : rwd σ w) (ok : wk w) (ht : tpe q ls σ) (h3 : ls.length ≤ 3) (hQ : Q (some (.int (if gre ls w = true then 1 else 0))) σ) : mv_wf X (mv_wp X d) m_Ref_sample Q 88 [.ref 61, .retAddr 0, .int (nI q), .int (nI ls.length), .int (nI 0), .int (nI 0)] [] σ := by
  have w9 := ok.1
  have t60 := ht.1
  have loop : ∀ v u m n, w = u ++ v → ls = m ++ n → gre ls w = gre n v → mv_wf X (mv_wp X d) m_Ref_sample Q 88 [.ref 61, .retAddr 0, .int (nI q), .int (nI ls.length), .int (nI m.length), .int (nI u.length)] [] σ := by
    intro v
    induction v with
    | nil =>
      intro u m n e1 e2 e3
      have l1 : w.length = u.length := by rw [e1, List.append_nil]
      have l2 : ls.length = m.length + n.length := by rw [e2, List.length_append]
      refine h_Ref_sample_88 ⟨rfl, ?_⟩
      rw [hw.1, q_inj (by omega) (by omega)]
      refine ⟨fun _ => ?_, fun z => absurd (nI_le (by omega) (by omega)) z⟩
      rw [e3] at hQ
      cases n with
      | nil =>
        have hQ : Q (some (.int 1)) σ := hQ
        have l3 : ([] : List Nat).length = 0 := rfl
        exact ⟨fun z => absurd (by omega) z, fun _ => ⟨Or.inr rfl, hQ⟩⟩
      | cons a n =>
        have hQ : Q (some (.int 0)) σ := hQ
        have l3 : (a :: n).length = n.length + 1 := rfl
        exact ⟨fun _ => ⟨Or.inl rfl, hQ⟩, fun z => absurd z (by omega)⟩
    | cons x v ih =>
      intro u m n e1 e2 e3
      have l1 : w.length = u.length + (v.length + 1) := by rw [e1, List.length_append]; rfl
      have l2 : ls.length = m.length + n.length := by rw [e2, List.length_append]
      have gx : w.getD u.length 0 = x := by rw [e1]; exact gt_mid u v x
      refine h_Ref_sample_88 ⟨rfl, ?_⟩
      rw [hw.1, q_inj (by omega) (by omega)]
      refine ⟨fun z => absurd z (nI_ge (by omega) (by omega)), fun _ => ?_⟩
      cases n with
      | nil =>
        rw [e3] at hQ
        have hQ : Q (some (.int 1)) σ := hQ
        have l3 : ([] : List Nat).length = 0 := rfl
        exact ⟨fun _ => ⟨fun z => absurd (by omega) z, fun _ => ⟨Or.inr rfl, hQ⟩⟩, fun z => absurd (nI_le (by omega) (by omega)) z⟩
      | cons a n =>
        have l3 : (a :: n).length = n.length + 1 := rfl
        have ga : ls.getD m.length 0 = a := by rw [e2]; exact gt_mid m n a
        have e3 : gre ls w = if x = a then gre n v else gre (a :: n) v := e3
        have hx3 : x < 3 := by have := gd_3 ok.2 u.length; omega
        have ha3 : a < 3 := by have := gd_3 ht.2.1 m.length; omega
        refine ⟨fun z => absurd z (nI_ge (by omega) (by omega)), fun _ => ?_⟩
        rw [nI_add, nI_clamp (n := u.length) (by omega), nI_clamp (n := q + m.length) (by omega), hw.2 u.length (by omega), gx, tpe_m ht (by omega), ga, q_inj (by omega) (by omega), nI_1, nI_1, Int32.add_zero]
        refine ⟨rfl, ⟨rfl, vp_in_nI (N := 9) (by omega) (by omega)⟩, rfl, ⟨rfl, vp_in_nI (N := 60) (by omega) (by omega)⟩, fun z => ?_, fun z => ?_⟩
        · rw [if_neg z] at e3
          have := ih (u ++ [x]) m (a :: n) (by rw [List.append_assoc]; exact e1) e2 e3
          rw [ln_s] at this
          exact this
        · rw [if_pos z] at e3
          have := ih (u ++ [x]) (m ++ [a]) n (by rw [List.append_assoc]; exact e1) (by rw [List.append_assoc]; exact e2) e3
          rw [ln_s, ln_s] at this
          exact this
  exact loop w [] [] ls rfl rfl rfl
theorem r_bes {q : Nat} {ls : List Nat} (hw : rwd σ w) (ok : wk w) (ht : tpe q ls σ) (h1 : 1 ≤ ls.length) (P : Bool) (hP : P = true ↔ ∃ k, k + ls.length ≤ w.length ∧ stB ls w k ls.length = true) (hQ : Q (some (.int (if P = true then 1 else 0))) σ) : mv_wf X (mv_wp X (d + 1)) m_Ref_sample Q 165 [.ref 61, .retAddr 0, .int (nI q), .int (nI ls.length), .int 0, .int (nI 0)] [] σ := by
  have w9 := ok.1
  have t60 := ht.1
  have yes : P = true → ∀ n k, k + n = 70 → mv_wf X (mv_wp X (d + 1)) m_Ref_sample Q 165 [.ref 61, .retAddr 0, .int (nI q), .int (nI ls.length), .int 1, .int (nI k)] [] σ := by
    intro hp n
    rw [if_pos hp] at hQ
    induction n with
    | zero =>
      intro k hk
      refine h_Ref_sample_165 ⟨rfl, ?_⟩
      rw [hw.1, nI_add]
      exact ⟨fun _ => ⟨Or.inr rfl, hQ⟩, fun z => absurd (nI_lt (by omega) (by omega)) z⟩
    | succ n ih =>
      intro k hk
      refine h_Ref_sample_165 ⟨rfl, ?_⟩
      rw [hw.1, nI_add, nI_1]
      exact ⟨fun _ => ⟨Or.inr rfl, hQ⟩, fun _ => ⟨fun _ => ih (k + 1) (by omega), fun z => absurd z (by decide)⟩⟩
  have no : ∀ n k, k + n = 70 → (∀ j, j < k → ¬ (j + ls.length ≤ w.length ∧ stB ls w j ls.length = true)) → mv_wf X (mv_wp X (d + 1)) m_Ref_sample Q 165 [.ref 61, .retAddr 0, .int (nI q), .int (nI ls.length), .int 0, .int (nI k)] [] σ := by
    intro n
    have stop : ∀ k, k < 100 → w.length < k + ls.length → (∀ j, j < k → ¬ (j + ls.length ≤ w.length ∧ stB ls w j ls.length = true)) → mv_wf X (mv_wp X (d + 1)) m_Ref_sample Q 165 [.ref 61, .retAddr 0, .int (nI q), .int (nI ls.length), .int 0, .int (nI k)] [] σ := by
      intro k k1 hk p
      have : ¬ P = true := fun z => by
        obtain ⟨j, j1, j2⟩ := hP.mp z
        exact p j (by omega) ⟨j1, j2⟩
      rw [if_neg this] at hQ
      refine h_Ref_sample_165 ⟨rfl, ?_⟩
      rw [hw.1, nI_add]
      exact ⟨fun _ => ⟨Or.inl rfl, hQ⟩, fun z => absurd (nI_lt hk (by omega)) z⟩
    induction n with
    | zero =>
      intro k hk p
      exact stop k (by omega) (by omega) p
    | succ n ih =>
      intro k hk p
      by_cases e : w.length < k + ls.length
      · exact stop k (by omega) e p
      refine h_Ref_sample_165 ⟨rfl, ?_⟩
      rw [hw.1, nI_add, nI_1]
      refine ⟨fun z => absurd z (nI_nlt (by omega) (by omega)), fun _ => ⟨fun z => absurd rfl z, fun _ => ⟨rfl, r_stands hw ok ht (by omega) ⟨_, rfl, ?_⟩⟩⟩⟩
      by_cases es : stB ls w k ls.length = true
      · rw [if_pos es]
        exact ⟨fun z => absurd z (by decide), fun _ => yes (hP.mpr ⟨k, by omega, es⟩) n (k + 1) (by omega)⟩
      · rw [if_neg es]
        refine ⟨fun _ => ih (k + 1) (by omega) (fun j hj => ?_), fun z => absurd rfl z⟩
        by_cases ej : j = k
        · rw [ej]; exact fun z => es z.2
        · exact p j (by omega)
  exact no 70 0 (by omega) (fun j hj => absurd hj (Nat.not_lt_zero _))
end READR2
