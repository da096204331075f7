/-! ===== reading, the class: atoms and one ===== -/
theorem ltq_n {x : Int32} (h : ltq x = none) : x.toInt < 97 ∨ 99 < x.toInt := by
  refine Classical.byContradiction fun z => ?_
  have e : x.toInt = 97 ∨ x.toInt = 98 ∨ x.toInt = 99 := by omega
  rcases e with e | e | e
  · have : x = 97 := Int32.toInt_inj.mp (e.trans (by decide))
    rw [this] at h; cases h
  · have : x = 98 := Int32.toInt_inj.mp (e.trans (by decide))
    rw [this] at h; cases h
  · have : x = 99 := Int32.toInt_inj.mp (e.trans (by decide))
    rw [this] at h; cases h
theorem dgq_n {x : Int32} (h : dgq x = none) : x.toInt < 50 ∨ 53 < x.toInt := by
  refine Classical.byContradiction fun z => ?_
  have e : x.toInt = 50 ∨ x.toInt = 51 ∨ x.toInt = 52 ∨ x.toInt = 53 := by omega
  rcases e with e | e | e | e
  · have : x = 50 := Int32.toInt_inj.mp (e.trans (by decide))
    rw [this] at h; cases h
  · have : x = 51 := Int32.toInt_inj.mp (e.trans (by decide))
    rw [this] at h; cases h
  · have : x = 52 := Int32.toInt_inj.mp (e.trans (by decide))
    rw [this] at h; cases h
  · have : x = 53 := Int32.toInt_inj.mp (e.trans (by decide))
    rw [this] at h; cases h
theorem wb_s (u : List Nat) (l : Nat) : wb (u ++ [l]) = 4 * wb u + l := by
  rw [wb_app, show ([l] : List Nat).length = 1 from rfl, Nat.pow_one, Nat.mul_comm]
  congr 1
  show l * 4 ^ 0 + 0 = l
  omega
section READC2
variable {X : mv_X} {d : Nat} {σ : mv_S} {Q : mv_Q} {N : Nat} {b : Nat → Int32}
theorem cR_one {c o p' x : Nat} {v : Nat → Nat → Bool} {τ : mv_S} (f : rdF c o σ τ) (h8 : τ.1 5 8 = nI p') (h5 : τ.1 5 5 = nI c) (h6 : τ.1 5 6 = nI o) (hc : c < 60) (hr : cR Q c o σ (Sum.inr (p', [x], v))) : mv_wp X (d + 1) 43 [.ref 5, .int (nI x)] τ (fun r3 σ3 => r3 = none ∧ (((1 : Int32) = (0 : Int32) ∨ (1 : Int32) = (1 : Int32)) ∧ Q (some (.int 1)) σ3)) := by
  refine c_emit h5 hc ⟨rfl, Or.inr rfl, hr _ ⟨fun y j q1 q2 q3 => by rw [mv_rn (by omega), mv_rn (by omega)]; exact f.1 y j q1 q2 q3, f.2⟩ ?_ ?_ ?_ (fun i hi => ?_)⟩
  · rw [mv_rn (by omega), mv_rn (by omega)]; exact h8
  · rw [mv_rd]; rfl
  · rw [mv_rn (by omega), mv_rn (by omega)]; exact h6
  · have hi : i < 1 := hi
    obtain rfl : i = 0 := by omega
    rw [mv_rn (by omega), Nat.add_zero, mv_rd]; rfl
theorem cR_no {c o f : Nat} {τ : mv_S} (fr : rdF c o σ τ) (h8 : τ.1 5 8 = nI f) (h6 : τ.1 5 6 = nI o) (hr : cR Q c o σ (Sum.inl (f, []))) : mv_wp X (d + 1) 44 [.ref 5] τ (fun r σ => ∃ v, r = some (.int v) ∧ ((v = (0 : Int32) ∨ v = (1 : Int32)) ∧ Q (some (.int v)) σ)) := by
  refine c_refuse ⟨_, rfl, Or.inl rfl, hr _ (rdF_tr fr (P_5 (by omega)) (Nat.le_refl _) (Nat.le_refl _)) ?_ ?_ (fun i hi => absurd hi (Nat.not_lt_zero _))⟩
  · rw [mv_rd]; exact h8
  · rw [mv_rn (by omega)]; exact h6
theorem c_letters {kd p c o : Nat} (hk : 5 ≤ kd ∧ kd ≤ 8) (hN : cst N b σ) (ps : cPos p c o σ) (cp : c ≤ p) (pN : p < N) (hr : cR Q c o σ (lettP (pkb N b) kd p)) : mv_wp X (d + 2) 41 [.ref 5, .int (nI kd)] σ Q := by
  have h60 := hN.1
  have lo := ltr_ok (pkb_k N b) 3 (p + 1) [] (by omega) (fun l hl => absurd hl (List.not_mem_nil))
  unfold lettP at hr
  have loop : ∀ f (τ : mv_S) q ls, ls.length + f = 3 → q = p + 1 + ls.length → q ≤ N → (∀ l, l ∈ ls → l < 3) → rdF c o σ τ → cPos q c o τ → ltr (pkb N b) 3 (p + 1) [] = ltr (pkb N b) f q ls → mv_wf X (mv_wp X (d + 1)) m_Reader_readLetters Q 14 [.ref 5, .int (nI kd), .int (nI ls.length), .int (nI (wb ls))] [] τ := by
    intro f
    have fin : ∀ (τ : mv_S) q ls, ls.length ≤ 3 → q = p + 1 + ls.length → (∀ l, l ∈ ls → l < 3) → rdF c o σ τ → cPos q c o τ → ltr (pkb N b) 3 (p + 1) [] = (q, ls) →
        (¬ nI ls.length = 0 → mv_wp X (d + 1) 24 [.int (nI kd), .int (nI ls.length), .int (nI (wb ls))] τ (fun r1 σ1 => ∃ v1, r1 = some (.int v1) ∧ (mv_sh 5 = 7 ∧ mv_wp X (d + 1) 43 [.ref 5, .int v1] σ1 (fun r2 σ2 => r2 = none ∧ (((1 : Int32) = (0 : Int32) ∨ (1 : Int32) = (1 : Int32)) ∧ Q (some (.int 1)) σ2))))) ∧
        (nI ls.length = 0 → mv_sh 5 = 7 ∧ mv_wp X (d + 1) 44 [.ref 5] τ (fun r3 σ3 => ∃ v3, r3 = some (.int v3) ∧ ((v3 = (0 : Int32) ∨ v3 = (1 : Int32)) ∧ Q (some (.int v3)) σ3))) := by
      intro τ q ls h3 hq hl fr ps e
      rw [e] at hr
      have z : nI ls.length = 0 ↔ ls.length = 0 := q_inj (b := 0) (by omega) (by omega)
      rw [z]
      by_cases el : ls = []
      · subst el
        rw [if_pos rfl] at hr
        obtain rfl : q = p + 1 := hq
        exact ⟨fun y => absurd rfl y, fun _ => ⟨rfl, cR_no fr ps.1 ps.2.2 hr⟩⟩
      · have ne : ¬ ls.length = 0 := fun y => el (List.eq_nil_of_length_eq_zero y)
        dsimp only at hr
        rw [if_neg el] at hr
        refine ⟨fun _ => (w_Formula_atom _ _ _ _ _ _ _).mpr ⟨_, rfl, rfl, ?_⟩, fun y => absurd y ne⟩
        have hw : wb ls < 64 := Nat.lt_of_lt_of_le (wb_lt ls hl) (Nat.pow_le_pow_right (n := 4) (by decide) h3)
        have code : (nI kd ||| (nI ls.length <<< ((4 : Int32) &&& 31))) ||| (nI (wb ls) <<< ((8 : Int32) &&& 31)) = nI (lcode kd ls) := by
          rw [show nI ls.length <<< ((4 : Int32) &&& 31) = nI (ls.length * 2 ^ 4) from q_shl (k := 4) (by omega) (by omega), show nI (wb ls) <<< ((8 : Int32) &&& 31) = nI (wb ls * 2 ^ 8) from q_shl (k := 8) (by omega) (by omega), fa_or, fa_or]
          congr 1
          have e1 := Nat.two_pow_add_eq_or_of_lt (i := 4) (b := kd) (by omega) ls.length
          have e2 := Nat.two_pow_add_eq_or_of_lt (i := 8) (b := 2 ^ 4 * ls.length + kd) (by omega) (wb ls)
          rw [Nat.mul_comm ls.length, Nat.mul_comm (wb ls), Nat.or_comm kd, ← e1, Nat.or_comm, ← e2]
          unfold lcode
          omega
        rw [code]
        exact cR_one fr ps.1 ps.2.1 ps.2.2 (by omega) hr
    induction f with
    | zero =>
      intro τ q ls h3 hq qN hl fr ps e
      exact h_Reader_readLetters_14 ⟨fun _ => fin τ q ls (by omega) hq hl fr ps e, fun z => absurd (nI_le (a := 3) (by omega) (by omega)) z⟩
    | succ f ih =>
      intro τ q ls h3 hq qN hl fr ps e
      have hT := cst_P hN fr
      refine h_Reader_readLetters_14 ⟨fun z => absurd z (nI_ge (b := 3) (by omega) (by omega)), fun _ => ⟨rfl, c_peek hT ps.1 qN ⟨_, rfl, ?_⟩⟩⟩
      unfold ltr at e
      cases el : ltq (pkb N b q) with
      | none =>
        rw [el] at e
        have stop := fin τ q ls (by omega) hq hl fr ps e
        refine ⟨fun _ => stop, fun z => ⟨rfl, c_peek hT ps.1 qN ⟨_, rfl, fun _ => stop, fun y => ?_⟩⟩⟩
        rw [fa_lt, show (97 : Int32).toInt = 97 by decide] at z
        rw [fa_lt, show (99 : Int32).toInt = 99 by decide] at y
        rcases ltq_n el with w | w <;> omega
      | some l =>
        rw [el] at e
        obtain ⟨l1, l2⟩ := ltq_s el
        have hqN : q < N := pq_in (pkb_k N b) l2 (by
          intro z
          have : (nI (97 + l)).toInt = -1 := by rw [← z]; decide
          rw [nI_toInt (by omega)] at this
          omega)
        rw [l2]
        refine ⟨fun z => absurd z (nI_nlt (b := 97) (by omega) (by omega)), fun _ => ⟨rfl, c_peek hT ps.1 qN ⟨_, rfl, fun z => ?_, fun _ => ⟨rfl, c_peek hT ps.1 qN ⟨_, rfl, rfl, rfl, ?_⟩⟩⟩⟩⟩
        · rw [l2] at z
          exact absurd z (nI_nlt (a := 99) (by omega) (by omega))
        · rw [l2, ps.1, nI_1, nI_1]
          have hw : wb ls < 64 := Nat.lt_of_lt_of_le (wb_lt ls hl) (Nat.le_trans (Nat.pow_le_pow_right (n := 4) (by decide) (show ls.length ≤ 3 by omega)) (by decide))
          have e3 : (nI (wb ls) <<< ((2 : Int32) &&& 31)) ||| (nI (97 + l) - 97) = nI (wb (ls ++ [l])) := by
            rw [show nI (wb ls) <<< ((2 : Int32) &&& 31) = nI (wb ls * 2 ^ 2) from q_shl (k := 2) (by omega) (by omega), show nI (97 + l) - 97 = nI (97 + l - 97) from pk_sub (b := 97) (by omega), Nat.mul_comm, fa_or_sum (k := 2) (wb ls) (by omega), wb_s]
            congr 1
            omega
          rw [e3, ← ln_s ls l]
          exact ih _ (q + 1) (ls ++ [l]) (by rw [ln_s]; omega) (by rw [ln_s]; omega) (by omega) (fun x hx => by
            rcases List.mem_append.mp hx with hx | hx
            · exact hl x hx
            · rw [List.mem_singleton.mp hx]; exact l1) (rdF_tr fr (P_5 (by omega)) (Nat.le_refl _) (Nat.le_refl _)) ⟨mv_rd, by rw [mv_rn (by omega)]; exact ps.2.1, by rw [mv_rn (by omega)]; exact ps.2.2⟩ e
  refine w_Reader_readLetters ⟨rfl, rfl, ?_⟩
  rw [ps.1, nI_1]
  exact loop 3 _ (p + 1) [] rfl rfl (by omega) (fun l hl => absurd hl (List.not_mem_nil)) (P_5 (by omega)) ⟨mv_rd, by rw [mv_rn (by omega)]; exact ps.2.1, by rw [mv_rn (by omega)]; exact ps.2.2⟩ rfl
theorem c_mult {p c o : Nat} (hN : cst N b σ) (ps : cPos p c o σ) (cp : c ≤ p) (pN : p < N) (hr : cR Q c o σ (multP (pkb N b) p)) : mv_wp X (d + 2) 40 [.ref 5] σ Q := by
  have h60 := hN.1
  refine (w_Reader_readMultiple _ _ _ _).mpr ⟨rfl, rfl, rfl, ?_⟩
  rw [ps.1, nI_1]
  have fr : rdF c o σ (mv_pi σ 5 8 (nI (p + 1))) := P_5 (by omega)
  have q1 : (mv_pi σ 5 8 (nI (p + 1))).1 5 5 = nI c := by rw [mv_rn (by omega)]; exact ps.2.1
  have q2 : (mv_pi σ 5 8 (nI (p + 1))).1 5 6 = nI o := by rw [mv_rn (by omega)]; exact ps.2.2
  refine c_peek (cst_P hN fr) mv_rd (by omega) ⟨_, rfl, ?_⟩
  unfold multP at hr
  cases e : dgq (pkb N b (p + 1)) with
  | none =>
    rw [e] at hr
    have stop := cR_no (X := X) (d := d) fr mv_rd q2 hr
    refine ⟨fun _ => ⟨rfl, stop⟩, fun z => ⟨fun y => ?_, fun _ => ⟨rfl, stop⟩⟩⟩
    rw [fa_lt, show (50 : Int32).toInt = 50 by decide] at z
    rw [fa_le, show (53 : Int32).toInt = 53 by decide] at y
    rcases dgq_n e with w | w <;> omega
  | some k =>
    rw [e] at hr
    obtain ⟨k1, k2, k3⟩ := dgq_s e
    rw [k3]
    refine ⟨fun z => absurd z (nI_nlt (b := 50) (by omega) (by omega)), fun _ => ⟨fun _ => ⟨rfl, rfl, ?_⟩, fun z => absurd (nI_le (b := 53) (by omega) (by omega)) z⟩⟩
    rw [mv_rd, nI_1]
    refine (w_Formula_atom _ _ _ _ _ _ _).mpr ⟨_, rfl, rfl, ?_⟩
    have code : ((4 : Int32) ||| ((nI (48 + k) - 48) <<< ((4 : Int32) &&& 31))) ||| ((0 : Int32) <<< ((8 : Int32) &&& 31)) = nI (4 + 16 * k) := by
      rw [show nI (48 + k) - 48 = nI (48 + k - 48) from pk_sub (b := 48) (by omega), show 48 + k - 48 = k by omega, show nI k <<< ((4 : Int32) &&& 31) = nI (k * 2 ^ 4) from q_shl (k := 4) (by omega) (by omega), show (0 : Int32) <<< ((8 : Int32) &&& 31) = 0 by decide, Int32.or_zero, show (4 : Int32) = nI 4 from rfl, fa_or]
      congr 1
      have e1 := Nat.two_pow_add_eq_or_of_lt (i := 4) (b := 4) (by omega) k
      rw [Nat.mul_comm k, Nat.or_comm, ← e1]
      omega
    rw [code]
    have fr2 : rdF c o σ (mv_pi (mv_pi σ 5 8 (nI (p + 1))) 5 8 (nI (p + 1 + 1))) := rdF_tr fr (P_5 (by omega)) (Nat.le_refl _) (Nat.le_refl _)
    exact cR_one fr2 mv_rd (by rw [mv_rn (by omega)]; exact q1) (by rw [mv_rn (by omega)]; exact q2) (by omega) hr
theorem c_atom {p c o : Nat} (hN : cst N b σ) (ps : cPos p c o σ) (cp : c ≤ p) (pN : p ≤ N) (hr : cR Q c o σ (atomP (pkb N b) p)) : mv_wp X (d + 3) 39 [.ref 5] σ Q := by
  have h60 := hN.1
  refine (w_Reader_readAtom _ _ _ _).mpr ⟨rfl, c_peek hN ps.1 pN ⟨_, rfl, ?_⟩⟩
  unfold atomP at hr
  have cq : ∀ (r : fR), cR Q c o σ r → cR (fun r2 σ2 => ∃ v2, r2 = some (.int v2) ∧ ((v2 = (0 : Int32) ∨ v2 = (1 : Int32)) ∧ Q (some (.int v2)) σ2)) c o σ r := by
    intro r h
    rcases r with ⟨f, os⟩ | ⟨p', a, v⟩
    · exact fun τ t1 t2 t3 t4 => ⟨_, rfl, Or.inl rfl, h τ t1 t2 t3 t4⟩
    · exact fun τ t1 t2 t3 t4 t5 => ⟨_, rfl, Or.inr rfl, h τ t1 t2 t3 t4 t5⟩
  by_cases e1 : pkb N b p = 35
  · rw [if_pos e1] at hr
    exact ⟨fun _ => ⟨rfl, c_letters (kd := 7) (by decide) hN ps cp (pq_in (pkb_k N b) e1 (by decide)) (cq _ hr)⟩, fun z => absurd e1 z⟩
  rw [if_neg e1] at hr
  refine ⟨fun z => absurd z e1, fun _ => ?_⟩
  by_cases e2 : pkb N b p = 36
  · rw [if_pos e2] at hr
    exact ⟨fun _ => ⟨rfl, c_letters (kd := 6) (by decide) hN ps cp (pq_in (pkb_k N b) e2 (by decide)) (cq _ hr)⟩, fun z => absurd e2 z⟩
  rw [if_neg e2] at hr
  refine ⟨fun z => absurd z e2, fun _ => ?_⟩
  by_cases e3 : pkb N b p = 37
  · rw [if_pos e3] at hr
    exact ⟨fun _ => ⟨rfl, c_mult hN ps cp (pq_in (pkb_k N b) e3 (by decide)) (cq _ hr)⟩, fun z => absurd e3 z⟩
  rw [if_neg e3] at hr
  refine ⟨fun z => absurd z e3, fun _ => ?_⟩
  by_cases e4 : pkb N b p = 94
  · rw [if_pos e4] at hr
    exact ⟨fun _ => ⟨rfl, c_letters (kd := 5) (by decide) hN ps cp (pq_in (pkb_k N b) e4 (by decide)) (cq _ hr)⟩, fun z => absurd e4 z⟩
  rw [if_neg e4] at hr
  refine ⟨fun z => absurd z e4, fun _ => ?_⟩
  by_cases e5 : pkb N b p = 101
  · rw [if_pos e5] at hr
    have hp := pq_in (pkb_k N b) e5 (by decide)
    refine ⟨fun _ => ⟨rfl, rfl, rfl, ?_⟩, fun z => absurd e5 z⟩
    rw [ps.1, nI_1]
    exact cR_one (x := 3) (P_5 (by omega)) mv_rd (by rw [mv_rn (by omega)]; exact ps.2.1) (by rw [mv_rn (by omega)]; exact ps.2.2) (by omega) hr
  rw [if_neg e5] at hr
  refine ⟨fun z => absurd z e5, fun _ => ?_⟩
  by_cases e6 : pkb N b p = 126
  · rw [if_pos e6] at hr
    exact ⟨fun _ => ⟨rfl, c_letters (kd := 8) (by decide) hN ps cp (pq_in (pkb_k N b) e6 (by decide)) (cq _ hr)⟩, fun z => absurd e6 z⟩
  rw [if_neg e6] at hr
  exact ⟨fun z => absurd z e6, fun _ => ⟨rfl, cR_no (rdF_rf _ _ _) ps.1 ps.2.2 hr⟩⟩
end READC2
