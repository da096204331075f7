/-! ===== known: the reference ===== -/
def rx (k v x : Nat) : Nat := 4 * kf k v (x / 4) + x % 4
def kb (c r : Nat) (P : Prop) (σ : mv_S) : Prop := (P → σ.1 c r = 1) ∧ (¬ P → σ.1 c r = 0)
def krP (k v : Nat) (S : bf_T) (E : Nat) (b : Bool) (h r : Nat) : Prop := ∃ i, i < h ∧ kf k v (S.2.1 i / 4) = r ∧ E.testBit (S.2.1 i % 4) = b
def frJ (σ τ : mv_S) : Prop := (∀ c j, ¬ (81 ≤ c ∧ c ≤ 84) → τ.1 c j = σ.1 c j) ∧ τ.2 = σ.2
theorem frJ_tr {a b c : mv_S} (h : frJ a b) (g : frJ b c) : frJ a c := ⟨fun x j q => (g.1 x j q).trans (h.1 x j q), g.2.trans h.2⟩
theorem frJ_rf {σ τ : mv_S} {m : Nat} {M : md_T} (h : frJ σ τ) (r : rf_M σ 62 m M) : rf_M τ 62 m M := ⟨(h.1 _ _ (by omega)).trans r.1, (h.1 _ _ (by omega)).trans r.2.1, (h.1 _ _ (by omega)).trans r.2.2.1, fun j hj => (h.1 _ _ (by omega)).trans (r.2.2.2 j hj)⟩
theorem nar22_1 : vp_nar (mv_ty 22) 1 = 1 := by decide
theorem nar22_0 : vp_nar (mv_ty 22) 0 = 0 := by decide
section RKNOWN
variable {X : mv_X} {d : Nat} {σ : mv_S} {Q : mv_Q} {k v : Nat} {M N : md_T}
theorem rx_inj {x y : Nat} (hk : k < 2) (hv : v < 3) (hx : kin k v (x / 4)) (hy : kin k v (y / 4)) (h : rx k v x = rx k v y) : x = y := by
  unfold rx at h
  have h1 : kf k v (x / 4) = kf k v (y / 4) := by omega
  have h2 := (kin_all hk hv hx).2.2.1
  rw [h1, (kin_all hk hv hy).2.2.1] at h2
  omega
theorem r_known {c l : Nat} (hk : k < 2) (hv : v < 3) (hin : kin k v c) (hl : l < 3) (hQ : Q (some (.int (nI (kf k v (kn k v c l))))) σ) : mv_wp X (d + 1) 204 [.int (nI (kf k v c)), .int (nI k), .int (nI v), .int (nI l)] σ Q := by
  rw [← ((kin_all hk hv hin).2.2.2 l hl).2.2] at hQ
  generalize nI (kf k v c) = x at *
  refine w_Ref_known ?_
  have hv2 : v = 0 ∨ v = 1 ∨ v = 2 := by omega
  have hk2 : k = 0 ∨ k = 1 := by omega
  rcases hv2 with rfl | rfl | rfl
  · exact ⟨fun z => absurd rfl z, fun _ => hQ⟩
  · exact ⟨fun _ => ⟨fun z => absurd rfl z, fun _ => hQ⟩, fun z => absurd z (by decide)⟩
  · refine ⟨fun _ => ⟨fun _ => ?_, fun z => absurd z (by decide)⟩, fun z => absurd z (by decide)⟩
    rcases hk2 with rfl | rfl
    · refine ⟨fun z => absurd rfl z, fun _ => ?_⟩
      have st : ∀ y a, y < 3 → mv_wf X (mv_wp X d) m_Ref_known Q 29 [.int x, .retAddr 0, .retAddr 0, .int (nI l), .int (krt x (nI l) y a), .int (nI (y + 1)), .retAddr 0] [] σ → mv_wf X (mv_wp X d) m_Ref_known Q 29 [.int x, .retAddr 0, .retAddr 0, .int (nI l), .int a, .int (nI y), .retAddr 0] [] σ := by
        intro y a hy hh
        refine h_Ref_known_29 ⟨fun z => absurd z (nI_ge (b := 3) (by omega) (by omega)), fun _ => ?_⟩
        rw [nI_1]
        exact hh
      refine st 0 _ (by omega) (st 1 _ (by omega) (st 2 _ (by omega) ?_))
      exact h_Ref_known_29 ⟨fun _ => hQ, fun z => absurd (by decide) z⟩
    · refine ⟨fun _ => ?_, fun z => absurd z (by decide)⟩
      have hQ : Q (some (.int (krN x (nI l)))) σ := hQ
      unfold krN at hQ
      by_cases e1 : ((x >>> (2 &&& 31)) &&& (3 : Int32)) ≤ 0
      · rw [if_pos e1] at hQ
        refine ⟨fun _ => ?_, fun z => absurd e1 z⟩
        by_cases e2 : (x &&& 3) ≤ 0
        · rw [if_pos e2] at hQ
          exact ⟨fun _ => hQ, fun z => absurd e2 z⟩
        · rw [if_neg e2] at hQ
          exact ⟨fun z => absurd z e2, fun _ => hQ⟩
      · rw [if_neg e1] at hQ
        refine ⟨fun z => absurd z e1, fun _ => ?_⟩
        by_cases e2 : (x &&& 3) ≤ 0
        · rw [if_pos e2] at hQ
          exact ⟨fun _ => hQ, fun z => absurd e2 z⟩
        · rw [if_neg e2] at hQ
          exact ⟨fun z => absurd z e2, fun _ => hQ⟩
/-- what stands in the reference's search -/
def kR (k v : Nat) (E : Nat) (S : bf_T) (h : Nat) (σ : mv_S) : Prop := (∀ i, i < S.1 → σ.1 82 i = nI (rx k v (S.2.1 i))) ∧ (∀ y, y < 32768 → kb 81 y (∃ i, i < S.1 ∧ rx k v (S.2.1 i) = y) σ) ∧ ∀ r, r < 8192 → kb 83 r (krP k v S E true h r) σ ∧ kb 84 r (krP k v S E false h r) σ
theorem kb_rn {c r c' r' : Nat} {P : Prop} {x : Int32} (h : kb c r P σ) (hn : ¬ (c = c' ∧ r = r')) : kb c r P (mv_pi σ c' r' x) := ⟨fun p => by rw [mv_rn hn]; exact h.1 p, fun p => by rw [mv_rn hn]; exact h.2 p⟩
theorem kb_cg {c r : Nat} {P P' : Prop} (h : kb c r P σ) (e : P ↔ P') : kb c r P' σ := ⟨fun p => h.1 (e.mpr p), fun p => h.2 (fun z => p (e.mp z))⟩
theorem kb_fr {c r : Nat} {P : Prop} {τ : mv_S} (h : kb c r P σ) (e : τ.1 c r = σ.1 c r) : kb c r P τ := ⟨fun p => e.trans (h.1 p), fun p => e.trans (h.2 p)⟩
theorem krP_cg {S S' : bf_T} {E h r : Nat} {b : Bool} (hh : ∀ i, i < h → S.2.1 i = S'.2.1 i) : krP k v S E b h r ↔ krP k v S' E b h r := by
  constructor
  · rintro ⟨i, hi, e1, e2⟩; exact ⟨i, hi, by rw [← hh i hi]; exact e1, by rw [← hh i hi]; exact e2⟩
  · rintro ⟨i, hi, e1, e2⟩; exact ⟨i, hi, by rw [hh i hi]; exact e1, by rw [hh i hi]; exact e2⟩
theorem krP_s {S : bf_T} {E h r : Nat} {b : Bool} : krP k v S E b (h + 1) r ↔ krP k v S E b h r ∨ (kf k v (S.2.1 h / 4) = r ∧ E.testBit (S.2.1 h % 4) = b) := by
  constructor
  · rintro ⟨i, hi, e⟩
    by_cases ei : i = h
    · rw [ei] at e; exact Or.inr e
    · exact Or.inl ⟨i, by omega, e⟩
  · rintro (⟨i, hi, e⟩ | e)
    · exact ⟨i, by omega, e⟩
    · exact ⟨h, by omega, e⟩
/-- one popped: the two marks of its sort -/
theorem r_marks {S : bf_T} {h m x p : Nat} (hm : m < 3) (hM : md_ok M) (hr : rf_M σ 62 m M) (hp : p < 4) (hx : x < 8192) (ex : kf k v (S.2.1 h / 4) = x) (ep : S.2.1 h % 4 = p)
    (H : ∀ r, r < 8192 → kb 83 r (krP k v S M.2.2.1 true h r) σ ∧ kb 84 r (krP k v S M.2.2.1 false h r) σ)
    (W : mv_S → Prop) (hW : ∀ τ, (∀ c j, ¬ c = 83 → ¬ c = 84 → τ.1 c j = σ.1 c j) → τ.2 = σ.2 → (∀ r, r < 8192 → kb 83 r (krP k v S M.2.2.1 true (h + 1) r) τ ∧ kb 84 r (krP k v S M.2.2.1 false (h + 1) r) τ) → W τ) :
    mv_sh 61 = 12 ∧ mv_sh 61 = 12 ∧ (mv_sh 83 = 22 ∧ (mv_sh 83 = 21 ∨ mv_sh 83 = 22) ∧ vp_in (nI x) (mv_ln 83)) ∧
      (¬ σ.1 83 x = 0 → (mv_sh 83 = 22 ∧ (mv_sh 83 = 21 ∨ mv_sh 83 = 22) ∧ vp_in (nI x) (mv_ln 83)) ∧ mv_sh 61 = 12 ∧ mv_sh 61 = 12 ∧ (mv_sh 84 = 22 ∧ (mv_sh 84 = 21 ∨ mv_sh 84 = 22) ∧ vp_in (nI x) (mv_ln 84)) ∧
        (¬ (mv_pi σ 83 x (vp_nar (mv_ty 22) 1)).1 84 x = 0 → (mv_sh 84 = 22 ∧ (mv_sh 84 = 21 ∨ mv_sh 84 = 22) ∧ vp_in (nI x) (mv_ln 84)) ∧ W (mv_pi (mv_pi σ 83 x (vp_nar (mv_ty 22) 1)) 84 x (vp_nar (mv_ty 22) 1))) ∧
        ((mv_pi σ 83 x (vp_nar (mv_ty 22) 1)).1 84 x = 0 → mv_sh 61 = 12 ∧ mv_wp X (d + 1) 155 [.ref 61, .int (nI m), .int (nI p)] (mv_pi σ 83 x (vp_nar (mv_ty 22) 1)) (fun r1 σ1 => ∃ v1, r1 = some (.int v1) ∧ (¬ v1 = 0 → (mv_sh 84 = 22 ∧ (mv_sh 84 = 21 ∨ mv_sh 84 = 22) ∧ vp_in (nI x) (mv_ln 84)) ∧ W (mv_pi σ1 84 x (vp_nar (mv_ty 22) 0))) ∧ (v1 = 0 → (mv_sh 84 = 22 ∧ (mv_sh 84 = 21 ∨ mv_sh 84 = 22) ∧ vp_in (nI x) (mv_ln 84)) ∧ W (mv_pi σ1 84 x (vp_nar (mv_ty 22) 1)))))) ∧
      (σ.1 83 x = 0 → mv_sh 61 = 12 ∧ mv_wp X (d + 1) 155 [.ref 61, .int (nI m), .int (nI p)] σ (fun r2 σ2 => ∃ v2, r2 = some (.int v2) ∧
        (v2 = 0 → (mv_sh 83 = 22 ∧ (mv_sh 83 = 21 ∨ mv_sh 83 = 22) ∧ vp_in (nI x) (mv_ln 83)) ∧ mv_sh 61 = 12 ∧ mv_sh 61 = 12 ∧ (mv_sh 84 = 22 ∧ (mv_sh 84 = 21 ∨ mv_sh 84 = 22) ∧ vp_in (nI x) (mv_ln 84)) ∧
          (¬ (mv_pi σ2 83 x (vp_nar (mv_ty 22) 0)).1 84 x = 0 → (mv_sh 84 = 22 ∧ (mv_sh 84 = 21 ∨ mv_sh 84 = 22) ∧ vp_in (nI x) (mv_ln 84)) ∧ W (mv_pi (mv_pi σ2 83 x (vp_nar (mv_ty 22) 0)) 84 x (vp_nar (mv_ty 22) 1))) ∧
          ((mv_pi σ2 83 x (vp_nar (mv_ty 22) 0)).1 84 x = 0 → mv_sh 61 = 12 ∧ mv_wp X (d + 1) 155 [.ref 61, .int (nI m), .int (nI p)] (mv_pi σ2 83 x (vp_nar (mv_ty 22) 0)) (fun r1 σ1 => ∃ v1, r1 = some (.int v1) ∧ (¬ v1 = 0 → (mv_sh 84 = 22 ∧ (mv_sh 84 = 21 ∨ mv_sh 84 = 22) ∧ vp_in (nI x) (mv_ln 84)) ∧ W (mv_pi σ1 84 x (vp_nar (mv_ty 22) 0))) ∧ (v1 = 0 → (mv_sh 84 = 22 ∧ (mv_sh 84 = 21 ∨ mv_sh 84 = 22) ∧ vp_in (nI x) (mv_ln 84)) ∧ W (mv_pi σ1 84 x (vp_nar (mv_ty 22) 1)))))) ∧
        (¬ v2 = 0 → (mv_sh 83 = 22 ∧ (mv_sh 83 = 21 ∨ mv_sh 83 = 22) ∧ vp_in (nI x) (mv_ln 83)) ∧ mv_sh 61 = 12 ∧ mv_sh 61 = 12 ∧ (mv_sh 84 = 22 ∧ (mv_sh 84 = 21 ∨ mv_sh 84 = 22) ∧ vp_in (nI x) (mv_ln 84)) ∧
          (¬ (mv_pi σ2 83 x (vp_nar (mv_ty 22) 1)).1 84 x = 0 → (mv_sh 84 = 22 ∧ (mv_sh 84 = 21 ∨ mv_sh 84 = 22) ∧ vp_in (nI x) (mv_ln 84)) ∧ W (mv_pi (mv_pi σ2 83 x (vp_nar (mv_ty 22) 1)) 84 x (vp_nar (mv_ty 22) 1))) ∧
          ((mv_pi σ2 83 x (vp_nar (mv_ty 22) 1)).1 84 x = 0 → mv_sh 61 = 12 ∧ mv_wp X (d + 1) 155 [.ref 61, .int (nI m), .int (nI p)] (mv_pi σ2 83 x (vp_nar (mv_ty 22) 1)) (fun r1 σ1 => ∃ v1, r1 = some (.int v1) ∧ (¬ v1 = 0 → (mv_sh 84 = 22 ∧ (mv_sh 84 = 21 ∨ mv_sh 84 = 22) ∧ vp_in (nI x) (mv_ln 84)) ∧ W (mv_pi σ1 84 x (vp_nar (mv_ty 22) 0))) ∧ (v1 = 0 → (mv_sh 84 = 22 ∧ (mv_sh 84 = 21 ∨ mv_sh 84 = 22) ∧ vp_in (nI x) (mv_ln 84)) ∧ W (mv_pi σ1 84 x (vp_nar (mv_ty 22) 1)))))))) := by
  have v83 : mv_sh 83 = 22 ∧ (mv_sh 83 = 21 ∨ mv_sh 83 = 22) ∧ vp_in (nI x) (mv_ln 83) := ⟨rfl, Or.inr rfl, vp_in_nI (N := 8192) (by omega) (by omega)⟩
  have v84 : mv_sh 84 = 22 ∧ (mv_sh 84 = 21 ∨ mv_sh 84 = 22) ∧ vp_in (nI x) (mv_ln 84) := ⟨rfl, Or.inr rfl, vp_in_nI (N := 8192) (by omega) (by omega)⟩
  rw [nar22_1, nar22_0]
  -- the second mark, whatever the first
  have second : ∀ a : Int32, (krP k v S M.2.2.1 true h x ∨ M.2.2.1.testBit p = true → a = 1) → (¬ (krP k v S M.2.2.1 true h x ∨ M.2.2.1.testBit p = true) → a = 0) →
      (¬ (mv_pi σ 83 x a).1 84 x = 0 → (mv_sh 84 = 22 ∧ (mv_sh 84 = 21 ∨ mv_sh 84 = 22) ∧ vp_in (nI x) (mv_ln 84)) ∧ W (mv_pi (mv_pi σ 83 x a) 84 x 1)) ∧
      ((mv_pi σ 83 x a).1 84 x = 0 → mv_sh 61 = 12 ∧ mv_wp X (d + 1) 155 [.ref 61, .int (nI m), .int (nI p)] (mv_pi σ 83 x a) (fun r1 σ1 => ∃ v1, r1 = some (.int v1) ∧ (¬ v1 = 0 → (mv_sh 84 = 22 ∧ (mv_sh 84 = 21 ∨ mv_sh 84 = 22) ∧ vp_in (nI x) (mv_ln 84)) ∧ W (mv_pi σ1 84 x 0)) ∧ (v1 = 0 → (mv_sh 84 = 22 ∧ (mv_sh 84 = 21 ∨ mv_sh 84 = 22) ∧ vp_in (nI x) (mv_ln 84)) ∧ W (mv_pi σ1 84 x 1)))) := by
    intro a a1 a0
    have fin : ∀ b : Int32, (krP k v S M.2.2.1 false h x ∨ M.2.2.1.testBit p = false → b = 1) → (¬ (krP k v S M.2.2.1 false h x ∨ M.2.2.1.testBit p = false) → b = 0) → W (mv_pi (mv_pi σ 83 x a) 84 x b) := by
      intro b hb1 hb0
      refine hW _ (fun c j q1 q2 => by rw [mv_rn (by omega), mv_rn (by omega)]) rfl (fun r hr8 => ?_)
      have iff : ∀ bb, krP k v S M.2.2.1 bb (h + 1) r ↔ krP k v S M.2.2.1 bb h r ∨ (x = r ∧ M.2.2.1.testBit p = bb) := fun bb => by rw [krP_s, ex, ep]
      unfold kb
      rw [iff, iff]
      by_cases e : r = x
      · subst e
        rw [mv_rn (by omega), mv_rd, mv_rd]
        exact ⟨⟨fun z => a1 (z.imp id And.right), fun z => a0 (fun y => z (y.imp id (fun w => ⟨rfl, w⟩)))⟩, ⟨fun z => hb1 (z.imp id And.right), fun z => hb0 (fun y => z (y.imp id (fun w => ⟨rfl, w⟩)))⟩⟩
      · rw [mv_rn (by omega), mv_rn (by omega), mv_rn (by omega), mv_rn (by omega)]
        have hh := H r hr8
        exact ⟨⟨fun z => hh.1.1 (z.elim id (fun w => absurd w.1.symm e)), fun z => hh.1.2 (fun y => z (Or.inl y))⟩, ⟨fun z => hh.2.1 (z.elim id (fun w => absurd w.1.symm e)), fun z => hh.2.2 (fun y => z (Or.inl y))⟩⟩
    have hh := (H x hx).2
    rw [mv_rn (by omega)]
    refine ⟨fun z => ⟨v84, fin 1 (fun _ => rfl) (fun w => ?_)⟩, fun z => ⟨rfl, ?_⟩⟩
    · exact absurd (hh.2 (fun y => w (Or.inl y))) z
    · have np : ¬ krP k v S M.2.2.1 false h x := fun y => by rw [hh.1 y] at z; exact absurd z (by decide)
      have hr' : rf_M (mv_pi σ 83 x a) 62 m M := ⟨by rw [mv_rn (by omega)]; exact hr.1, by rw [mv_rn (by omega)]; exact hr.2.1, by rw [mv_rn (by omega)]; exact hr.2.2.1, fun j hj => by rw [mv_rn (by omega)]; exact hr.2.2.2 j hj⟩
      refine r_isEndM hm hM hr' hp ⟨_, rfl, ?_⟩
      by_cases e : M.2.2.1.testBit p = true
      · rw [if_pos e]
        refine ⟨fun _ => ⟨v84, fin 0 (fun w => ?_) (fun _ => rfl)⟩, fun z => absurd z (by decide)⟩
        rcases w with w | w
        · exact absurd w np
        · rw [e] at w; exact absurd w (by decide)
      · rw [if_neg e]
        exact ⟨fun z => absurd rfl z, fun _ => ⟨v84, fin 1 (fun _ => rfl) (fun w => absurd (Or.inr (eq_false_of_ne_true e)) w)⟩⟩
  have hh := (H x hx).1
  refine ⟨rfl, rfl, v83, fun z => ⟨v83, rfl, rfl, v84, second 1 (fun _ => rfl) (fun w => ?_)⟩, fun z => ⟨rfl, ?_⟩⟩
  · exact absurd (hh.2 (fun y => w (Or.inl y))) z
  · have np : ¬ krP k v S M.2.2.1 true h x := fun y => by rw [hh.1 y] at z; exact absurd z (by decide)
    refine r_isEndM hm hM hr hp ⟨_, rfl, ?_⟩
    by_cases e : M.2.2.1.testBit p = true
    · rw [if_pos e]
      exact ⟨fun z => absurd z (by decide), fun _ => ⟨v83, rfl, rfl, v84, second 1 (fun _ => rfl) (fun w => absurd (Or.inr e) w)⟩⟩
    · rw [if_neg e]
      refine ⟨fun _ => ⟨v83, rfl, rfl, v84, second 0 (fun w => ?_) (fun _ => rfl)⟩, fun z => absurd rfl z⟩
      rcases w with w | w
      · exact absurd w np
      · exact absurd w e
end RKNOWN
