/-! ===== letters on the tape, letters of a word ===== -/
theorem wb_inj : ∀ (s t : List Nat), s.length = t.length → (∀ l, l ∈ s → l < 3) → (∀ l, l ∈ t → l < 3) → wb s = wb t → s = t
  | [], [], _, _, _, _ => rfl
  | [], b :: t, h, _, _, _ => absurd h (by intro z; cases z)
  | a :: s, [], h, _, _, _ => absurd h (by intro z; cases z)
  | a :: s, b :: t, h, hs, ht, e => by
    have hl : s.length = t.length := Nat.succ.inj h
    have h1 := wb_lt s (fun l hl => hs l (List.mem_cons_of_mem _ hl))
    have h2 := wb_lt t (fun l hl => ht l (List.mem_cons_of_mem _ hl))
    have e : a * 4 ^ s.length + wb s = b * 4 ^ t.length + wb t := e
    rw [← hl] at e h2
    have q1 : (a * 4 ^ s.length + wb s) / 4 ^ s.length = a := by
      rw [Nat.mul_comm, Nat.mul_add_div (Nat.pow_pos (by decide)), Nat.div_eq_of_lt h1, Nat.add_zero]
    have q2 : (b * 4 ^ s.length + wb t) / 4 ^ s.length = b := by
      rw [Nat.mul_comm, Nat.mul_add_div (Nat.pow_pos (by decide)), Nat.div_eq_of_lt h2, Nat.add_zero]
    rw [e, q2] at q1
    subst q1
    have : wb s = wb t := by omega
    rw [wb_inj s t hl (fun l hl => hs l (List.mem_cons_of_mem _ hl)) (fun l hl => ht l (List.mem_cons_of_mem _ hl)) this]
/-- the letters stand at a place -/
def stB (ls w : List Nat) (k : Nat) : Nat → Bool
  | 0 => true
  | i + 1 => stB ls w k i && decide (w.getD (k + i) 0 = ls.getD i 0)
theorem stB_iff {ls w : List Nat} {k : Nat} : ∀ m, stB ls w k m = true ↔ ∀ i, i < m → w.getD (k + i) 0 = ls.getD i 0
  | 0 => ⟨fun _ i hi => absurd hi (Nat.not_lt_zero _), fun _ => rfl⟩
  | m + 1 => by
    show (stB ls w k m && decide (w.getD (k + m) 0 = ls.getD m 0)) = true ↔ _
    rw [Bool.and_eq_true, decide_eq_true_eq, stB_iff m]
    constructor
    · rintro ⟨h1, h2⟩ i hi
      by_cases e : i = m
      · rw [e]; exact h2
      · exact h1 i (by omega)
    · exact fun h => ⟨fun i hi => h i (by omega), h m (by omega)⟩
theorem gd_eq {u v : List Nat} (h : u.length = v.length) (e : ∀ i, i < u.length → u.getD i 0 = v.getD i 0) : u = v := by
  refine List.ext_getElem h (fun i h1 h2 => ?_)
  have := e i h1
  rw [List.getD_eq_getElem?_getD, List.getD_eq_getElem?_getD, List.getElem?_eq_getElem h1, List.getElem?_eq_getElem h2] at this
  exact this
theorem sp3 {w : List Nat} {k m : Nat} (h : k + m ≤ w.length) : ∃ u s v, w = u ++ (s ++ v) ∧ u.length = k ∧ s.length = m ∧ v.length = w.length - k - m := by
  refine ⟨w.take k, (w.drop k).take m, (w.drop k).drop m, ?_, ?_, ?_, ?_⟩
  · rw [List.take_append_drop, List.take_append_drop]
  · rw [List.length_take]; omega
  · rw [List.length_take, List.length_drop]; omega
  · rw [List.length_drop, List.length_drop]
theorem stB_wb {ls w : List Nat} {k : Nat} (hk : k + ls.length ≤ w.length) (hw : ∀ l, l ∈ w → l < 3) (hl : ∀ l, l ∈ ls → l < 3) : stB ls w k ls.length = true ↔ wb w / 4 ^ (w.length - k - ls.length) % 4 ^ ls.length = wb ls := by
  obtain ⟨u, s, v, e, e1, e2, e3⟩ := sp3 hk
  have hs : ∀ l, l ∈ s → l < 3 := fun l h => hw l (by rw [e]; exact List.mem_append_right _ (List.mem_append_left _ h))
  have hv : ∀ l, l ∈ v → l < 3 := fun l h => hw l (by rw [e]; exact List.mem_append_right _ (List.mem_append_right _ h))
  have n1 : wb w / 4 ^ (w.length - k - ls.length) % 4 ^ ls.length = wb s := by
    have l1 := wb_lt v hv
    have l2 := wb_lt s hs
    rw [← e3, e, wb_app, wb_app, List.length_append, Nat.pow_add, ← Nat.mul_assoc, ← Nat.add_assoc, ← Nat.add_mul, Nat.add_comm, Nat.add_mul_div_right _ _ (Nat.pow_pos (by decide)), Nat.div_eq_of_lt l1, Nat.zero_add, ← e2, Nat.add_comm, Nat.add_mul_mod_self_right, Nat.mod_eq_of_lt l2]
  have g : ∀ i, i < ls.length → w.getD (k + i) 0 = s.getD i 0 := by
    intro i hi
    rw [e, gd_r (by omega), gd_l (by omega), show k + i - u.length = i by omega]
  rw [n1, stB_iff]
  constructor
  · intro h
    rw [gd_eq (u := s) (v := ls) e2 (fun i hi => by rw [← g i (by omega)]; exact h i (by omega))]
  · intro h i hi
    have : s = ls := wb_inj s ls e2 hs hl h
    rw [g i hi, this]
theorem besN_iff {L m : Nat} (hm : 1 ≤ m) : ∀ k r, besN L m k r = true ↔ ∃ e, m ≤ e ∧ e ≤ k ∧ r / 4 ^ (k - e) % 4 ^ m = L
  | 0, r => ⟨fun z => absurd z (by intro y; cases y), fun ⟨e, h1, h2, _⟩ => by omega⟩
  | k + 1, r => by
    show (if k + 1 < m then false else if r % 4 ^ m = L then true else besN L m k (r / 4)) = true ↔ _
    by_cases e1 : k + 1 < m
    · rw [if_pos e1]
      exact ⟨fun z => absurd z (by decide), fun ⟨e, h1, h2, _⟩ => by omega⟩
    rw [if_neg e1]
    by_cases e2 : r % 4 ^ m = L
    · rw [if_pos e2]
      exact ⟨fun _ => ⟨k + 1, by omega, Nat.le_refl _, by rw [Nat.sub_self, Nat.pow_zero, Nat.div_one]; exact e2⟩, fun _ => rfl⟩
    · rw [if_neg e2, besN_iff hm k (r / 4)]
      have st : ∀ e, e ≤ k → r / 4 / 4 ^ (k - e) = r / 4 ^ (k + 1 - e) := fun e he => by
        rw [Nat.div_div_eq_div_mul, show k + 1 - e = (k - e) + 1 by omega, Nat.pow_succ, Nat.mul_comm 4]
      constructor
      · rintro ⟨e, h1, h2, h3⟩
        exact ⟨e, h1, by omega, by rw [← st e h2]; exact h3⟩
      · rintro ⟨e, h1, h2, h3⟩
        by_cases ee : e = k + 1
        · rw [ee, Nat.sub_self, Nat.pow_zero, Nat.div_one] at h3; exact absurd h3 e2
        · exact ⟨e, h1, by omega, by rw [st e (by omega)]; exact h3⟩
/-- greedy from the left -/
def gre : List Nat → List Nat → Bool
  | [], _ => true
  | _ :: _, [] => false
  | a :: l, b :: w => if b = a then gre l w else gre (a :: l) w
theorem gre_sub : ∀ (w l : List Nat), gre l w = true ↔ List.Sublist l w
  | [], [] => ⟨fun _ => List.Sublist.slnil, fun _ => rfl⟩
  | [], a :: l => ⟨fun h => absurd h (by intro y; cases y), fun h => by cases h⟩
  | b :: w, [] => ⟨fun _ => List.nil_sublist _, fun _ => rfl⟩
  | b :: w, a :: l => by
    show (if b = a then gre l w else gre (a :: l) w) = true ↔ _
    by_cases e : b = a
    · rw [if_pos e, gre_sub w l, e]
      exact ⟨fun h => List.Sublist.cons_cons _ h, fun h => by
        cases h with
        | cons _ h => exact List.Sublist.trans (List.sublist_cons_self _ _) h
        | cons_cons _ h => exact h⟩
    · rw [if_neg e, gre_sub w (a :: l)]
      exact ⟨fun h => List.Sublist.cons _ h, fun h => by
        cases h with
        | cons _ h => exact h
        | cons_cons _ h => exact absurd rfl e⟩
theorem gre_long : ∀ (w l : List Nat), w.length < l.length → gre l w = false := fun w l h => by
  cases e : gre l w
  · rfl
  · have := List.Sublist.length_le ((gre_sub w l).mp e)
    omega
/-- numbers from the right: the word read backwards -/
def wbr : List Nat → Nat
  | [] => 0
  | a :: w => a + 4 * wbr w
theorem wbr_app : ∀ (u : List Nat) (a : Nat), wbr (u ++ [a]) = wbr u + a * 4 ^ u.length
  | [], a => by show a + 4 * 0 = 0 + a * 4 ^ 0; omega
  | x :: u, a => by
    show x + 4 * wbr (u ++ [a]) = x + 4 * wbr u + a * 4 ^ (u.length + 1)
    rw [wbr_app u a, Nat.pow_succ, ← Nat.mul_assoc]
    omega
theorem wbr_rev : ∀ w : List Nat, wbr w.reverse = wb w
  | [] => rfl
  | a :: w => by
    rw [List.reverse_cons, wbr_app, wbr_rev w, List.length_reverse]
    show _ = a * 4 ^ w.length + wb w
    omega
theorem sca_gre : ∀ (w l : List Nat), (∀ x, x ∈ w → x < 3) → (∀ x, x ∈ l → x < 3) → scaN w.length l.length (wbr l) (wbr w) = gre l w
  | [], [], _, _ => rfl
  | [], a :: l, _, _ => by
    show decide (l.length + 1 = 0) = false
    exact decide_eq_false (by omega)
  | b :: w, [], _, _ => by
    show (if w.length + 1 < 0 then false else if (0 : Nat) = 0 then true else _) = true
    rw [if_neg (by omega), if_pos rfl]
  | b :: w, a :: l, hw, hl => by
    have hb := hw b (List.mem_cons_self ..)
    have ha := hl a (List.mem_cons_self ..)
    show (if w.length + 1 < l.length + 1 then false else if l.length + 1 = 0 then true else if (b + 4 * wbr w) % 4 = (a + 4 * wbr l) % 4 then scaN w.length (l.length + 1 - 1) ((a + 4 * wbr l) / 4) ((b + 4 * wbr w) / 4) else scaN w.length (l.length + 1) (a + 4 * wbr l) ((b + 4 * wbr w) / 4)) = gre (a :: l) (b :: w)
    by_cases e1 : w.length + 1 < l.length + 1
    · rw [if_pos e1]
      exact (gre_long (b :: w) (a :: l) e1).symm
    rw [if_neg e1, if_neg (by omega), show (b + 4 * wbr w) % 4 = b by omega, show (a + 4 * wbr l) % 4 = a by omega, show (b + 4 * wbr w) / 4 = wbr w by omega, show (a + 4 * wbr l) / 4 = wbr l by omega, Nat.add_sub_cancel]
    show _ = (if b = a then gre l w else gre (a :: l) w)
    by_cases e2 : b = a
    · rw [if_pos e2, if_pos e2]
      exact sca_gre w l (fun x hx => hw x (List.mem_cons_of_mem _ hx)) (fun x hx => hl x (List.mem_cons_of_mem _ hx))
    · rw [if_neg e2, if_neg e2]
      exact sca_gre w (a :: l) (fun x hx => hw x (List.mem_cons_of_mem _ hx)) hl
theorem sca_eq {w l : List Nat} (hw : ∀ x, x ∈ w → x < 3) (hl : ∀ x, x ∈ l → x < 3) : scaN w.length l.length (wb l) (wb w) = gre l w := by
  have h := sca_gre w.reverse l.reverse (fun x hx => hw x (List.mem_reverse.mp hx)) (fun x hx => hl x (List.mem_reverse.mp hx))
  rw [List.length_reverse, List.length_reverse, wbr_rev, wbr_rev] at h
  rw [h]
  have i1 := gre_sub w.reverse l.reverse
  have i2 := gre_sub w l
  rw [List.reverse_sublist] at i1
  cases e1 : gre l.reverse w.reverse <;> cases e2 : gre l w
  · rfl
  · rw [e1] at i1; exact absurd (i1.mpr (i2.mp e2)) (by decide)
  · rw [e2] at i2; exact absurd (i2.mpr (i1.mp e1)) (by decide)
  · rfl
theorem ltr_at {N : Nat} {pk : Nat → Int32} (h : pkk N pk) (q : Nat) : ∀ f p a, p = q + a.length → (∀ i, i < a.length → pk (q + i) = nI (97 + a.getD i 0)) → (ltr pk f p a).1 = q + (ltr pk f p a).2.length ∧ ∀ i, i < (ltr pk f p a).2.length → pk (q + i) = nI (97 + (ltr pk f p a).2.getD i 0)
  | 0, p, a, hp, ha => ⟨hp, ha⟩
  | f + 1, p, a, hp, ha => by
    unfold ltr
    cases e : ltq (pk p) with
    | none => exact ⟨hp, ha⟩
    | some l =>
      obtain ⟨l1, l2⟩ := ltq_s e
      dsimp only
      refine ltr_at h q f (p + 1) (a ++ [l]) (by rw [ln_s]; omega) (fun i hi => ?_)
      rw [ln_s] at hi
      by_cases ei : i < a.length
      · rw [gd_l ei]; exact ha i ei
      · rw [gd_r (by omega), show i - a.length = 0 by omega, show q + i = p by omega]
        exact l2
