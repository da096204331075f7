/-! ===== reading, the reference ===== -/
def rst (N : Nat) (b : Nat → Int32) (w : List Nat) (σ : mv_S) : Prop := N ≤ 60 ∧ σ.1 61 45 = nI N ∧ (∀ j, j < N → σ.1 92 j = b j) ∧ rwd σ w ∧ wk w
def rPos (p : Nat) (os : List Nat) (σ : mv_S) : Prop := σ.1 61 46 = nI p ∧ σ.1 61 47 = -1 ∧ σ.1 61 49 = nI os.length ∧ ∀ i, i < os.length → σ.1 90 i = nI (os.getD i 0)
def rdR (o : Nat) (σ τ : mv_S) : Prop := (∀ c j, ¬ (c = 61 ∧ (j = 46 ∨ j = 47 ∨ j = 49)) → ¬ (c = 90 ∧ o ≤ j) → τ.1 c j = σ.1 c j) ∧ τ.2 = σ.2
def rdX (o : Nat) (σ τ : mv_S) : Prop := (∀ c j, ¬ (c = 61 ∧ (j = 46 ∨ j = 47 ∨ j = 49 ∨ j = 51)) → ¬ (c = 90 ∧ o ≤ j) → ¬ c = 91 → τ.1 c j = σ.1 c j) ∧ τ.2 = σ.2
theorem rdR_rf (o : Nat) (σ : mv_S) : rdR o σ σ := ⟨fun _ _ _ _ => rfl, rfl⟩
theorem rdR_tr {o o' : Nat} {a b c : mv_S} (h : rdR o a b) (g : rdR o' b c) (ho : o ≤ o') : rdR o a c := ⟨fun x j q1 q2 => (g.1 x j q1 (by omega)).trans (h.1 x j q1 q2), g.2.trans h.2⟩
theorem rdX_tr {o o' : Nat} {a b c : mv_S} (h : rdR o a b) (g : rdX o' b c) (ho : o ≤ o') : rdX o a c := ⟨fun x j q1 q2 q3 => (g.1 x j q1 (by omega) q3).trans (h.1 x j (by omega) q2), g.2.trans h.2⟩
theorem rst_R {N o : Nat} {b : Nat → Int32} {w : List Nat} {σ τ : mv_S} (h : rst N b w σ) (f : rdR o σ τ) : rst N b w τ := ⟨h.1, (f.1 _ _ (by omega) (by omega)).trans h.2.1, fun j hj => (f.1 _ _ (by omega) (by omega)).trans (h.2.2.1 j hj), rwd_fr h.2.2.2.1 (f.1 _ _ (by omega) (by omega)) (fun k => f.1 _ _ (by omega) (by omega)), h.2.2.2.2⟩
theorem R_46 {o : Nat} {σ : mv_S} {x : Int32} : rdR o σ (mv_pi σ 61 46 x) := ⟨fun c j q1 q2 => mv_rn (by omega), rfl⟩
def rR (Q : mv_Q) (os0 : List Nat) (σ : mv_S) (w : List Nat) : fR → Prop
  | Sum.inl (f, os) => ∀ τ (v : Int32), (v = (0 : Int32) ∨ v = (1 : Int32)) → rdX os0.length σ τ → τ.1 61 47 = nI f → τ.1 61 49 = nI os0.length → τ.1 61 51 = nI ((os0 ++ os).length + 2) → (∀ i, i < (os0 ++ os).length + 2 → τ.1 91 i = nI ((0 :: (os0 ++ os) ++ [f]).getD i 0)) → Q (some (.int v)) τ
  | Sum.inr (p', _, v) => ∀ τ, rdR os0.length σ τ → τ.1 61 46 = nI p' → τ.1 61 47 = -1 → τ.1 61 49 = nI os0.length → Q (some (.int (if v w.length (wb w) = true then 1 else 0))) τ
def spR (X : mv_X) (N : Nat) (b : Nat → Int32) (w : List Nat) (D m : Nat) (os0 : List Nat) (sub : Nat → fR) : Prop := ∀ (σ : mv_S) (Q : mv_Q) (p : Nat), rst N b w σ → rPos p os0 σ → p ≤ N → rR Q os0 σ w (sub p) → mv_wp X D m [.ref 61] σ Q
section READR
variable {X : mv_X} {d : Nat} {σ : mv_S} {Q : mv_Q} {N : Nat} {b : Nat → Int32} {w : List Nat}
theorem r_next {p : Nat} (h : rst N b w σ) (hp : σ.1 61 46 = nI p) (hN : p ≤ N) (hQ : Q (some (.int (pkb N b p))) σ) : mv_wp X (d + 1) 209 [.ref 61] σ Q := by
  obtain ⟨h1, h2, h3, _⟩ := h
  refine (w_Ref_next _ _ _ _).mpr ⟨rfl, rfl, ?_⟩
  rw [hp, h2]
  unfold pkb at hQ
  by_cases e : p < N
  · rw [if_pos e] at hQ
    refine ⟨fun z => absurd z (nI_ge e (by omega)), fun _ => ⟨rfl, rfl, ⟨rfl, vp_in_nI (N := 60) (by omega) (by omega)⟩, ?_⟩⟩
    rw [nI_clamp (by omega), h3 p e]
    exact hQ
  · rw [if_neg e] at hQ
    exact ⟨fun _ => hQ, fun z => absurd (nI_le (by omega) (by omega)) z⟩
theorem r_faulty {f : Nat} {os : List Nat} (h6 : os.length ≤ 6) (h47 : σ.1 61 47 = -1) (ho : σ.1 61 49 = nI os.length) (h90 : ∀ i, i < os.length → σ.1 90 i = nI (os.getD i 0)) (hQ : ∀ τ, (∀ x j, ¬ (x = 61 ∧ (j = 47 ∨ j = 51)) → ¬ x = 91 → τ.1 x j = σ.1 x j) → τ.2 = σ.2 → τ.1 61 47 = nI f → τ.1 61 51 = nI (os.length + 2) → (∀ i, i < os.length + 2 → τ.1 91 i = nI ((0 :: os ++ [f]).getD i 0)) → Q none τ) : mv_wp X (d + 1) 210 [.ref 61, .int (nI f)] σ Q := by
  have loop : ∀ r k (τ : mv_S), k + r = os.length → (∀ x j, ¬ (x = 61 ∧ j = 47) → ¬ x = 91 → τ.1 x j = σ.1 x j) → τ.2 = σ.2 → τ.1 61 47 = nI f → (∀ i, i < k + 1 → τ.1 91 i = nI ((0 :: os).getD i 0)) → mv_wf X (mv_wp X d) m_Ref_faulty Q 22 [.ref 61, .int (nI f), .int (nI k)] [] τ := by
    intro r
    induction r with
    | zero =>
      intro k τ hk t1 t2 t4 t3
      refine h_Ref_faulty_22 ⟨rfl, ?_⟩
      rw [t1 61 49 (by omega) (by omega), ho]
      refine ⟨fun _ => ⟨rfl, rfl, ?_⟩, fun z => absurd (nI_le (by omega) (by omega)) z⟩
      rw [nI_1, nI_clamp (by omega), mv_rn (by omega), t1 61 49 (by omega) (by omega), ho, show nI os.length + 2 = nI (os.length + 2) from nI_add _ 2]
      refine ⟨⟨rfl, vp_in_nI (N := 8) (by omega) (by omega)⟩, rfl, rfl, hQ _ (fun x j q1 q2 => by rw [mv_rn (by omega), mv_rn (by omega)]; exact t1 x j (by omega) q2) t2 ?_ mv_rd (fun i hi => ?_)⟩
      · rw [mv_rn (by omega), mv_rn (by omega)]; exact t4
      · have l1 : (0 :: os).length = os.length + 1 := rfl
        rw [mv_rn (by omega)]
        by_cases e : i < os.length + 1
        · rw [mv_rn (by omega), gd_l (by rw [l1]; exact e)]; exact t3 i (by omega)
        · rw [show i = os.length + 1 by omega, mv_rd, gd_r (by rw [l1]; omega), l1, Nat.sub_self]; rfl
    | succ r ih =>
      intro k τ hk t1 t2 t4 t3
      refine h_Ref_faulty_22 ⟨rfl, ?_⟩
      rw [t1 61 49 (by omega) (by omega), ho]
      refine ⟨fun z => absurd z (nI_ge (by omega) (by omega)), fun _ => ⟨rfl, rfl, ⟨rfl, vp_in_nI (N := 6) (by omega) (by omega)⟩, ?_⟩⟩
      rw [nI_1, nI_clamp (by omega), nI_clamp (by omega), t1 90 k (by omega) (by omega), h90 k (by omega)]
      refine ⟨⟨rfl, vp_in_nI (N := 8) (by omega) (by omega)⟩, ih (k + 1) _ (by omega) (fun x j q1 q2 => by rw [mv_rn (by omega)]; exact t1 x j q1 q2) t2 (by rw [mv_rn (by omega)]; exact t4) (fun i hi => ?_)⟩
      by_cases e : i = k + 1
      · rw [e, mv_rd]; rfl
      · rw [mv_rn (by omega)]; exact t3 i (by omega)
  refine w_Ref_faulty ⟨rfl, ?_⟩
  rw [h47]
  refine ⟨fun _ => ⟨rfl, rfl, ⟨rfl, vp_in_nI (N := 8) (n := 0) (by omega) (by omega)⟩, ?_⟩, fun z => absurd (by decide) z⟩
  rw [show (0 : Int32).toNatClampNeg = 0 from rfl]
  refine loop os.length 0 _ (by omega) (fun x j q1 q2 => by rw [mv_rn (by omega), mv_rn (by omega)]) rfl (by rw [mv_rn (by omega), mv_rd]) (fun i hi => ?_)
  obtain rfl : i = 0 := by omega
  rw [mv_rd]; rfl
theorem r_lpboth {sub : Nat → fR} {D dd H : Nat} {os0 : List Nat} (hok : ∀ p, p ≤ N → okR N dd H p (sub p)) (hs : spR X N b w (D + 1) 214 os0 sub) (hN : rst N b w σ) :
    ∀ f (τ : mv_S) p a v, 60 ≤ f + p → p ≤ N → rdR os0.length σ τ → rPos p os0 τ → rR Q os0 σ w (lpP sub 38 0 and (pkb N b) f p a v) → mv_wf X (mv_wp X (D + 1)) m_Ref_both Q 5 [.ref 61, .int (if v w.length (wb w) = true then 1 else 0), .retAddr 0] [] τ := by
  intro f
  have h60 := hN.1
  have stop : ∀ (τ : mv_S) p a v, p ≤ N → rdR os0.length σ τ → rPos p os0 τ → ¬ pkb N b p = 38 → rR Q os0 σ w (Sum.inr (p, a, v)) → mv_wf X (mv_wp X (D + 1)) m_Ref_both Q 5 [.ref 61, .int (if v w.length (wb w) = true then 1 else 0), .retAddr 0] [] τ := by
    intro τ p a v pN fr ps e hr
    refine h_Ref_both_5 ⟨rfl, ?_⟩
    rw [ps.2.1]
    refine ⟨fun z => absurd z (by decide), fun _ => ⟨rfl, r_next (rst_R hN fr) ps.1 pN ⟨_, rfl, fun _ => ⟨bI_01 _, hr τ fr ps.1 ps.2.1 ps.2.2.1⟩, fun z => absurd z e⟩⟩⟩
  induction f with
  | zero =>
    intro τ p a v hf pN fr ps hr
    refine stop τ p a v pN fr ps (fun z => ?_) hr
    have := pq_in (pkb_k N b) z (by decide)
    omega
  | succ f ih =>
    intro τ p a v hf pN fr ps hr
    unfold lpP at hr
    by_cases e : pkb N b p = 38
    case neg =>
      rw [if_neg e] at hr
      exact stop τ p a v pN fr ps e hr
    rw [if_pos e] at hr
    have hpN : p < N := pq_in (pkb_k N b) e (by decide)
    have hT := rst_R hN fr
    refine h_Ref_both_5 ⟨rfl, ?_⟩
    rw [ps.2.1]
    refine ⟨fun z => absurd z (by decide), fun _ => ⟨rfl, r_next hT ps.1 pN ⟨_, rfl, fun z => absurd e z, fun _ => ⟨rfl, rfl, rfl, ?_⟩⟩⟩⟩
    rw [ps.1, nI_1]
    have fr1 : rdR os0.length σ (mv_pi τ 61 46 (nI (p + 1))) := rdR_tr fr R_46 (Nat.le_refl _)
    have hsub := hok (p + 1) (by omega)
    refine hs _ _ (p + 1) (rst_R hN fr1) ⟨mv_rd, by rw [mv_rn (by omega)]; exact ps.2.1, by rw [mv_rn (by omega)]; exact ps.2.2.1, fun i hi => by rw [mv_rn (by omega)]; exact ps.2.2.2 i hi⟩ (by omega) ?_
    cases es : sub (p + 1) with
    | inl r =>
      rw [es] at hr hsub
      obtain ⟨g, os⟩ := r
      obtain ⟨s1, s2, s3, s4⟩ := hsub
      intro τ2 v2 hv f2 t1 t2 t3 t4
      have done : ∀ x : Int32, (x = (0 : Int32) ∨ x = (1 : Int32)) → mv_wf X (mv_wp X (D + 1)) m_Ref_both Q 5 [.ref 61, .int x, .retAddr 0] [] τ2 := by
        intro x hx
        refine h_Ref_both_5 ⟨rfl, ?_⟩
        rw [t1]
        exact ⟨fun _ => ⟨hx, hr τ2 x hx (rdX_tr fr1 f2 (Nat.le_refl _)) t1 t2 t3 t4⟩, fun z => absurd (nI_le (a := 0) (by omega) (by omega)) z⟩
      rcases hv with rfl | rfl
      · refine ⟨_, rfl, fun _ => done 0 (Or.inl rfl), fun _ => ⟨fun _ => done 0 (Or.inl rfl), fun _ => done 1 (Or.inr rfl)⟩⟩
      · refine ⟨_, rfl, fun _ => done 0 (Or.inl rfl), fun _ => ⟨fun _ => done 0 (Or.inl rfl), fun _ => done 1 (Or.inr rfl)⟩⟩
    | inr r =>
      rw [es] at hr hsub
      obtain ⟨p', a', v'⟩ := r
      obtain ⟨s1, s2, s3, s4, s5⟩ := hsub
      intro τ2 f2 t1 t2 t3
      have fr2 := rdR_tr fr1 f2 (Nat.le_refl _)
      have nx := ih τ2 p' _ _ (by omega) s2 fr2 ⟨t1, t2, t3, fun i hi => by rw [f2.1 90 i (by omega) (by omega), mv_rn (by omega)]; exact ps.2.2.2 i hi⟩ hr
      refine ⟨_, rfl, ?_⟩
      cases e1 : v w.length (wb w) <;> cases e2 : v' w.length (wb w) <;> rw [e1, e2] at nx
      · exact ⟨fun _ => nx, fun z => absurd rfl z⟩
      · exact ⟨fun _ => nx, fun z => absurd rfl z⟩
      · exact ⟨fun z => absurd z (by decide), fun _ => ⟨fun _ => nx, fun z => absurd rfl z⟩⟩
      · exact ⟨fun z => absurd z (by decide), fun _ => ⟨fun z => absurd z (by decide), fun _ => nx⟩⟩
theorem r_both {sub : Nat → fR} {D dd H : Nat} {os0 : List Nat} (hok : ∀ p, p ≤ N → okR N dd H p (sub p)) (hs : spR X N b w (D + 1) 214 os0 sub) : spR X N b w (D + 2) 212 os0 (bothP (pkb N b) sub) := by
  intro σ Q p hN ps pN hr
  have h60 := hN.1
  have hsub := hok p pN
  refine w_Ref_both ⟨rfl, hs σ _ p hN ps pN ?_⟩
  unfold bothP sqP at hr
  cases es : sub p with
  | inl r =>
    rw [es] at hr hsub
    obtain ⟨g, os⟩ := r
    obtain ⟨s1, s2, s3, s4⟩ := hsub
    intro τ2 v2 hv f2 t1 t2 t3 t4
    refine ⟨_, rfl, h_Ref_both_5 ⟨rfl, ?_⟩⟩
    rw [t1]
    exact ⟨fun _ => ⟨hv, hr τ2 v2 hv f2 t1 t2 t3 t4⟩, fun z => absurd (nI_le (a := 0) (by omega) (by omega)) z⟩
  | inr r =>
    rw [es] at hr hsub
    obtain ⟨p', a', v'⟩ := r
    obtain ⟨s1, s2, s3, s4, s5⟩ := hsub
    intro τ2 f2 t1 t2 t3
    exact ⟨_, rfl, r_lpboth hok hs hN 60 τ2 p' a' v' (by omega) s2 f2 ⟨t1, t2, t3, fun i hi => by rw [f2.1 90 i (by omega) (by omega)]; exact ps.2.2.2 i hi⟩ hr⟩
theorem r_lpeith {sub : Nat → fR} {D dd H : Nat} {os0 : List Nat} (hok : ∀ p, p ≤ N → okR N dd H p (sub p)) (hs : spR X N b w (D + 1) 212 os0 sub) (hN : rst N b w σ) :
    ∀ f (τ : mv_S) p a v, 60 ≤ f + p → p ≤ N → rdR os0.length σ τ → rPos p os0 τ → rR Q os0 σ w (lpP sub 124 1 or (pkb N b) f p a v) → mv_wf X (mv_wp X (D + 1)) m_Ref_either Q 5 [.ref 61, .int (if v w.length (wb w) = true then 1 else 0), .retAddr 0] [] τ := by
  intro f
  have h60 := hN.1
  have stop : ∀ (τ : mv_S) p a v, p ≤ N → rdR os0.length σ τ → rPos p os0 τ → ¬ pkb N b p = 124 → rR Q os0 σ w (Sum.inr (p, a, v)) → mv_wf X (mv_wp X (D + 1)) m_Ref_either Q 5 [.ref 61, .int (if v w.length (wb w) = true then 1 else 0), .retAddr 0] [] τ := by
    intro τ p a v pN fr ps e hr
    refine h_Ref_either_5 ⟨rfl, ?_⟩
    rw [ps.2.1]
    refine ⟨fun z => absurd z (by decide), fun _ => ⟨rfl, r_next (rst_R hN fr) ps.1 pN ⟨_, rfl, fun _ => ⟨bI_01 _, hr τ fr ps.1 ps.2.1 ps.2.2.1⟩, fun z => absurd z e⟩⟩⟩
  induction f with
  | zero =>
    intro τ p a v hf pN fr ps hr
    refine stop τ p a v pN fr ps (fun z => ?_) hr
    have := pq_in (pkb_k N b) z (by decide)
    omega
  | succ f ih =>
    intro τ p a v hf pN fr ps hr
    unfold lpP at hr
    by_cases e : pkb N b p = 124
    case neg =>
      rw [if_neg e] at hr
      exact stop τ p a v pN fr ps e hr
    rw [if_pos e] at hr
    have hpN : p < N := pq_in (pkb_k N b) e (by decide)
    have hT := rst_R hN fr
    refine h_Ref_either_5 ⟨rfl, ?_⟩
    rw [ps.2.1]
    refine ⟨fun z => absurd z (by decide), fun _ => ⟨rfl, r_next hT ps.1 pN ⟨_, rfl, fun z => absurd e z, fun _ => ⟨rfl, rfl, rfl, ?_⟩⟩⟩⟩
    rw [ps.1, nI_1]
    have fr1 : rdR os0.length σ (mv_pi τ 61 46 (nI (p + 1))) := rdR_tr fr R_46 (Nat.le_refl _)
    have hsub := hok (p + 1) (by omega)
    refine hs _ _ (p + 1) (rst_R hN fr1) ⟨mv_rd, by rw [mv_rn (by omega)]; exact ps.2.1, by rw [mv_rn (by omega)]; exact ps.2.2.1, fun i hi => by rw [mv_rn (by omega)]; exact ps.2.2.2 i hi⟩ (by omega) ?_
    cases es : sub (p + 1) with
    | inl r =>
      rw [es] at hr hsub
      obtain ⟨g, os⟩ := r
      obtain ⟨s1, s2, s3, s4⟩ := hsub
      intro τ2 v2 hv f2 t1 t2 t3 t4
      have done : ∀ x : Int32, (x = (0 : Int32) ∨ x = (1 : Int32)) → mv_wf X (mv_wp X (D + 1)) m_Ref_either Q 5 [.ref 61, .int x, .retAddr 0] [] τ2 := by
        intro x hx
        refine h_Ref_either_5 ⟨rfl, ?_⟩
        rw [t1]
        exact ⟨fun _ => ⟨hx, hr τ2 x hx (rdX_tr fr1 f2 (Nat.le_refl _)) t1 t2 t3 t4⟩, fun z => absurd (nI_le (a := 0) (by omega) (by omega)) z⟩
      rcases hv with rfl | rfl
      · refine ⟨_, rfl, fun _ => done 1 (Or.inr rfl), fun _ => ⟨fun _ => done 0 (Or.inl rfl), fun _ => done 1 (Or.inr rfl)⟩⟩
      · refine ⟨_, rfl, fun _ => done 1 (Or.inr rfl), fun _ => ⟨fun _ => done 0 (Or.inl rfl), fun _ => done 1 (Or.inr rfl)⟩⟩
    | inr r =>
      rw [es] at hr hsub
      obtain ⟨p', a', v'⟩ := r
      obtain ⟨s1, s2, s3, s4, s5⟩ := hsub
      intro τ2 f2 t1 t2 t3
      have fr2 := rdR_tr fr1 f2 (Nat.le_refl _)
      have nx := ih τ2 p' _ _ (by omega) s2 fr2 ⟨t1, t2, t3, fun i hi => by rw [f2.1 90 i (by omega) (by omega), mv_rn (by omega)]; exact ps.2.2.2 i hi⟩ hr
      refine ⟨_, rfl, ?_⟩
      cases e1 : v w.length (wb w) <;> cases e2 : v' w.length (wb w) <;> rw [e1, e2] at nx
      · exact ⟨fun z => absurd rfl z, fun _ => ⟨fun _ => nx, fun z => absurd rfl z⟩⟩
      · exact ⟨fun z => absurd rfl z, fun _ => ⟨fun z => absurd z (by decide), fun _ => nx⟩⟩
      · exact ⟨fun _ => nx, fun z => absurd z (by decide)⟩
      · exact ⟨fun _ => nx, fun z => absurd z (by decide)⟩
theorem r_eith {sub : Nat → fR} {D dd H : Nat} {os0 : List Nat} (hok : ∀ p, p ≤ N → okR N dd H p (sub p)) (hs : spR X N b w (D + 1) 212 os0 sub) : spR X N b w (D + 2) 211 os0 (sqP sub 124 1 or (pkb N b)) := by
  intro σ Q p hN ps pN hr
  have h60 := hN.1
  have hsub := hok p pN
  refine w_Ref_either ⟨rfl, hs σ _ p hN ps pN ?_⟩
  unfold sqP at hr
  cases es : sub p with
  | inl r =>
    rw [es] at hr hsub
    obtain ⟨g, os⟩ := r
    obtain ⟨s1, s2, s3, s4⟩ := hsub
    intro τ2 v2 hv f2 t1 t2 t3 t4
    refine ⟨_, rfl, h_Ref_either_5 ⟨rfl, ?_⟩⟩
    rw [t1]
    exact ⟨fun _ => ⟨hv, hr τ2 v2 hv f2 t1 t2 t3 t4⟩, fun z => absurd (nI_le (a := 0) (by omega) (by omega)) z⟩
  | inr r =>
    rw [es] at hr hsub
    obtain ⟨p', a', v'⟩ := r
    obtain ⟨s1, s2, s3, s4, s5⟩ := hsub
    intro τ2 f2 t1 t2 t3
    exact ⟨_, rfl, r_lpeith hok hs hN 60 τ2 p' a' v' (by omega) s2 f2 ⟨t1, t2, t3, fun i hi => by rw [f2.1 90 i (by omega) (by omega)]; exact ps.2.2.2 i hi⟩ hr⟩
end READR
