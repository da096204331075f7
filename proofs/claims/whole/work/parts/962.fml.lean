/-! ===== a kept formula takes words alike ===== -/
def fmC (t : Nat) (a : List Nat) (σ : mv_S) : Prop := σ.1 t 1 = nI a.length ∧ ∀ i, i < a.length → σ.1 (t + 1) i = nI (a.getD i 0)
def fmR (k N : Nat) (b : Nat → Int32) (σ : mv_S) : Prop := σ.1 88 k = nI N ∧ ∀ i, i < N → σ.1 87 (60 * k + i) = b i
section FML
variable {X : mv_X} {σ : mv_S} {N : Nat} {b : Nat → Int32}
theorem tkC_F {D k p : Nat} {a : List Nat} {v : Nat → Nat → Bool} (hk : k < 4) (h60 : N ≤ 60) (ht : topP N (pkb N b) = Sum.inr (p, a, v)) (hc : fmC (45 + 2 * k) a σ) (hD : 3 ≤ D) : tkC X D (45 + 2 * k) (fun w => v w.length (wb w)) σ := by
  intro τ w Q hs hw ok hQ
  obtain ⟨D, rfl⟩ : ∃ e, D = e + 3 := ⟨D - 3, by omega⟩
  obtain ⟨m1, m2, m3, m4, m5⟩ := fm_at k hk
  obtain ⟨t1, t2, t3⟩ := (top_ok (pkb_k N b)).2 p a v ht
  refine Or.inr ⟨m1, ?_⟩
  have g := t3 w.length (wb w) 0 0 (by decide)
  refine c_accepts (n := w.length) (B := wb w) (ops := a) ⟨m3, m4, m5, m1⟩ (by omega) hw.1 hw.2 ok.1 (wk_b ok) ((hs 1).1.trans hc.1) (fun i hi => (hs i).2.trans (hc.2 i hi)) t2 (fun u x e => ?_) ?_
  · have := g.2 u x e
    exact this
  · rw [g.1]
    have hQ : Q (some (.int (if v w.length (wb w) = true then 1 else 0))) τ := hQ
    cases e : v w.length (wb w)
    · rw [e] at hQ; exact hQ
    · rw [e] at hQ; exact hQ
theorem tkR_F {D k p : Nat} {a : List Nat} {v : Nat → Nat → Bool} (hk : k < 4) (h60 : N ≤ 60) (ht : topP N (pkb N b) = Sum.inr (p, a, v)) (hc : fmR k N b σ) (hD : 32 ≤ D) : tkR X D 1 k (fun w => v w.length (wb w)) σ := by
  intro τ w Q hs hw ok hQ
  obtain ⟨D, rfl⟩ : ∃ e, D = e + 32 := ⟨D - 32, by omega⟩
  have c88 : τ.1 88 k = nI N := (hs k).2.2.trans hc.1
  have c87 : ∀ i, i < N → τ.1 87 (60 * k + i) = b i := fun i hi => (hs _).2.1.trans (hc.2 i hi)
  refine (w_Ref_saysOf _ _ _ _ _ _).mpr ⟨fun _ => ⟨rfl, ?_⟩, fun z => absurd z (by decide)⟩
  refine (w_Ref_saysNow _ _ _ _ _).mpr ?_
  rw [show (60 : Int32) = nI 60 from rfl, pk_mul, nI_clamp (n := 60 * k) (by omega), nI_clamp (n := k) (by omega), c88, nI_clamp (n := N) (by omega), show (0 : Int32).toNatClampNeg = 0 from rfl]
  refine ⟨rfl, rfl, rfl, ⟨rfl, vp_in_nI (N := 4) (by omega) (by omega)⟩, ⟨rfl, rfl, nI_pos (by omega), by decide, nI_pos (by omega), by rw [ln_87]; omega, by rw [ln_92]; omega, fun i hi => rfl⟩, rfl, ⟨rfl, vp_in_nI (N := 4) (by omega) (by omega)⟩, rfl, ?_⟩
  have o : ∀ c j, ¬ c = 92 → ((fun c' k_1 => if c' = 92 then va_cpy (τ.1 87) (τ.1 92) (60 * k) 0 N k_1 else τ.1 c' k_1, τ.2) : mv_S).1 c j = τ.1 c j := fun c j q => if_neg q
  have o5 : ∀ j, j < N → ((fun c' k_1 => if c' = 92 then va_cpy (τ.1 87) (τ.1 92) (60 * k) 0 N k_1 else τ.1 c' k_1, τ.2) : mv_S).1 92 j = τ.1 87 (60 * k + j) := fun j hj => by
    show (if (92 : Nat) = 92 then va_cpy (τ.1 87) (τ.1 92) (60 * k) 0 N j else τ.1 92 j) = _
    rw [if_pos rfl]
    unfold va_cpy
    rw [if_pos (by omega)]
    rfl
  have o2 : ((fun c' k_1 => if c' = 92 then va_cpy (τ.1 87) (τ.1 92) (60 * k) 0 N k_1 else τ.1 c' k_1, τ.2) : mv_S).2 = τ.2 := rfl
  generalize ((fun c' k_1 => if c' = 92 then va_cpy (τ.1 87) (τ.1 92) (60 * k) 0 N k_1 else τ.1 c' k_1, τ.2) : mv_S) = τ3 at o o5 o2 ⊢
  rw [o 88 k (by omega), c88]
  refine r_through (b := b) h60 (fun j hj => (o5 j hj).trans (c87 j hj)) (rwd_fr hw (o _ _ (by omega)) (fun k => o _ _ (by omega))) ok (fun p' a' v' e τ4 u1 u2 u3 => ⟨_, rfl, bI_01 _, _, rfl, bI_01 _, ?_⟩) (fun f os e => ?_)
  · rw [ht] at e
    injection e with e
    injection e with e1 e2
    injection e2 with e2 e3
    subst e3
    exact hQ τ4 ⟨fun c j q1 q2 q3 => (u1 c j (by omega) q2).trans (o c j q3), u2.trans o2⟩
  · rw [ht] at e
    cases e
end FML
