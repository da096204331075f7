/-! ===== bits and quotients ===== -/
theorem sh_amt : ∀ k, k < 32 → ((nI k &&& (31 : Int32)).toBitVec.smod 32).toNat = k := by decide +kernel
theorem q_shr {a k : Nat} (ha : a < 2 ^ 31) (hk : k < 32) : nI a >>> (nI k &&& (31 : Int32)) = nI (a / 2 ^ k) := pk_shrN ha _ k (sh_amt k hk)
theorem q_shl {a k : Nat} (hk : k < 32) (h : a * 2 ^ k < 2 ^ 32) : nI a <<< (nI k &&& (31 : Int32)) = nI (a * 2 ^ k) := pk_shlN _ k (sh_amt k hk) h
theorem q_and3 (a : Nat) : nI a &&& (3 : Int32) = nI (a % 4) := fa_mask a 2
theorem q_and1 (a : Nat) : nI a &&& (1 : Int32) = nI (a % 2) := fa_mask a 1
theorem q_and255 (a : Nat) : nI a &&& (255 : Int32) = nI (a % 256) := fa_mask a 8
theorem q_and15 (a : Nat) : nI a &&& (15 : Int32) = nI (a % 16) := fa_mask a 4
theorem q_div3 {a : Nat} (h : a < 2 ^ 31) : nI a / (3 : Int32) = nI (a / 3) := pk_div (d := 3) h (by decide) (by decide)
theorem q_rem3 {a : Nat} (h : a < 2 ^ 31) : nI a - nI a / (3 : Int32) * (3 : Int32) = nI (a % 3) := pk_rem (d := 3) h (by decide) (by decide)
theorem q_div4 {a : Nat} (h : a < 2 ^ 31) : nI a / (4 : Int32) = nI (a / 4) := pk_div (d := 4) h (by decide) (by decide)
theorem q_rem4 {a : Nat} (h : a < 2 ^ 31) : nI a - nI a / (4 : Int32) * (4 : Int32) = nI (a % 4) := pk_rem (d := 4) h (by decide) (by decide)
theorem q_div10 {a : Nat} (h : a < 2 ^ 31) : nI a / (10 : Int32) = nI (a / 10) := pk_div (d := 10) h (by decide) (by decide)
theorem q_rem10 {a : Nat} (h : a < 2 ^ 31) : nI a - nI a / (10 : Int32) * (10 : Int32) = nI (a % 10) := pk_rem (d := 10) h (by decide) (by decide)
theorem q_div2 {a : Nat} (h : a < 2 ^ 31) : nI a / (2 : Int32) = nI (a / 2) := pk_div (d := 2) h (by decide) (by decide)
theorem q_lI {a : Nat} : (lN a).toInt32 = nI a := by unfold lN nI; simp
theorem q_inj {a b : Nat} (ha : a < 2 ^ 31) (hb : b < 2 ^ 31) : nI a = nI b ↔ a = b := by
  rw [fa_eq, nI_toInt ha, nI_toInt hb]; omega
theorem q_l1 {a : Nat} (h : a < 2 ^ 31) : ((nI a).toInt64 - 1 : Int64).toInt = (a : Int) - 1 := by
  rw [nI_l h]
  by_cases e : a = 0
  · subst e; decide
  · rw [show (1 : Int64) = lN 1 from rfl, lN_sub (by omega), lN_toInt (by omega)]; omega
