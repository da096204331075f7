/-! ===== tools: how conditions are decided ===== -/
theorem ln_6 : mv_ln 6 = 60 := rfl
theorem ln_7 : mv_ln 7 = 60 := rfl
theorem ln_8 : mv_ln 8 = 6 := rfl
theorem ln_9 : mv_ln 9 = 8 := rfl
theorem ln_14 : mv_ln 14 = 12 := rfl
theorem ln_15 : mv_ln 15 = 4 := rfl
theorem ln_16 : mv_ln 16 = 4 := rfl
theorem ln_17 : mv_ln 17 = 3 := rfl
theorem ln_18 : mv_ln 18 = 256 := rfl
theorem ln_19 : mv_ln 19 = 256 := rfl
theorem ln_20 : mv_ln 20 = 256 := rfl
theorem ln_21 : mv_ln 21 = 256 := rfl
theorem ln_22 : mv_ln 22 = 256 := rfl
theorem ln_23 : mv_ln 23 = 256 := rfl
theorem ln_24 : mv_ln 24 = 256 := rfl
theorem ln_25 : mv_ln 25 = 256 := rfl
theorem ln_26 : mv_ln 26 = 256 := rfl
theorem ln_28 : mv_ln 28 = 4609 := rfl
theorem ln_29 : mv_ln 29 = 6460 := rfl
theorem ln_31 : mv_ln 31 = 16 := rfl
theorem ln_32 : mv_ln 32 = 16 := rfl
theorem ln_62 : mv_ln 62 = 45 := rfl
theorem ln_63 : mv_ln 63 = 45 := rfl
theorem ln_64 : mv_ln 64 = 9 := rfl
theorem ln_65 : mv_ln 65 = 12 := rfl
theorem ln_66 : mv_ln 66 = 4 := rfl
theorem ln_67 : mv_ln 67 = 4 := rfl
theorem ln_68 : mv_ln 68 = 4 := rfl
theorem ln_69 : mv_ln 69 = 4 := rfl
theorem ln_70 : mv_ln 70 = 256 := rfl
theorem ln_71 : mv_ln 71 = 256 := rfl
theorem ln_72 : mv_ln 72 = 256 := rfl
theorem ln_73 : mv_ln 73 = 256 := rfl
theorem ln_74 : mv_ln 74 = 65536 := rfl
theorem ln_75 : mv_ln 75 = 256 := rfl
theorem ln_76 : mv_ln 76 = 3 := rfl
theorem ln_77 : mv_ln 77 = 256 := rfl
theorem ln_78 : mv_ln 78 = 256 := rfl
theorem ln_79 : mv_ln 79 = 256 := rfl
theorem ln_80 : mv_ln 80 = 65536 := rfl
theorem ln_81 : mv_ln 81 = 32768 := rfl
theorem ln_82 : mv_ln 82 = 32768 := rfl
theorem ln_83 : mv_ln 83 = 8192 := rfl
theorem ln_84 : mv_ln 84 = 8192 := rfl
theorem ln_85 : mv_ln 85 = 8192 := rfl
theorem ln_86 : mv_ln 86 = 16 := rfl
theorem ln_87 : mv_ln 87 = 240 := rfl
theorem ln_88 : mv_ln 88 = 4 := rfl
theorem ln_89 : mv_ln 89 = 60 := rfl
theorem ln_90 : mv_ln 90 = 6 := rfl
theorem ln_91 : mv_ln 91 = 8 := rfl
theorem ln_92 : mv_ln 92 = 60 := rfl
theorem ln_93 : mv_ln 93 = 4 := rfl
theorem ln_94 : mv_ln 94 = 4 := rfl
theorem ln_95 : mv_ln 95 = 160 := rfl
theorem dt {c A B : Prop} (h : c) (a : A) : (c → A) ∧ (¬ c → B) := ⟨fun _ => a, fun z => absurd h z⟩
theorem df {c A B : Prop} (h : ¬ c) (b : B) : (c → A) ∧ (¬ c → B) := ⟨fun z => absurd z h, fun _ => b⟩
theorem dt' {c A B : Prop} (h : c) (a : A) : (¬ c → B) ∧ (c → A) := ⟨fun z => absurd h z, fun _ => a⟩
theorem df' {c A B : Prop} (h : ¬ c) (b : B) : (¬ c → B) ∧ (c → A) := ⟨fun _ => b, fun z => absurd z h⟩
theorem b_z (P : Prop) [Decidable P] : ((if P then (1 : Int32) else 0) = 0) ↔ ¬ P := by
  by_cases h : P
  · rw [if_pos h]; exact ⟨fun z => absurd z (by decide), fun z => absurd h z⟩
  · rw [if_neg h]; exact ⟨fun _ => h, fun _ => rfl⟩
theorem b_nz (P : Prop) [Decidable P] : ((if P then (1 : Int32) else 0) = 1) ↔ P := by
  by_cases h : P
  · rw [if_pos h]; exact ⟨fun _ => h, fun _ => rfl⟩
  · rw [if_neg h]; exact ⟨fun z => absurd z (by decide), fun z => absurd z h⟩
theorem nI_m1 : (-1 : Int32).toInt = -1 := by decide
theorem mv_ld {σ : mv_S} {c k : Nat} {v : Int64} : (mv_pl σ c k v).2 c k = v := by unfold mv_pl; simp
theorem mv_ln_ {σ : mv_S} {c k c' k' : Nat} {v : Int64} (h : ¬ (c' = c ∧ k' = k)) : (mv_pl σ c k v).2 c' k' = σ.2 c' k' := by unfold mv_pl; simp only [if_neg h]
theorem ix_cs2 (x : Int32) : x.toInt < 0 ∨ ∃ k : Nat, k < 2 ^ 31 ∧ x = nI k := by
  by_cases h : x.toInt < 0
  · exact Or.inl h
  · obtain ⟨j, hj, rfl⟩ := nI_of (x := x) (by rw [Int32.lt_iff_toInt_lt, Int32.toInt_zero]; omega)
    exact Or.inr ⟨j, hj, rfl⟩
theorem ofn (n : Nat) : Int32.ofNat n = nI n := Eq.trans rfl rfl
theorem lit (n : Nat) : (OfNat.ofNat n : Int32) = nI n := Eq.trans (fa_lit n) rfl
theorem b_z' (P : Prop) [Decidable P] : ((if P then nI 1 else nI 0) = nI 0) ↔ ¬ P := b_z P
theorem b_nz' (P : Prop) [Decidable P] : ((if P then nI 1 else nI 0) = nI 1) ↔ P := b_nz P
theorem nI_m1' : (-(nI 1)).toInt = -1 := by decide
theorem ln_1 : mv_ln 1 = 3 := rfl
theorem ln_2 : mv_ln 2 = 3 := rfl
theorem ln_3 : mv_ln 3 = 4 := rfl
theorem ln_4 : mv_ln 4 = 4 := rfl
