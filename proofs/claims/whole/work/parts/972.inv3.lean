section INV3
variable {X : mv_X} {i : Nat} {σ : mv_S}
theorem R_M {f g : Nat} {as : List Value} (h : Inv i σ) (hi : i ≤ 3584) (H : ∀ n G Ms, G < 2 ^ 29 → iv_M n Ms σ → iv_C σ → iv_R n σ → iv_G G σ → lw_op X (80 + 20) (mo_P n G σ) f g as σ) : lw_op X 100 (Inv (i + 7)) f g as σ := by
  have h0 := h
  obtain ⟨⟨n, Ms, hM, hR⟩, h2, h3, h4, h5, h6, h7, G, g1, g2⟩ := h
  exact op_mono (H n G Ms (by omega) hM h7 hR g2) (fun s p => I_mo h0 hM g1 p)
theorem R_U {f g : Nat} {as : List Value} (h : Inv i σ) (H : ∀ n Ms, iv_M n Ms σ → lw_op X (95 + 5) (mu_P σ) f g as σ) : lw_op X 100 (Inv (i + 7)) f g as σ := by
  have h0 := h
  obtain ⟨⟨n, Ms, hM, hR⟩, _⟩ := h
  exact op_mono (H n Ms hM) (fun s p => I_mu h0 p)
theorem inv_ops (X : mv_X) : lw_ops X 100 Inv := by
  refine ⟨fun a1 i σ hi h => R_U h (fun n Ms hM => op_machine hM), fun i σ hi h => R_U h (fun n Ms hM => op_drop hM), fun a1 a2 a3 a4 i σ hi h => R_U h (fun n Ms hM => op_step hM), fun a1 a2 i σ hi h => R_U h (fun n Ms hM => op_ends hM), fun a1 a2 i σ hi h => R_U h (fun n Ms hM => op_start hM),
    fun a1 a2 i σ hi h => R_M h hi (fun n G Ms _ hM hC hR hG => op_of hM hC hR hG), ?_, fun a1 a2 a3 i σ hi h => R_U h (fun n Ms hM => op_quotient hM), fun a1 i σ hi h => R_U h (fun n Ms hM => op_turn hM),
    fun a1 i σ hi h => R_M h hi (fun n G Ms _ hM hC hR hG => op_size hM hC hR hG), fun a1 a2 a3 i σ hi h => R_M h hi (fun n G Ms _ hM hC hR hG => op_word hM hC hR hG), fun a1 a2 i σ hi h => R_M h hi (fun n G Ms _ hM hC hR hG => op_element hM hC hR hG), fun a1 a2 a3 i σ hi h => R_M h hi (fun n G Ms _ hM hC hR hG => op_times hM hC hR hG), fun a1 a2 a3 i σ hi h => R_M h hi (fun n G Ms _ hM hC hR hG => op_power hM hC hR hG), fun a1 a2 a3 a4 i σ hi h => R_M h hi (fun n G Ms g hM hC hR hG => op_below g hM hC hR hG), fun a1 a2 i σ hi h => R_M h hi (fun n G Ms g hM hC hR hG => op_green g hM hC hR hG), fun a1 i σ hi h => R_M h hi (fun n G Ms g hM hC hR hG => op_holds g hM hC hR hG), fun a1 a2 a3 i σ hi h => R_M h hi (fun n G Ms g hM hC hR hG => op_wrong g hM hC hR hG),
    ?_, ?_, ?_, ?_, ?_, ?_, ?_, ?_, fun a1 a2 a3 i σ hi h => R_M h hi (fun n G Ms _ hM hC hR hG => op_drawn hM hC hR hG), ?_, ?_, ?_, ?_, ?_, ?_, ?_, ?_, ?_, ?_, ?_⟩
  · intro a1 a2 i σ hi h
    obtain ⟨n, Ms, hM, _⟩ := h.1
    exact op_mono (op_takes (d := 95) hM) (fun s p => I_aw h p)
  · intro a1 a2 i σ hi h
    obtain ⟨n, Ms, hM, _⟩ := h.1
    exact op_mono (op_level (d := 92) hM) (fun s p => I_kk h p)
  · intro a1 a2 a3 i σ hi h
    obtain ⟨n, Ms, hM, _⟩ := h.1
    exact op_mono (op_separates (d := 92) hM) (fun s p => I_kk h p)
  · intro a1 a2 a3 i σ hi h
    obtain ⟨n, Ms, hM, _⟩ := h.1
    exact op_monoL (op_least (d := 95) hM) (fun s p => I_ml h p)
  · intro i σ hi h
    obtain ⟨_, _, ⟨m, hT⟩, ⟨r, hW⟩, _, ⟨q, hF⟩, _⟩ := id h
    exact op_mono (op_formula (d := 40) hF hT hW) (fun s p => I_fo h p)
  · intro a1 i σ hi h
    obtain ⟨_, _, _, ⟨r, hW⟩, _⟩ := id h
    exact op_mono (op_why (d := 95) hW) (fun s p => I_eq h p)
  · intro a1 a2 i σ hi h
    obtain ⟨_, _, _, _, _, ⟨q, hF⟩, _⟩ := id h
    obtain ⟨fs, F⟩ := F_Fm hF
    exact op_mono (op_says (d := 95) (F X 99 (by omega)) (F X 100 (by omega))) (fun s p => I_aw h p)
  · intro a1 a2 a3 i σ hi h
    obtain ⟨⟨n, Ms, hM, _⟩, _, _, _, _, ⟨q, hF⟩, _⟩ := id h
    obtain ⟨fs, F⟩ := F_Fm hF
    exact op_mono (op_many (d := 95) hM (F X 99 (by omega))) (fun s p => I_aw h p)
  · intro a1 a2 a3 i σ hi h
    obtain ⟨⟨n, Ms, hM, _⟩, _, _, _, _, ⟨q, hF⟩, _⟩ := id h
    obtain ⟨fs, F⟩ := F_Fm hF
    exact op_mono (op_agree (d := 95) hM (F X 99 (by omega)) (F X 100 (by omega))) (fun s p => I_aw h p)
  · intro a1 a2 a3 a4 a5 i σ hi h
    obtain ⟨n, Ms, hM, _⟩ := h.1
    exact op_mono (op_chance (d := 95) hM) (fun s p => I_eq h p)
  · intro a1 a2 a3 i σ hi h
    obtain ⟨⟨n, Ms, hM, _⟩, _, _, _, hS, ⟨q, hF⟩, _⟩ := id h
    obtain ⟨fs, F⟩ := F_Fm hF
    exact op_mono (op_tells (d := 95) hS hM (F X 99 (by omega))) (fun s p => I_aw h p)
  · intro a1 a2 a3 a4 i σ hi h
    obtain ⟨⟨n, Ms, hM, _⟩, _, _, _, hS, ⟨q, hF⟩, _⟩ := id h
    obtain ⟨fs, F⟩ := F_Fm hF
    exact op_mono (op_film (d := 95) hS hM (F X 99 (by omega))) (fun s p => I_mf h p)
  · intro a1 a2 a3 a4 a5 a6 i σ hi h
    obtain ⟨_, _, ⟨m, hT⟩, _⟩ := id h
    exact op_mono (op_feed (d := 95) hT) (fun s p => I_mt h p)
  · intro i σ hi h
    obtain ⟨n, Ms, hM, _⟩ := h.1
    exact op_mono (op_image (d := 95) hM) (fun s p => I_mk h p)
  · intro i σ hi h
    exact op_mono (op_back (d := 95) h.2.1) (fun s p => I_mu h p)
  · intro a1 a2 a3 a4 i σ hi h
    obtain ⟨⟨n, Ms, hM, _⟩, _, _, _, hS, _⟩ := id h
    exact op_mono (op_load (d := 95) hS hM) (fun s p => I_mu h p)
  · intro a1 i σ hi h
    obtain ⟨⟨n, Ms, hM, _⟩, _, ⟨m, hT⟩, _, _, ⟨q, hF⟩, _⟩ := id h
    exact op_mono (op_count (d := 95) (q := 0) hM hT (hF.2.1.trans hF.2.2.1.symm)) (fun s p => I_eq h p)
  · intro a1 a2 a3 i σ hi h
    exact op_mono (op_sheet (d := 95) h.2.2.2.2.1) (fun s p => I_ms h p)
  · intro a1 a2 a3 i σ hi h
    exact op_mono (op_put (d := 95) h.2.2.2.2.1) (fun s p => I_ms h p)
  · intro a1 a2 a3 a4 a5 i σ hi h
    exact op_mono (op_copy (d := 95) h.2.2.2.2.1) (fun s p => I_ms h p)
end INV3
