/-! shelves: what is read -/
theorem k_mRow {d : Nat} (hd : 2 ≤ d) {x : Int} (h : 0 ≤ x ∧ x < 6) (σ : zF) : zx d 246 [.inl (some 57), .inr (.inl x)] σ = zri (if 0 ≤ σ 81 x ∧ σ 81 x ≤ 4 then 1 else 0) σ := by
  obtain ⟨d, rfl, hd'⟩ := y_d hd
  rw [e_X12_isRow, if_pos h, k_within (by omega), zCI_ri, y01o]
abbrev yAsv : List Nat × List (Nat × Int) := ([45, 46, 47, 48, 49, 50, 51, 52, 53, 54, 55, 56, 81, 82, 83], [])
theorem yInv_sv {c : Int} {N : zF} {G : yG} {σ t : zF} (hI : yInv c N G σ) (f : yf yAsv σ t) (h : ySh t) : yInv (c + 1) N G t := by
  obtain ⟨hTr, hLd, hTp, hHs, hIm, hSt, hSh⟩ := hI.2.2.2
  exact ⟨yP_f hI.1 f (by decide), yY_f hI.2.1 f (by decide), by rw [f 17 5 rfl]; have := hI.2.2.1; omega, yTr_g (yf_g f (by decide)) hTr, yLd_g (yf_g f (by decide)) hLd, yTp_g (yf_g f (by decide)) hTp, yHs_g (yf_g f (by decide)) hHs, yIm_g (yf_g f (by decide)) hIm, ySt_g (yf_g f (by decide)) hSt, h⟩
theorem o_element {x1 x2 : Int} : yStepJ 142 249 [.inr (.inl x1), .inr (.inl x2)] := by
  intro d hd c N G σ hI c0 c1
  obtain ⟨d, rfl, hd'⟩ := y_d hd; have hd := hd'
  have hSh := hI.2.2.2.2.2.2.2.2.2
  have hi := yInv_id hI
  rw [e_X11_element, k_isShelf (by omega), zCI_ri, y01]
  by_cases h : 0 ≤ x1 ∧ x1 < 6
  · have z := hSh x1 h.1 h.2
    obtain ⟨z1, z2, z3, z4, z5⟩ := z
    rw [if_pos h, k_zaa h.1 h.2, k_cls h.1 h.2, k_refusalAt (by omega) h.1 h.2, zCI_ri]
    have em : zx (d + 1) 249 [.inl (some 57), .inr (.inl x1), .inr (.inl x2)] σ = if (0 ≤ σ 81 x1 ∧ σ 81 x1 ≤ 4) ∧ (0 ≤ x2 ∧ x2 < σ (ysh x1) 1) then zrj (σ 83 (60 * x1 + x2)) σ else zrj (-9223372036854775808) σ := by
      rw [e_X12_element, k_mShelf (by omega), zCI_ri, y01, if_pos h, k_mRow (by omega) h, zCI_ri, y01]
      by_cases q : 0 ≤ σ 81 x1 ∧ σ 81 x1 ≤ 4
      · rw [if_pos q, if_pos h, ← z3, zw_i (x := σ (ysh x1) 1 - 1) (by omega) (by omega), k_within (by omega), zCI_ri, y01]
        by_cases p : 0 ≤ x2 ∧ x2 < σ (ysh x1) 1
        · rw [if_pos (show 0 ≤ x2 ∧ x2 ≤ σ (ysh x1) 1 - 1 by omega), if_pos (show (0 ≤ σ 81 x1 ∧ σ 81 x1 ≤ 4) ∧ (0 ≤ x2 ∧ x2 < σ (ysh x1) 1) from ⟨q, p⟩), zw_i (x := 60 * x1) (by omega) (by omega), zw_i (x := 60 * x1 + x2) (by omega) (by omega), if_pos (by omega)]
        · rw [if_neg (show ¬ (0 ≤ x2 ∧ x2 ≤ σ (ysh x1) 1 - 1) by omega), if_neg (show ¬ ((0 ≤ σ 81 x1 ∧ σ 81 x1 ≤ 4) ∧ (0 ≤ x2 ∧ x2 < σ (ysh x1) 1)) from fun w => p w.2)]
      · rw [if_neg q, if_neg (show ¬ ((0 ≤ σ 81 x1 ∧ σ 81 x1 ≤ 4) ∧ (0 ≤ x2 ∧ x2 < σ (ysh x1) 1)) from fun w => q w.1)]
    by_cases q1 : σ (ysh x1) 0 = -1 ∧ σ (ysh x1) 2 = -1
    · rw [if_pos q1]
      refine y_j ?_
      rw [em, if_neg (by omega)]
      exact y_j ⟨rfl, N, G, hi⟩
    · rw [if_neg q1]
      by_cases q2 : σ (ysh x1) 0 = -1
      · rw [if_pos q2]
        refine y_j ?_
        rw [em, if_neg (by omega)]
        exact y_j ⟨rfl, N, G, hi⟩
      · rw [if_neg q2]
        by_cases q3 : 0 ≤ x2 ∧ x2 < σ (ysh x1) 1
        · rw [if_pos q3, k_zaa h.1 h.2, k_fld3 h.1 h.2, k_zar h.1 h.2 (by omega)]
          refine y_j ?_
          rw [em, if_pos (by omega)]
          exact y_j ⟨(z5 x2 q3.1 (by omega)).1.symm, N, G, hi⟩
        · rw [if_neg q3]
          refine y_j ?_
          rw [em, if_neg (by omega)]
          exact y_j ⟨rfl, N, G, hi⟩
  · rw [if_neg h]
    refine y_j ?_
    rw [e_X12_element, k_mShelf (by omega), zCI_ri, y01, if_neg h]
    exact y_j ⟨rfl, N, G, hi⟩
