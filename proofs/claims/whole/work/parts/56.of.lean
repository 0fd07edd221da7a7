/-! of: columns -/
abbrev yhas (n q x a : Int) : Prop := (0 ≤ a ∧ a ≤ 3 ∨ 6 ≤ a ∧ a ≤ 7) ∧ 0 ≤ x ∧ x < n ∨ 4 ≤ a ∧ a ≤ 5 ∧ 0 ≤ x ∧ x < q
theorem k_has {d : Nat} (hd : 2 ≤ d) (x a : Int) (σ : zF) : zx d 20 [.inl (some 1), .inr (.inl x), .inr (.inl a)] σ = zri (if yhas (σ 1 0) (σ 1 1) x a then 1 else 0) σ := by
  obtain ⟨d, rfl, hd'⟩ := y_d hd
  rw [e_X3_has, y_rg, k_isTrav hd', k_isRoad hd', zCI_ri, zCI_ri, y01o, y01o]
  by_cases h : 0 ≤ a ∧ a ≤ 7
  · rw [if_pos h]
    by_cases h4 : a = 4
    · rw [if_pos h4]
      exact congrArg (fun v => zri v σ) (y_cc (by unfold yhas; omega))
    · rw [if_neg h4]
      by_cases h5 : a = 5
      · rw [if_pos h5]
        exact congrArg (fun v => zri v σ) (y_cc (by unfold yhas; omega))
      · rw [if_neg h5]
        exact congrArg (fun v => zri v σ) (y_cc (by unfold yhas; omega))
  · rw [if_neg h, if_neg (by unfold yhas; omega)]
theorem k_isOf {d : Nat} (hd : 3 ≤ d) (x a : Int) {σ : zF} (hn : 0 ≤ σ 57 0 ∧ σ 57 0 ≤ 12) (hq : 0 ≤ σ 57 4 ∧ σ 57 4 ≤ 4) : zx d 164 [.inl (some 57), .inr (.inl x), .inr (.inl a)] σ = zri (if a ≤ 5 ∧ yhas (σ 57 0) (σ 57 4) x a then 1 else 0) σ := by
  obtain ⟨d, rfl, hd'⟩ := y_d hd
  rw [e_X12_isOf, k_within (by omega), zCI_ri, y01, k_mRoad hd' x hn, zCI_ri, y01o, k_within (by omega), zCI_ri, y01, k_mOne hd' x hq, zCI_ri, y01]
  by_cases h : 0 ≤ a ∧ a ≤ 3
  · rw [if_pos h]
    exact congrArg (fun v => zri v σ) (y_cc (by unfold yhas; omega))
  · rw [if_neg h]
    by_cases h4 : 4 ≤ a ∧ a ≤ 5
    · rw [if_pos h4, y_ri]
      exact congrArg (fun v => zri v σ) (y_cc (by unfold yhas; omega))
    · rw [if_neg h4, if_neg (by unfold yhas; omega)]
def ycl (a : Int) : Nat := if a = 0 then 4 else if a = 1 then 5 else if a = 2 then 6 else if a = 3 then 7 else if a = 4 then 8 else if a = 5 then 9 else if a = 6 then 2 else 3
theorem k_col {d : Nat} (hd : 1 ≤ d) (a : Int) (σ : zF) : zx d 21 [.inl (some 1), .inr (.inl a)] σ = zrr (ycl a) σ := by
  obtain ⟨d, rfl, -⟩ := y_d (k := 0) hd
  rw [e_X3_column]
  unfold ycl
  repeat' split
  all_goals rfl
theorem y_a8 {a : Int} (h0 : 0 ≤ a) (h1 : a ≤ 7) : a = 0 ∨ a = 1 ∨ a = 2 ∨ a = 3 ∨ a = 4 ∨ a = 5 ∨ a = 6 ∨ a = 7 := by omega
theorem k_colg {a x : Int} (h0 : 0 ≤ a) (h1 : a ≤ 7) (hx : 0 ≤ x) (hb : 4 ≤ a ∧ a ≤ 5 ∧ x < 4 ∨ x < 12 ∧ ¬ (4 ≤ a ∧ a ≤ 5)) (σ : zF) (k : Int → Option zR) : zia zX2 LAY σ (ycl a) x k = k (σ (ycl a) x) := by
  rcases y_a8 h0 h1 with rfl | rfl | rfl | rfl | rfl | rfl | rfl | rfl
  all_goals first | exact if_pos (show 0 ≤ x ∧ x < (12 : Int) by omega) | exact if_pos (show 0 ≤ x ∧ x < (4 : Int) by omega)
theorem k_cols {a x : Int} (h0 : 0 ≤ a) (h1 : a ≤ 7) (hx : 0 ≤ x) (hb : 4 ≤ a ∧ a ≤ 5 ∧ x < 4 ∨ x < 12 ∧ ¬ (4 ≤ a ∧ a ≤ 5)) (A : Option zR) : zar LAY 0 (ycl a) x A = A := by
  rcases y_a8 h0 h1 with rfl | rfl | rfl | rfl | rfl | rfl | rfl | rfl
  all_goals first | exact if_pos (show 0 ≤ x ∧ x < (12 : Int) by omega) | exact if_pos (show 0 ≤ x ∧ x < (4 : Int) by omega)
