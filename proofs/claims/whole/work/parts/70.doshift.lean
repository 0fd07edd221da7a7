/-! shift itself -/
theorem o_shift {x1 x2 x3 x4 x5 : Int} (h2 : zin x2) (h4 : zin x4) (h5 : zin x5) : yStep 143 250 [.inr (.inl x1), .inr (.inl x2), .inr (.inl x3), .inr (.inl x4), .inr (.inl x5)] := by
  intro d hd c N G σ hI c0 c1
  obtain ⟨d, rfl, hd'⟩ := y_d hd; have hd := hd'
  have hi := yInv_id hI
  have hSh := hI.2.2.2.2.2.2.2.2.2
  have fin : ∀ v : Int, yT (zx (d + 1) 250 [.inl (some 57), .inr (.inl x1), .inr (.inl x2), .inr (.inl x3), .inr (.inl x4), .inr (.inl x5)] σ) (yI fun w t => w = v ∧ t = σ) → yT (zx (d + 1) 250 [.inl (some 57), .inr (.inl x1), .inr (.inl x2), .inr (.inl x3), .inr (.inl x4), .inr (.inl x5)] σ) (yI fun w t => w = v ∧ ∃ N' G', yInv (c + 1) N' G' t) := fun v h => y_mI h fun w t z => ⟨z.1, N, G, by rw [z.2]; exact hi⟩
  unfold zin at h2 h4
  rw [e_X11_shift, k_isShelf (by omega), zCI_ri, y01]
  by_cases h : 0 ≤ x1 ∧ x1 < 6
  · rw [if_pos h, k_isShelf (by omega), zCI_ri, y01]
    by_cases g : 0 ≤ x3 ∧ x3 < 6
    · have kb := ysh_b h.1 h.2
      have gb := ysh_b g.1 g.2
      obtain ⟨z1, z2, z3, z4, z5⟩ := hSh x1 h.1 h.2
      obtain ⟨w1, w2, w3, w4, w5⟩ := hSh x3 g.1 g.2
      rw [if_pos g, k_zaa h.1 h.2, k_zaa g.1 g.2, k_cls h.1 h.2, k_isEmpty (by omega) h.1 h.2, zCI_ri, y01]
      refine y_b rfl ?_
      -- the model's first steps
      have em : ∀ s : zF, zx (d + 1) 250 [.inl (some 57), .inr (.inl x1), .inr (.inl x2), .inr (.inl x3), .inr (.inl x4), .inr (.inl x5)] s = if s 81 x1 = -1 then zri (-11) s else if s 81 x3 = -1 then zri (-11) s else if 0 ≤ s 81 x1 ∧ s 81 x1 ≤ 4 then (if 0 ≤ s 81 x3 ∧ s 81 x3 ≤ 4 then (if s 81 x1 = s 81 x3 then (if x5 < 0 then zri (-13) s else if x2 < 0 then zri (-13) s else if x4 < 0 then zri (-13) s else if s 82 x1 < zwl (x2 + x5) then zri (-13) s else if s 82 x3 < zwl (x4 + x5) then zri (-13) s else if x1 = x3 then (if x2 < x4 then P_X12_shift_142 d x1 x2 x3 x4 x5 (zw (x5 - 1)) s else P_X12_shift_188 d x1 x2 x3 x4 x5 0 s) else P_X12_shift_188 d x1 x2 x3 x4 x5 0 s) else zri (-12) s) else zri (-12) s) else zri (-12) s := by
        intro s
        rw [e_X12_shift, k_mShelf (by omega), zCI_ri, y01, if_pos h, k_mShelf (by omega), zCI_ri, y01, if_pos g, if_pos h, if_pos g, k_mRow (by omega) h, zCI_ri, y01, k_mRow (by omega) g, zCI_ri, y01, if_pos h, if_pos g, if_pos h, zcmpl_p, if_pos g, zcmpl_p]
      by_cases q1 : σ (ysh x1) 0 = -1 ∧ σ (ysh x1) 2 = -1
      · rw [if_pos q1]
        refine y_i (fin _ ?_)
        rw [em, if_pos (by omega)]
        exact y_i ⟨rfl, rfl⟩
      · rw [if_neg q1, k_cls g.1 g.2, k_isEmpty (by omega) g.1 g.2, zCI_ri, y01]
        refine y_b rfl ?_
        by_cases q2 : σ (ysh x3) 0 = -1 ∧ σ (ysh x3) 2 = -1
        · rw [if_pos q2]
          refine y_i (fin _ ?_)
          rw [em, if_neg (by omega), if_pos (by omega)]
          exact y_i ⟨rfl, rfl⟩
        · rw [if_neg q2, k_isRow (by omega) h.1 h.2, zCI_ri]
          refine y_b rfl ?_
          by_cases q3 : σ (ysh x1) 0 = -1
          · rw [if_pos q3, if_pos rfl]
            refine y_i (fin _ ?_)
            rw [em, if_neg (by omega), if_neg (by omega), if_neg (by omega)]
            exact y_i ⟨rfl, rfl⟩
          · rw [if_neg q3, if_neg (by decide), k_fld0 h.1 h.2, k_isRowOf (by omega) g.1 g.2, zCI_ri, y01]
            refine y_b rfl ?_
            by_cases q4 : ¬ σ (ysh x3) 0 = -1 ∧ σ (ysh x3) 0 = σ (ysh x1) 0
            · rw [if_pos q4, k_hasSpan (by omega) h.1 h.2 h5 ⟨z1, z2⟩, zCI_ri, y01]
              refine y_b rfl ?_
              unfold zin at h5
              have m3 : (∀ w t, (w = (-13 : Int) ∧ t = σ) → (w = (-13 : Int) ∧ t = σ)) := fun _ _ e => e
              by_cases q5 : 0 ≤ x2 ∧ 0 ≤ x5 ∧ x2 + x5 ≤ σ (ysh x1) 1
              · rw [if_pos q5, k_hasSpan (by omega) g.1 g.2 h5 ⟨w1, w2⟩, zCI_ri, y01]
                refine y_b rfl ?_
                by_cases q6 : 0 ≤ x4 ∧ 0 ≤ x5 ∧ x4 + x5 ≤ σ (ysh x3) 1
                · rw [if_pos q6, k_fld3 h.1 h.2, k_fld3 g.1 g.2, k_zarcK h.1 h.2 g.1 g.2 (by omega)]
                  refine y_i ?_
                  have yI' := y_shift (i := x2) (j := x4) (n := x5) hI h.1 h.2 g.1 g.2 (by omega) (by omega) q4.2.symm
                  have r81 : ∀ a, zcpy σ (ysr x1) x2 (ysr x3) x4 x5 81 a = σ 81 a := fun a => by rw [zcpy_eq, if_neg (by omega)]
                  have r82 : ∀ a, zcpy σ (ysr x1) x2 (ysr x3) x4 x5 82 a = σ 82 a := fun a => by rw [zcpy_eq, if_neg (by omega)]
                  generalize zcpy σ (ysr x1) x2 (ysr x3) x4 x5 = s at yI' r81 r82
                  rw [em, r81, r81, r82, r82, if_neg (by omega), if_neg (by omega), if_pos (by omega), if_pos (by omega), if_pos (by omega), if_neg (by omega), if_neg (by omega), if_neg (by omega), zwl_i (x := x2 + x5) (by omega) (by omega), zwl_i (x := x4 + x5) (by omega) (by omega), if_neg (by omega), if_neg (by omega)]
                  have up : (60 * x3 + x4 ≤ 60 * x1 + x2 ∨ 60 * x1 + x2 + x5 ≤ 60 * x3 + x4) → P_X12_shift_188 d x1 x2 x3 x4 x5 0 s = zri x5 (zcpy s 83 (60 * x1 + x2) 83 (60 * x3 + x4) x5) := fun e => by
                    have := m_shUp (d := d) (σ := s) (n := x5) h g ⟨q5.1, by omega⟩ ⟨q6.1, by omega⟩ e x5.toNat 0 (by omega) (by omega)
                    rw [zcpy_0] at this
                    exact this
                  refine y_if (fun e => y_if (fun e2 => ?_) (fun e2 => ?_)) (fun e => ?_)
                  · have := m_shDn (d := d) (σ := s) (n := x5) h g ⟨q5.1, by omega⟩ ⟨q6.1, by omega⟩ (by omega) x5.toNat (x5 - 1) (by omega) (by omega)
                    rw [show x5 - 1 + 1 = x5 by omega, show x5 - x5 = 0 by omega, zcpy_0] at this
                    rw [zw_i (x := x5 - 1) (by omega) (by omega), this]
                    exact y_i ⟨rfl, N, G, yI'⟩
                  · rw [up (by omega)]
                    exact y_i ⟨rfl, N, G, yI'⟩
                  · rw [up (by omega)]
                    exact y_i ⟨rfl, N, G, yI'⟩
                · rw [if_neg q6]
                  refine y_i (fin _ ?_)
                  rw [em, if_neg (by omega), if_neg (by omega), if_pos (by omega), if_pos (by omega), if_pos (by omega), if_neg (by omega), if_neg (by omega), zwl_i (x := x2 + x5) (by omega) (by omega), zwl_i (x := x4 + x5) (by omega) (by omega)]
                  refine y_if (fun _ => y_i ⟨rfl, rfl⟩) (fun p => ?_)
                  rw [if_neg (by omega), if_pos (by omega)]
                  exact y_i ⟨rfl, rfl⟩
              · rw [if_neg q5]
                refine y_i (fin _ ?_)
                rw [em, if_neg (by omega), if_neg (by omega), if_pos (by omega), if_pos (by omega), if_pos (by omega), zwl_i (x := x2 + x5) (by omega) (by omega), zwl_i (x := x4 + x5) (by omega) (by omega)]
                refine y_if (fun _ => y_i ⟨rfl, rfl⟩) (fun p1 => y_if (fun _ => y_i ⟨rfl, rfl⟩) (fun p2 => y_if (fun _ => y_i ⟨rfl, rfl⟩) (fun p3 => ?_)))
                rw [if_pos (by omega)]
                exact y_i ⟨rfl, rfl⟩
            · rw [if_neg q4]
              refine y_i (fin _ ?_)
              rw [em, if_neg (by omega), if_neg (by omega), if_pos (by omega)]
              refine y_if (fun p1 => ?_) (fun _ => y_i ⟨rfl, rfl⟩)
              rw [if_neg (by omega)]
              exact y_i ⟨rfl, rfl⟩
    · rw [if_neg g]
      refine y_i (fin _ ?_)
      rw [e_X12_shift, k_mShelf (by omega), zCI_ri, y01, if_pos h, k_mShelf (by omega), zCI_ri, y01, if_neg g]
      exact y_i ⟨rfl, rfl⟩
  · rw [if_neg h]
    refine y_i (fin _ ?_)
    rw [e_X12_shift, k_mShelf (by omega), zCI_ri, y01, if_neg h]
    exact y_i ⟨rfl, rfl⟩
