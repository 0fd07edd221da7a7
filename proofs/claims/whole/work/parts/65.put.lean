/-! put -/
def ycut (k v : Int) : Int := if k = 0 then zi2b (zw v) else if k = 1 then zi2s (zw v) else if k = 2 then zw v else if k = 3 then v else if zcmpl v 0 = 0 then 0 else 1
theorem ycut_1 (v : Int) : -32768 ≤ ycut 1 v ∧ ycut 1 v < 32768 := by
  show -32768 ≤ zi2s (zw v) ∧ zi2s (zw v) < 32768
  unfold zi2s
  rw [Int16.toInt_toInt32]
  have h1 := Int16.le_toInt (Int32.ofInt (zw v)).toInt16
  have h2 := Int16.toInt_lt (Int32.ofInt (zw v)).toInt16
  exact ⟨h1, h2⟩
theorem k_cut {d : Nat} (hd : 1 ≤ d) {x v : Int} (h0 : 0 ≤ x) (h1 : x < 6) {σ : zF} (h : 0 ≤ σ (ysh x) 0 ∧ σ (ysh x) 0 ≤ 4) : zx d 76 [.inl (some (ysh x)), .inr (.inr v)] σ = zrj (ycut (σ (ysh x) 0) v) σ := by
  obtain ⟨d, rfl, -⟩ := y_d (k := 0) hd
  rw [e_X7_cut, k_fld0 h0 h1]
  generalize σ (ysh x) 0 = k at h ⊢
  unfold ycut
  by_cases q0 : k = 0
  · rw [if_pos q0, if_pos q0]
  · rw [if_neg q0, if_neg q0]
    by_cases q1 : k = 1
    · rw [if_pos q1, if_pos q1]
    · rw [if_neg q1, if_neg q1]
      by_cases q2 : k = 2
      · rw [if_pos q2, if_pos q2]
      · rw [if_neg q2, if_neg q2]
        by_cases q3 : k = 3
        · rw [if_pos q3, if_pos q3]
        · rw [if_neg q3, if_neg q3, if_pos (by omega)]
          split <;> rfl
theorem k_kept {d : Nat} (hd : 1 ≤ d) {k v : Int} (σ : zF) : zx d 247 [.inr (.inl k), .inr (.inr v)] σ = zrj (ycut k v) σ := by
  obtain ⟨d, rfl, -⟩ := y_d (k := 0) hd
  rw [e_X12_kept]
  unfold ycut
  repeat' split
  all_goals rfl
theorem yin_sr {x i : Int} (g0 : 0 ≤ x) (g1 : x < 6) : yin yAsv (ysr x) i = true := by
  rcases y_s6 g0 g1 with rfl | rfl | rfl | rfl | rfl | rfl <;> rfl
theorem y_put {c : Int} {N : zF} {G : yG} {σ : zF} {x i v : Int} (hI : yInv c N G σ) (g0 : 0 ≤ x) (g1 : x < 6) (hi : 0 ≤ i ∧ i < 60) (hv : σ (ysh x) 0 = 1 → -32768 ≤ v ∧ v < 32768) : yInv (c + 1) N G (zset (zset σ (ysr x) i v) 83 (60 * x + i) v) := by
  have hSh := hI.2.2.2.2.2.2.2.2.2
  have kb := ysh_b g0 g1
  refine yInv_sv hI (yf_set (yf_set yf_rf (yin_sr g0 g1)) rfl) (fun s h0 h1 => ?_)
  have sb := ysh_b h0 h1
  have z := hSh s h0 h1
  have q := fun e => ysr_sh g0 g1 h0 h1 (Eq.symm e)
  have tj : ∀ j, (zset (zset σ (ysr x) i v) 83 (60 * x + i) v) (ysh s) j = σ (ysh s) j := fun j => by rw [zset_k (by omega), zset_k q]
  have t81 : ∀ j, (zset (zset σ (ysr x) i v) 83 (60 * x + i) v) 81 j = σ 81 j := fun j => by rw [zset_k (by omega), zset_k (by omega)]
  have t82 : ∀ j, (zset (zset σ (ysr x) i v) 83 (60 * x + i) v) 82 j = σ 82 j := fun j => by rw [zset_k (by omega), zset_k (by omega)]
  have t41 : (zset (zset σ (ysr x) i v) 83 (60 * x + i) v) 41 0 = σ 41 0 := by rw [zset_k (by omega), zset_k (by omega)]
  unfold ySh1 at z ⊢
  rw [tj, tj, tj, t81, t82, t41]
  refine ⟨z.1, z.2.1, z.2.2.1, z.2.2.2.1, fun j j0 j1 => ?_⟩
  have w := z.2.2.2.2 j j0 j1
  by_cases e : s = x ∧ j = i
  · obtain ⟨rfl, rfl⟩ := e
    rw [zset_k (by omega), zset_hit rfl, zset_hit rfl]
    exact ⟨rfl, hv⟩
  · have e1 : (zset (zset σ (ysr x) i v) 83 (60 * x + i) v) (ysr s) j = σ (ysr s) j := by
      rw [zset_k (by omega)]
      by_cases es : s = x
      · subst es
        exact zset_off (fun h => e ⟨rfl, h⟩)
      · exact zset_k (by unfold ysr; omega)
    have e2 : (zset (zset σ (ysr x) i v) 83 (60 * x + i) v) 83 (60 * s + j) = σ 83 (60 * s + j) := by
      rw [zset_off (by omega), zset_k (by omega)]
    rw [e1, e2]
    exact w
theorem o_put {x1 x2 v : Int} : yStep 141 248 [.inr (.inl x1), .inr (.inl x2), .inr (.inr v)] := by
  intro d hd c N G σ hI c0 c1
  obtain ⟨d, rfl, hd'⟩ := y_d hd; have hd := hd'
  have hi := yInv_id hI
  have hSh := hI.2.2.2.2.2.2.2.2.2
  rw [e_X11_put, k_isShelf (by omega), zCI_ri, y01]
  by_cases h : 0 ≤ x1 ∧ x1 < 6
  · have kb := ysh_b h.1 h.2
    obtain ⟨z1, z2, z3, z4, z5⟩ := hSh x1 h.1 h.2
    rw [if_pos h, k_zaa h.1 h.2, k_cls h.1 h.2, k_refusalAt (by omega) h.1 h.2, zCI_ri]
    by_cases q1 : σ (ysh x1) 0 = -1 ∧ σ (ysh x1) 2 = -1
    · rw [if_pos q1]
      refine y_i ?_
      rw [e_X12_put, k_mShelf (by omega), zCI_ri, y01, if_pos h, if_pos h, if_pos (by omega)]
      exact y_i ⟨rfl, N, G, hi⟩
    · rw [if_neg q1]
      by_cases q2 : σ (ysh x1) 0 = -1
      · rw [if_pos q2]
        refine y_i ?_
        rw [e_X12_put, k_mShelf (by omega), zCI_ri, y01, if_pos h, if_pos h, if_neg (by omega), k_mRow (by omega) h, zCI_ri, y01, if_neg (by omega)]
        exact y_i ⟨rfl, N, G, hi⟩
      · rw [if_neg q2]
        have k0 : 0 ≤ σ (ysh x1) 0 ∧ σ (ysh x1) 0 ≤ 4 ∧ σ 81 x1 = σ (ysh x1) 0 := by omega
        by_cases q3 : 0 ≤ x2 ∧ x2 < σ (ysh x1) 1
        · rw [if_pos q3, if_pos rfl, k_fld3 h.1 h.2]
          refine y_b rfl (y_b rfl ?_)
          rw [k_cut (by omega) h.1 h.2 ⟨k0.1, k0.2.1⟩, zCJ_rj, k_zar h.1 h.2 (by omega)]
          refine y_i ?_
          have s81 : zset σ (ysr x1) x2 (ycut (σ (ysh x1) 0) v) 81 x1 = σ (ysh x1) 0 := (zset_k (by omega)).trans k0.2.2
          have s82 : zset σ (ysr x1) x2 (ycut (σ (ysh x1) 0) v) 82 x1 = σ (ysh x1) 1 := (zset_k (by omega)).trans z3.symm
          rw [e_X12_put, k_mShelf (by omega), zCI_ri, y01, if_pos h, if_pos h, s81, if_neg q2, k_mRow (by omega) h, s81, zCI_ri, y01, if_pos (by omega), if_pos h, s82, zw_i (x := σ (ysh x1) 1 - 1) (by omega) (by omega), k_within (by omega), zCI_ri, y01, if_pos (by omega), if_pos h, s81, k_kept (by omega), zCJ_rj, zw_i (x := 60 * x1) (by omega) (by omega), zw_i (x := 60 * x1 + x2) (by omega) (by omega), if_pos (by omega)]
          exact y_i ⟨rfl, N, G, y_put hI h.1 h.2 (by omega) (fun e => by rw [e]; exact ycut_1 v)⟩
        · rw [if_neg q3]
          refine y_i ?_
          rw [e_X12_put, k_mShelf (by omega), zCI_ri, y01, if_pos h, if_pos h, if_neg (by omega), k_mRow (by omega) h, zCI_ri, y01, if_pos (by omega), if_pos h, ← z3, zw_i (x := σ (ysh x1) 1 - 1) (by omega) (by omega), k_within (by omega), zCI_ri, y01, if_neg (by omega)]
          exact y_i ⟨rfl, N, G, hi⟩
  · rw [if_neg h]
    refine y_i ?_
    rw [e_X12_put, k_mShelf (by omega), zCI_ri, y01, if_neg h]
    exact y_i ⟨rfl, N, G, hi⟩
