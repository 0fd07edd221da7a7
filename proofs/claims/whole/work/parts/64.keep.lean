/-! keep -/
theorem ysh_ne {s x : Int} (h0 : 0 ≤ s) (h1 : s < 6) (g0 : 0 ≤ x) (g1 : x < 6) (h : ¬ s = x) : ¬ ysh s = ysh x := by unfold ysh; omega
theorem ysr_sh {s x : Int} (h0 : 0 ≤ s) (h1 : s < 6) (g0 : 0 ≤ x) (g1 : x < 6) : ¬ ysr s = ysh x := by unfold ysh ysr; omega
theorem ysh_b {s : Int} (h0 : 0 ≤ s) (h1 : s < 6) : 45 ≤ ysh s ∧ ysh s ≤ 55 ∧ 46 ≤ ysr s ∧ ysr s ≤ 56 := by unfold ysh ysr; omega
theorem yin_sh {x i : Int} (g0 : 0 ≤ x) (g1 : x < 6) : yin yAsv (ysh x) i = true := by
  rcases y_s6 g0 g1 with rfl | rfl | rfl | rfl | rfl | rfl <;> rfl
theorem k_holdStone {d : Nat} (hd : 1 ≤ d) {x : Int} (h0 : 0 ≤ x) (h1 : x < 6) (v : Int) (σ : zF) : zx d 71 [.inl (some (ysh x)), .inr (.inl v)] σ = zrv (zset (zset (zset σ (ysh x) 0 (-1)) (ysh x) 1 0) (ysh x) 2 v) := by
  obtain ⟨d, rfl, -⟩ := y_d (k := 0) hd
  rw [e_X7_holdStone, k_put0 h0 h1, k_put1 h0 h1, k_put2 h0 h1]
theorem y_keep {c : Int} {N : zF} {G : yG} {σ : zF} {x v w : Int} (hI : yInv c N G σ) (g0 : 0 ≤ x) (g1 : x < 6) (hv : v = -1 ∧ w = -1 ∨ 0 ≤ v ∧ v < σ 41 0 ∧ w = 10 + v) : yInv (c + 1) N G (zset (zset (zset (zset (zset σ (ysh x) 0 (-1)) (ysh x) 1 0) (ysh x) 2 v) 81 x w) 82 x 0) := by
  have hSh := hI.2.2.2.2.2.2.2.2.2
  have kb := ysh_b g0 g1
  refine yInv_sv hI (yf_set (yf_set (yf_set (yf_set (yf_set yf_rf (yin_sh g0 g1)) (yin_sh g0 g1)) (yin_sh g0 g1)) rfl) rfl) (fun s h0 h1 => ?_)
  have sb := ysh_b h0 h1
  have z := hSh s h0 h1
  unfold ySh1 at z ⊢
  have r83 : ∀ i, (zset (zset (zset (zset (zset σ (ysh x) 0 (-1)) (ysh x) 1 0) (ysh x) 2 v) 81 x w) 82 x 0) 83 i = σ 83 i := fun i => by rw [zset_k (by omega), zset_k (by omega), zset_k (by omega), zset_k (by omega), zset_k (by omega)]
  have rr : ∀ i, (zset (zset (zset (zset (zset σ (ysh x) 0 (-1)) (ysh x) 1 0) (ysh x) 2 v) 81 x w) 82 x 0) (ysr s) i = σ (ysr s) i := fun i => by
    have q := ysr_sh h0 h1 g0 g1
    rw [zset_k (by omega), zset_k (by omega), zset_k q, zset_k q, zset_k q]
  have r41 : (zset (zset (zset (zset (zset σ (ysh x) 0 (-1)) (ysh x) 1 0) (ysh x) 2 v) 81 x w) 82 x 0) 41 0 = σ 41 0 := by rw [zset_k (by omega), zset_k (by omega), zset_k (by omega), zset_k (by omega), zset_k (by omega)]
  by_cases e : s = x
  · subst e
    have t0 : (zset (zset (zset (zset (zset σ (ysh s) 0 (-1)) (ysh s) 1 0) (ysh s) 2 v) 81 s w) 82 s 0) (ysh s) 0 = -1 := by rw [zset_k (by omega), zset_k (by omega), zset_off (by omega), zset_off (by omega), zset_hit rfl]
    have t1 : (zset (zset (zset (zset (zset σ (ysh s) 0 (-1)) (ysh s) 1 0) (ysh s) 2 v) 81 s w) 82 s 0) (ysh s) 1 = 0 := by rw [zset_k (by omega), zset_k (by omega), zset_off (by omega), zset_hit rfl]
    have t2 : (zset (zset (zset (zset (zset σ (ysh s) 0 (-1)) (ysh s) 1 0) (ysh s) 2 v) 81 s w) 82 s 0) (ysh s) 2 = v := by rw [zset_k (by omega), zset_k (by omega), zset_hit rfl]
    have t81 : (zset (zset (zset (zset (zset σ (ysh s) 0 (-1)) (ysh s) 1 0) (ysh s) 2 v) 81 s w) 82 s 0) 81 s = w := by rw [zset_k (by omega), zset_hit rfl]
    have t82 : (zset (zset (zset (zset (zset σ (ysh s) 0 (-1)) (ysh s) 1 0) (ysh s) 2 v) 81 s w) 82 s 0) 82 s = 0 := zset_hit rfl
    rw [t0, t1, t2, t81, t82, r41]
    refine ⟨by omega, by omega, rfl, ?_, fun i i0 i1 => ?_⟩
    · rcases hv with q | q
      · exact Or.inl ⟨rfl, q.1, q.2⟩
      · exact Or.inr (Or.inl ⟨rfl, q.1, q.2.1, q.2.2⟩)
    · rw [rr, r83]
      exact ⟨(z.2.2.2.2 i i0 i1).1, fun q => absurd q (by decide)⟩
  · have q := ysh_ne h0 h1 g0 g1 e
    have tj : ∀ i, (zset (zset (zset (zset (zset σ (ysh x) 0 (-1)) (ysh x) 1 0) (ysh x) 2 v) 81 x w) 82 x 0) (ysh s) i = σ (ysh s) i := fun i => by rw [zset_k (by omega), zset_k (by omega), zset_k q, zset_k q, zset_k q]
    have t81 : (zset (zset (zset (zset (zset σ (ysh x) 0 (-1)) (ysh x) 1 0) (ysh x) 2 v) 81 x w) 82 x 0) 81 s = σ 81 s := by rw [zset_k (by omega), zset_off e, zset_k (by omega), zset_k (by omega), zset_k (by omega)]
    have t82 : (zset (zset (zset (zset (zset σ (ysh x) 0 (-1)) (ysh x) 1 0) (ysh x) 2 v) 81 x w) 82 x 0) 82 s = σ 82 s := by rw [zset_off e, zset_k (by omega), zset_k (by omega), zset_k (by omega), zset_k (by omega)]
    rw [tj, tj, tj, t81, t82, r41]
    refine ⟨z.1, z.2.1, z.2.2.1, z.2.2.2.1, fun i i0 i1 => ?_⟩
    rw [rr, r83]
    exact z.2.2.2.2 i i0 i1
theorem o_keep {x1 x2 : Int} : yStep 139 244 [.inr (.inl x1), .inr (.inl x2)] := by
  intro d hd c N G σ hI c0 c1
  obtain ⟨d, rfl, hd'⟩ := y_d hd; have hd := hd'
  have hi := yInv_id hI
  obtain ⟨u1, u2, u3, -⟩ := hI.2.2.2.2.2.2.2.2.1
  rw [e_X11_keep, k_isShelf (by omega), zCI_ri, y01]
  by_cases h : 0 ≤ x1 ∧ x1 < 6
  · have kb := ysh_b h.1 h.2
    have s35 : ∀ v, (zset (zset (zset σ (ysh x1) 0 (-1)) (ysh x1) 1 0) (ysh x1) 2 v) 57 35 = σ 41 0 := fun v => by rw [zset_k (by omega), zset_k (by omega), zset_k (by omega)]; exact u1.symm
    rw [if_pos h]
    by_cases q : x2 = -1
    · subst q
      rw [if_pos rfl, k_zaa h.1 h.2, k_cls h.1 h.2, k_holdStone (by omega) h.1 h.2, zCV_rv]
      refine y_i ?_
      rw [e_X12_keep, k_mShelf (by omega), zCI_ri, y01, if_pos h, s35, zw_i (x := σ 41 0 - 1) (by omega) (by omega), k_within (by omega), zCI_ri, y01, if_pos (show (-1 : Int) ≤ -1 ∧ -1 ≤ σ 41 0 - 1 by omega), if_pos (by decide), if_pos h, if_pos h]
      exact y_i ⟨rfl, N, G, y_keep hI h.1 h.2 (Or.inl ⟨rfl, rfl⟩)⟩
    · rw [if_neg q, k_isThere (by omega), zCI_ri, y01]
      by_cases p : 0 ≤ x2 ∧ x2 < σ 41 0
      · rw [if_pos p, k_zaa h.1 h.2, k_cls h.1 h.2, k_holdStone (by omega) h.1 h.2, zCV_rv]
        refine y_i ?_
        rw [e_X12_keep, k_mShelf (by omega), zCI_ri, y01, if_pos h, s35, zw_i (x := σ 41 0 - 1) (by omega) (by omega), k_within (by omega), zCI_ri, y01, if_pos (show (-1 : Int) ≤ x2 ∧ x2 ≤ σ 41 0 - 1 by omega), if_neg (show ¬ x2 < 0 by omega), if_pos h, if_pos h, zw_i (x := 10 + x2) (by omega) (by omega)]
        exact y_i ⟨rfl, N, G, y_keep hI h.1 h.2 (Or.inr ⟨p.1, p.2, rfl⟩)⟩
      · rw [if_neg p]
        refine y_i ?_
        rw [e_X12_keep, k_mShelf (by omega), zCI_ri, y01, if_pos h, ← u1, zw_i (x := σ 41 0 - 1) (by omega) (by omega), k_within (by omega), zCI_ri, y01, if_neg (show ¬ ((-1 : Int) ≤ x2 ∧ x2 ≤ σ 41 0 - 1) by omega)]
        exact y_i ⟨rfl, N, G, hi⟩
  · rw [if_neg h]
    refine y_i ?_
    rw [e_X12_keep, k_mShelf (by omega), zCI_ri, y01, if_neg h]
    exact y_i ⟨rfl, N, G, hi⟩
