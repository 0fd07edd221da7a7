/-! undo, redo -/
theorem zset_comm {σ : zF} {k k' : Nat} {i i' v v' : Int} (h : ¬ k = k') : zset (zset σ k i v) k' i' v' = zset (zset σ k' i' v') k i v := by
  funext q j
  unfold zset
  by_cases e : q = k'
  · subst e
    by_cases e2 : j = i'
    · rw [if_pos ⟨rfl, e2⟩, if_neg (fun z => h z.1.symm), if_pos ⟨rfl, e2⟩]
    · rw [if_neg (fun z => e2 z.2), if_neg (fun z => h z.1.symm), if_neg (fun z => h z.1.symm), if_neg (fun z => e2 z.2)]
  · rw [if_neg (fun z => e z.1), if_neg (show ¬ (q = k' ∧ j = i') from fun z => e z.1)]
theorem ycl_b (a : Int) : ycl a ≤ 9 := by
  unfold ycl
  repeat' split
  all_goals omega
theorem ymc_b (a : Int) : 60 ≤ ymc a ∧ ymc a ≤ 62 := by
  unfold ymc
  repeat' split
  all_goals omega
abbrev yAhs : List Nat × List (Nat × Int) := ([33, 34, 35, 36, 78], [(32, 5), (32, 6), (57, 32), (57, 33)])
theorem yInv_hs {c : Int} {N : zF} {G : yG} {σ t : zF} (hI : yInv c N G σ) (f : yf yAhs σ t) (h : yHs t) : yInv (c + 1) N G t := by
  obtain ⟨hTr, hLd, hTp, hHs, hIm, hSt, hSh⟩ := hI.2.2.2
  exact ⟨yP_f hI.1 f (by decide), yY_f hI.2.1 f (by decide), by rw [f 17 5 rfl]; have := hI.2.2.1; omega, yTr_g (yf_g f (by decide)) hTr, yLd_g (yf_g f (by decide)) hLd, yTp_g (yf_g f (by decide)) hTp, h, yIm_g (yf_g f (by decide)) hIm, ySt_g (yf_g f (by decide)) hSt, ySh_g (yf_g f (by decide)) hSh⟩
/-- a has its column there -/
theorem y_hb {c : Int} {N : zF} {G : yG} {σ : zF} {x a : Int} (hI : yInv c N G σ) (h : yhas (σ 1 0) (σ 1 1) x a) : 0 ≤ a ∧ a ≤ 7 ∧ 0 ≤ x ∧ (4 ≤ a ∧ a ≤ 5 ∧ x < 4 ∨ x < 12 ∧ ¬ (4 ≤ a ∧ a ≤ 5)) := by
  obtain ⟨n1, n2, n3, n4⟩ := yI_n hI
  have := hI.2.2.2.1.2.2.1
  unfold yhas at h
  omega
theorem k_stepBack {d : Nat} (hd : 2 ≤ d) {σ : zF} {i : Int} (h : 0 ≤ i ∧ i < 40) (hi : σ 32 5 = i + 1) (g : 0 ≤ σ 34 i ∧ σ 34 i ≤ 7 ∧ 0 ≤ σ 33 i ∧ (4 ≤ σ 34 i ∧ σ 34 i ≤ 5 ∧ σ 33 i < 4 ∨ σ 33 i < 12 ∧ ¬ (4 ≤ σ 34 i ∧ σ 34 i ≤ 5))) : zx d 3 [.inl (some 32)] σ = zrv (zset (zset σ 32 5 i) (ycl (σ 34 i)) (σ 33 i) (σ 35 i)) := by
  obtain ⟨d, rfl, hd'⟩ := y_d hd
  have e5 : zset σ 32 5 i 32 5 = i := rfl
  have e3 : zset σ 32 5 i 33 i = σ 33 i := rfl
  have e35 : zset σ 32 5 i 35 i = σ 35 i := rfl
  rw [e_X0_stepBack, hi, if_pos (by omega), show i + 1 - 1 = i by omega, zw_i (by omega) (by omega), if_pos h, k_col hd', zCR_rr, e5, if_pos h, if_pos h, e3, e35, k_cols g.1 g.2.1 g.2.2.1 g.2.2.2]
theorem k_stepOn {d : Nat} (hd : 2 ≤ d) {σ : zF} {i : Int} (h : 0 ≤ i ∧ i < 40) (hi : σ 32 5 = i) (h6 : i < σ 32 6) (g : 0 ≤ σ 34 i ∧ σ 34 i ≤ 7 ∧ 0 ≤ σ 33 i ∧ (4 ≤ σ 34 i ∧ σ 34 i ≤ 5 ∧ σ 33 i < 4 ∨ σ 33 i < 12 ∧ ¬ (4 ≤ σ 34 i ∧ σ 34 i ≤ 5))) : zx d 4 [.inl (some 32)] σ = zrv (zset (zset σ (ycl (σ 34 i)) (σ 33 i) (σ 36 i)) 32 5 (i + 1)) := by
  obtain ⟨d, rfl, hd'⟩ := y_d hd
  have e5 : zset σ (ycl (σ 34 i)) (σ 33 i) (σ 36 i) 32 5 = i := (zset_k (by have := ycl_b (σ 34 i); omega)).trans hi
  rw [e_X0_stepOn, hi, if_pos h6, if_pos h, k_col hd', zCR_rr, hi, if_pos h, if_pos h, e5, k_cols g.1 g.2.1 g.2.2.1 g.2.2.2, zw_i (by omega) (by omega)]
set_option maxHeartbeats 1000000 in
theorem o_undo : yStep 134 170 [] := by
  intro d hd c N G σ hI c0 c1
  obtain ⟨d, rfl, hd'⟩ := y_d hd; have hd := hd'
  have hH := hI.2.2.2.2.2.2.1
  obtain ⟨g1, g2, g3, g4, g5, g6⟩ := hH
  rw [e_X11_undo]
  refine y_if (fun h => y_i ?_) (fun h => ?_)
  · rw [e_X12_undo, ← g1, if_pos h]
    exact y_i ⟨rfl, N, G, yInv_id hI⟩
  · obtain ⟨i, hi⟩ : ∃ i, σ 32 5 = i + 1 := ⟨σ 32 5 - 1, by omega⟩
    have z := g6 i (by omega) (by omega)
    obtain ⟨z1, z2, z3, z4, z5, z6⟩ := z
    have hb := y_hb hI (yfit_x z5)
    have ha := yfit_a z5
    obtain ⟨N', hN⟩ := y_set hI z5
    rw [k_stepBack (by omega) (i := i) (by omega) hi hb, zCV_rv]
    have e5 : zset (zset σ 32 5 i) (ycl (σ 34 i)) (σ 33 i) (σ 35 i) 32 5 = i := zset_k (by have := ycl_b (σ 34 i); omega)
    rw [e5]
    refine y_i ?_
    have nA := ycl_b (σ 34 i)
    have nB := ymc_b (σ 34 i)
    have s33 : zset (zset σ 32 5 i) (ycl (σ 34 i)) (σ 33 i) (σ 35 i) 57 33 = i + 1 := (zset_k (by omega)).trans (g1.symm.trans hi)
    have s78 : ∀ j, zset (zset σ 32 5 i) (ycl (σ 34 i)) (σ 33 i) (σ 35 i) 78 j = σ 78 j := fun j => zset_k (by omega)
    rw [e_X12_undo, s33, if_neg (by omega), show i + 1 - 1 = i by omega, zw_i (x := i) (by omega) (by omega), zw_i (x := 4 * i) (by omega) (by omega), zw_i (x := 4 * i + 1) (by omega) (by omega), zw_i (x := 4 * i + 2) (by omega) (by omega), if_pos (by omega), if_pos (by omega), if_pos (by omega), s78, s78, s78, ← z1, ← z2, ← z3, k_bec (by omega) _ _ ha.1 ha.2 hb.2.2.1 hb.2.2.2, zCV_rv]
    have et : zset (zset (zset (zset σ 32 5 i) (ycl (σ 34 i)) (σ 33 i) (σ 35 i)) 57 33 i) (ymc (σ 34 i)) (ymi (σ 34 i) (σ 33 i)) (σ 35 i) = zset (zset (zset (zset σ (ycl (σ 34 i)) (σ 33 i) (σ 35 i)) (ymc (σ 34 i)) (ymi (σ 34 i) (σ 33 i)) (σ 35 i)) 32 5 i) 57 33 i := by
      rw [zset_comm (k := 57) (by omega), zset_comm (k := 32) (k' := ycl (σ 34 i)) (by omega), zset_comm (k := 32) (k' := ymc (σ 34 i)) (by omega)]
    rw [et]
    have hs := hN.2.2.2.2.2.2.1
    have e325 : zset (zset σ (ycl (σ 34 i)) (σ 33 i) (σ 35 i)) (ymc (σ 34 i)) (ymi (σ 34 i) (σ 33 i)) (σ 35 i) 32 5 = i + 1 := by
      rw [zset_k (by omega), zset_k (by omega)]; exact hi
    generalize zset (zset σ (ycl (σ 34 i)) (σ 33 i) (σ 35 i)) (ymc (σ 34 i)) (ymi (σ 34 i) (σ 33 i)) (σ 35 i) = s at hN hs e325
    obtain ⟨k1, k2, k3, k4, k5, k6⟩ := hs
    refine y_i ⟨rfl, N', G, yInv_hs hN (yf_set (yf_set yf_rf rfl) rfl) ⟨rfl, k2, ?_, ?_, k5, k6⟩⟩
    · show 0 ≤ i
      omega
    · show i ≤ s 32 6
      omega
set_option maxHeartbeats 1000000 in
theorem o_redo : yStep 135 171 [] := by
  intro d hd c N G σ hI c0 c1
  obtain ⟨d, rfl, hd'⟩ := y_d hd; have hd := hd'
  have hH := hI.2.2.2.2.2.2.1
  obtain ⟨g1, g2, g3, g4, g5, g6⟩ := hH
  rw [e_X11_redo]
  refine y_if (fun h => y_i ?_) (fun h => ?_)
  · rw [e_X12_redo, ← g1, ← g2, if_pos h.symm]
    exact y_i ⟨rfl, N, G, yInv_id hI⟩
  · obtain ⟨i, hi⟩ : ∃ i, σ 32 5 = i := ⟨σ 32 5, rfl⟩
    have z := g6 i (by omega) (by omega)
    obtain ⟨z1, z2, z3, z4, z5, z6⟩ := z
    have hb := y_hb hI (yfit_x z6)
    have ha := yfit_a z6
    obtain ⟨N', hN⟩ := y_set hI z6
    rw [k_stepOn (by omega) (i := i) (by omega) hi (by omega) hb, zCV_rv]
    have nA := ycl_b (σ 34 i)
    have nB := ymc_b (σ 34 i)
    have e5 : zset (zset σ (ycl (σ 34 i)) (σ 33 i) (σ 36 i)) 32 5 (i + 1) 32 5 = i + 1 := rfl
    have e6 : zset (zset σ (ycl (σ 34 i)) (σ 33 i) (σ 36 i)) 32 5 (i + 1) 32 6 = σ 32 6 := zset_k (σ := σ) (by omega)
    rw [e5, e6]
    refine y_i ?_
    have s33 : zset (zset σ (ycl (σ 34 i)) (σ 33 i) (σ 36 i)) 32 5 (i + 1) 57 33 = i := (zset_k (σ := σ) (by omega)).trans (g1.symm.trans hi)
    have s32 : zset (zset σ (ycl (σ 34 i)) (σ 33 i) (σ 36 i)) 32 5 (i + 1) 57 32 = σ 32 6 := (zset_k (σ := σ) (by omega)).trans g2.symm
    have s78 : ∀ j, zset (zset σ (ycl (σ 34 i)) (σ 33 i) (σ 36 i)) 32 5 (i + 1) 78 j = σ 78 j := fun j => zset_k (σ := σ) (by omega)
    rw [e_X12_redo, s33, s32, if_neg (by omega), zw_i (x := 4 * i) (by omega) (by omega), zw_i (x := 4 * i + 1) (by omega) (by omega), zw_i (x := 4 * i + 3) (by omega) (by omega), if_pos (by omega), if_pos (by omega), if_pos (by omega), s78, s78, s78, ← z1, ← z2, ← z4, k_bec (by omega) _ _ ha.1 ha.2 hb.2.2.1 hb.2.2.2, zCV_rv]
    have u33 : zset (zset (zset σ (ycl (σ 34 i)) (σ 33 i) (σ 36 i)) 32 5 (i + 1)) (ymc (σ 34 i)) (ymi (σ 34 i) (σ 33 i)) (σ 36 i) 57 33 = i := (zset_k (by omega)).trans s33
    have u32 : zset (zset (zset σ (ycl (σ 34 i)) (σ 33 i) (σ 36 i)) 32 5 (i + 1)) (ymc (σ 34 i)) (ymi (σ 34 i) (σ 33 i)) (σ 36 i) 57 32 = σ 32 6 := (zset_k (by omega)).trans s32
    rw [u33, u32, zw_i (x := i + 1) (by omega) (by omega), zset_comm (k := 32) (k' := ymc (σ 34 i)) (by omega)]
    have hs := hN.2.2.2.2.2.2.1
    have e325 : zset (zset σ (ycl (σ 34 i)) (σ 33 i) (σ 36 i)) (ymc (σ 34 i)) (ymi (σ 34 i) (σ 33 i)) (σ 36 i) 32 6 = σ 32 6 := by
      rw [zset_k (by omega), zset_k (by omega)]
    generalize zset (zset σ (ycl (σ 34 i)) (σ 33 i) (σ 36 i)) (ymc (σ 34 i)) (ymi (σ 34 i) (σ 33 i)) (σ 36 i) = s at hN hs e325
    obtain ⟨k1, k2, k3, k4, k5, k6⟩ := hs
    refine y_i ⟨rfl, N', G, yInv_hs hN (yf_set (yf_set yf_rf rfl) rfl) ⟨rfl, k2, ?_, ?_, k5, k6⟩⟩
    · show 0 ≤ i + 1
      omega
    · show i + 1 ≤ s 32 6
      omega
