/-! of; what a change is -/
def ymc (a : Int) : Nat := if a < 4 then 60 else if a = 4 then 61 else 62
def ymi (a x : Int) : Int := if a < 4 then 12 * a + x else x
theorem k_get {d : Nat} (hd : 1 ≤ d) {x a : Int} (σ : zF) (h0 : 0 ≤ a) (h1 : a ≤ 5) (hx : 0 ≤ x) (hb : 4 ≤ a ∧ a ≤ 5 ∧ x < 4 ∨ x < 12 ∧ ¬ (4 ≤ a ∧ a ≤ 5)) : zx d 166 [.inl (some 57), .inr (.inl x), .inr (.inl a)] σ = zri (σ (ymc a) (ymi a x)) σ := by
  obtain ⟨d, rfl, -⟩ := y_d (k := 0) hd
  rw [e_X12_get]
  unfold ymc ymi
  by_cases h : a < 4
  · rw [if_pos h, if_pos h, if_pos h, zw_i (x := 12 * a) (by omega) (by omega), zw_i (by omega) (by omega), if_pos (by omega)]
  · rw [if_neg h, if_neg h, if_neg h]
    by_cases h4 : a = 4
    · rw [if_pos h4, if_pos h4, if_pos (by omega)]
    · rw [if_neg h4, if_neg h4, if_pos (by omega)]
theorem k_bec {d : Nat} (hd : 1 ≤ d) {x a : Int} (v : Int) (σ : zF) (h0 : 0 ≤ a) (h1 : a ≤ 5) (hx : 0 ≤ x) (hb : 4 ≤ a ∧ a ≤ 5 ∧ x < 4 ∨ x < 12 ∧ ¬ (4 ≤ a ∧ a ≤ 5)) : zx d 167 [.inl (some 57), .inr (.inl x), .inr (.inl a), .inr (.inl v)] σ = zrv (zset σ (ymc a) (ymi a x) v) := by
  obtain ⟨d, rfl, -⟩ := y_d (k := 0) hd
  rw [e_X12_becomes]
  unfold ymc ymi
  by_cases h : a < 4
  · rw [if_pos h, if_pos h, if_pos h, zw_i (x := 12 * a) (by omega) (by omega), zw_i (by omega) (by omega), if_pos (by omega)]
  · rw [if_neg h, if_neg h, if_neg h]
    by_cases h4 : a = 4
    · rw [if_pos h4, if_pos h4, if_pos (by omega)]
    · rw [if_neg h4, if_neg h4, if_pos (by omega)]
theorem yfit_0 {n q k v : Int} : yfit n q k 0 v ↔ 0 ≤ k ∧ k < n ∧ 1 ≤ v ∧ v ≤ 99 := by simp [yfit]
theorem yfit_1 {n q k v : Int} : yfit n q k 1 v ↔ 0 ≤ k ∧ k < n ∧ -9 ≤ v ∧ v ≤ 9 := by simp [yfit]
theorem yfit_2 {n q k v : Int} : yfit n q k 2 v ↔ 0 ≤ k ∧ k < n ∧ (v = -1 ∨ 0 ≤ v ∧ v < n ∧ ¬ v = k) := by simp [yfit]
theorem yfit_3 {n q k v : Int} : yfit n q k 3 v ↔ 0 ≤ k ∧ k < n ∧ (v = 0 ∨ v = 1) := by simp [yfit]
theorem yfit_4 {n q k v : Int} : yfit n q k 4 v ↔ 0 ≤ k ∧ k < q ∧ 0 ≤ v ∧ v < 8 := by simp [yfit]
theorem yfit_5 {n q k v : Int} : yfit n q k 5 v ↔ 0 ≤ k ∧ k < q ∧ 0 ≤ v ∧ v ≤ 12 := by simp [yfit]
theorem y_a6 {a : Int} (h0 : 0 ≤ a) (h1 : a ≤ 5) : a = 0 ∨ a = 1 ∨ a = 2 ∨ a = 3 ∨ a = 4 ∨ a = 5 := by omega
/-- what now stands is the same and fits -/
theorem y_now {c : Int} {N : zF} {G : yG} {σ : zF} {x a : Int} (hI : yInv c N G σ) (h1 : a ≤ 5) (h : yhas (σ 1 0) (σ 1 1) x a) : σ (ymc a) (ymi a x) = σ (ycl a) x ∧ yfit (σ 1 0) (σ 1 1) x a (σ (ycl a) x) := by
  obtain ⟨n1, n2, n3, n4⟩ := yI_n hI
  obtain ⟨p1, p2, p3, p4⟩ := hI.2.2.2.1
  have hC := hI.1.2.1
  have hM := hI.2.1.2.2.2.1
  have hB := hI.1.1
  unfold yhas at h
  rcases y_a6 (a := a) (by omega) h1 with rfl | rfl | rfl | rfl | rfl | rfl
  · have z := hC.2.2 x (by omega) (by omega)
    have y := hM.2.2 x (by omega) (by omega)
    have b := hB.2.2.1 x (by omega) (by omega)
    refine ⟨?_, yfit_0.2 ?_⟩
    · show σ 60 (12 * 0 + x) = σ 4 x
      rw [show (12 * 0 + x : Int) = x by omega, y.2.2.1, z.2.2.1]
    · show _ ∧ _ ∧ 1 ≤ σ 4 x ∧ σ 4 x ≤ 99
      rw [z.2.2.1]; omega
  · have z := hC.2.2 x (by omega) (by omega)
    have y := hM.2.2 x (by omega) (by omega)
    have b := hB.2.2.2.1 x (by omega) (by omega)
    refine ⟨?_, yfit_1.2 ?_⟩
    · show σ 60 (12 * 1 + x) = σ 5 x
      rw [show (12 * 1 + x : Int) = 12 + x by omega, y.2.2.2.2.2, z.2.2.2.2.2]
    · show _ ∧ _ ∧ -9 ≤ σ 5 x ∧ σ 5 x ≤ 9
      rw [z.2.2.2.2.2]; omega
  · have z := hC.2.2 x (by omega) (by omega)
    have y := hM.2.2 x (by omega) (by omega)
    have b := (hB.2.2.1 x (by omega) (by omega)).2.2.2.2.2.2.2.1
    refine ⟨?_, yfit_2.2 ?_⟩
    · show σ 60 (12 * 2 + x) = σ 6 x
      rw [show (12 * 2 + x : Int) = 24 + x by omega, y.2.2.2.1, z.2.2.2.1]
    · show _ ∧ _ ∧ (σ 6 x = -1 ∨ 0 ≤ σ 6 x ∧ σ 6 x < σ 1 0 ∧ ¬ σ 6 x = x)
      rw [z.2.2.2.1, n1]; exact ⟨by omega, by omega, b⟩
  · have z := hC.2.2 x (by omega) (by omega)
    have y := hM.2.2 x (by omega) (by omega)
    have b := (hB.2.2.1 x (by omega) (by omega)).2.2.2.2.2.2.2.2
    refine ⟨?_, yfit_3.2 ?_⟩
    · show σ 60 (12 * 3 + x) = σ 7 x
      rw [show (12 * 3 + x : Int) = 36 + x by omega, y.2.2.2.2.1, z.2.2.2.2.1]
    · show _ ∧ _ ∧ (σ 7 x = 0 ∨ σ 7 x = 1)
      rw [z.2.2.2.2.1]; exact ⟨by omega, by omega, b⟩
  · have z := p4 x (by omega) (by omega)
    refine ⟨z.1.symm, yfit_4.2 ?_⟩
    show _ ∧ _ ∧ 0 ≤ σ 8 x ∧ σ 8 x < 8
    have w := z.2.2 (by omega)
    omega
  · have z := p4 x (by omega) (by omega)
    refine ⟨z.2.1.symm, yfit_5.2 ?_⟩
    show _ ∧ _ ∧ 0 ≤ σ 9 x ∧ σ 9 x ≤ 12
    have w := z.2.2 (by omega)
    omega
theorem o_of {x1 x2 : Int} : yStep 109 169 [.inr (.inl x1), .inr (.inl x2)] := by
  intro d hd c N G σ hI c0 c1
  obtain ⟨d, rfl, hd'⟩ := y_d hd; have hd := hd'
  obtain ⟨n1, n2, n3, n4⟩ := yI_n hI
  have hp := hI.2.2.2.1
  have e57 : σ 57 0 = σ 1 0 := n2.trans n1.symm
  rw [e_X11_of, k_has (by omega), zCI_ri, y01]
  refine y_if (fun h => ?_) (fun h => y_i ?_)
  · have h0 : 0 ≤ x2 ∧ x2 ≤ 7 := by unfold yhas at h; omega
    have hx : 0 ≤ x1 := by unfold yhas at h; omega
    have hb : 4 ≤ x2 ∧ x2 ≤ 5 ∧ x1 < 4 ∨ x1 < 12 ∧ ¬ (4 ≤ x2 ∧ x2 ≤ 5) := by have := hp.2.2.1; unfold yhas at h; omega
    rw [k_col (by omega), zCR_rr, k_colg h0.1 h0.2 hx hb]
    refine y_i ?_
    rw [e_X12_of, k_within (by omega), zCI_ri, y01]
    by_cases q : 6 ≤ x2 ∧ x2 ≤ 7
    · have xr : 0 ≤ x1 ∧ x1 < σ 1 0 := by unfold yhas at h; omega
      have z := hI.1.2.1.2.2 x1 hx (by omega)
      have y := hI.2.1.2.2.2.1.2.2 x1 hx (by omega)
      rw [if_pos q, k_mRoad (by omega) x1 (by omega), zCI_ri, y01, if_pos (by omega)]
      rcases (by omega : x2 = 6 ∨ x2 = 7) with rfl | rfl
      · rw [if_pos rfl, if_pos (by omega)]
        exact y_i ⟨y.1.trans z.1.symm, N, G, yInv_id hI⟩
      · rw [if_neg (by decide), if_pos (by omega)]
        exact y_i ⟨y.2.1.trans z.2.1.symm, N, G, yInv_id hI⟩
    · rw [if_neg q, k_isOf (by omega) _ _ (by omega) (by rw [← hp.1]; exact ⟨hp.2.1, hp.2.2.1⟩), zCI_ri, y01, e57, ← hp.1, if_pos (show x2 ≤ 5 ∧ yhas (σ 1 0) (σ 1 1) x1 x2 from ⟨by omega, h⟩), k_get (by omega) σ h0.1 (by omega) hx hb, zCI_ri]
      exact y_i ⟨(y_now hI (by omega) h).1, N, G, yInv_id hI⟩
  · rw [e_X12_of, k_within (by omega), zCI_ri, y01, k_mRoad (by omega) x1 (by omega), k_isOf (by omega) _ _ (by omega) (by rw [← hp.1]; exact ⟨hp.2.1, hp.2.2.1⟩), zCI_ri, zCI_ri, y01, y01, e57, ← hp.1]
    by_cases q : 6 ≤ x2 ∧ x2 ≤ 7
    · rw [if_pos q, if_neg (show ¬ (0 ≤ x1 ∧ x1 < σ 1 0) from fun w => h (Or.inl ⟨Or.inr q, w⟩))]
      exact y_i ⟨rfl, N, G, yInv_id hI⟩
    · rw [if_neg q, if_neg (show ¬ (x2 ≤ 5 ∧ yhas (σ 1 0) (σ 1 1) x1 x2) from fun w => h w.2)]
      exact y_i ⟨rfl, N, G, yInv_id hI⟩
