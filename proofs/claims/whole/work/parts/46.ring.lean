/-! rings and chains, 2 -/
/-- what has been met, the road that comes next -/
def yrg (N : zF) (road met r : Int) : Prop := zin met ∧ yb met road.toNat = true ∧ ∀ c, 0 ≤ c → c < N 0 0 → yb met c.toNat = true → N 4 c = r ∨ 0 ≤ N 4 c ∧ yb met (N 4 c).toNat = true ∧ ¬ N 4 c = road
theorem yrg_s {N : zF} {road met r : Int} (h : yrg N road met r) (r0 : 0 ≤ r) (r1 : r < 12) (hr : yb met r.toNat = false) : yrg N road (zor met (zshl 1 r)) (N 4 r) := by
  obtain ⟨h1, h2, h3⟩ := h
  refine ⟨zor_in _ _, ?_, fun c c0 c1 hc => ?_⟩
  · rw [yb_or, h2, Bool.true_or]
  · rw [yb_or, yb_1 r0 (by omega), Bool.or_eq_true, decide_eq_true_eq] at hc
    rcases hc with hc | hc
    · rcases h3 c c0 c1 hc with e | ⟨e0, e1, e2⟩
      · right
        refine ⟨by omega, ?_, ?_⟩
        · rw [e, yb_or, yb_1 r0 (by omega), decide_eq_true (by omega), Bool.or_true]
        · rw [e]
          rintro rfl
          rw [h2] at hr
          cases hr
      · exact Or.inr ⟨e0, by rw [yb_or, e1, Bool.true_or], e2⟩
    · left
      have : c = r := by omega
      rw [this]
theorem c_ring_no {d : Nat} {N σ : zF} {road met : Int} (hB : yBn N) (hC : yC N σ) (hcl : ∀ c, 0 ≤ c → c < N 0 0 → yb met c.toNat = true → 0 ≤ N 4 c ∧ yb met (N 4 c).toNat = true ∧ ¬ N 4 c = road) : ∀ (j : Nat) (k a : Int), 0 ≤ k → k + j = 13 → 0 ≤ a → a < N 0 0 → yb met a.toNat = true → ¬ a = road → P_X3_ringOf_9 d road a k σ = zri (-2) σ := by
  have n1 := hB.2.1
  intro j
  induction j with
  | zero =>
    intro k a k0 hk a0 a1 ha hne
    rw [e_X3_ringOf_9, if_pos (by omega)]
  | succ j ih =>
    intro k a k0 hk a0 a1 ha hne
    have hb := hB.2.2.1 a a0 a1
    have hc := hcl a a0 a1 ha
    rw [e_X3_ringOf_9, if_neg (by omega), if_neg (by omega), if_neg hne, if_pos (by omega), (hC.2.2 a a0 (by omega)).2.2.2.1, zw_i (x := k + 1) (by omega) (by omega)]
    exact ih (k + 1) (N 4 a) (by omega) (by omega) hc.1 (by rcases hb.2.2.2.2.2.2.2.1 with z | z <;> omega) hc.2.1 hc.2.2
theorem y_ring {d d' : Nat} {N σ τ : zF} {p m : Int → Int} {road : Int} (hB : yBn N) (hC : yC N σ) (hM : yM N p m τ) (hr : 0 ≤ road ∧ road < N 0 0) : ∀ (j : Nat) (met r sum : Int), yfr met = (j : Int) → sum + j = 11 → 0 ≤ sum → (r = -1 ∨ 0 ≤ r ∧ r < N 0 0) → yrg N road met r → ∃ v, P_X3_ringOf_9 d' road r (sum + 1) σ = zri v σ ∧ P_X12_ring_37 d road 0 met r sum τ = zri v τ := by
  have n1 := hB.2.1
  intro j
  induction j with
  | zero =>
    intro met r sum hf hs s0 hrr hg
    rw [e_X3_ringOf_9, if_neg (by omega), e_X12_ring_37]
    by_cases q : r < 0
    · rw [if_pos (by omega), if_pos q, if_neg (by omega), if_neg (by omega)]
      exact ⟨-2, rfl, rfl⟩
    · rw [if_neg (by omega), if_neg q]
      have ht : yb met r.toNat = true := by
        rcases e : yb met r.toNat with _ | _
        · have := yfr_s (by omega) (by omega) e
          omega
        · rfl
      have ht0 : ¬ zand (zshr met r) 1 = 0 := by rw [yb_g0 (by omega) (by omega), ht]; decide
      rw [if_neg ht0, if_neg (show ¬ (0 : Int) = 1 by decide)]
      by_cases q2 : r = road
      · rw [if_pos q2, if_pos q2, zw_i (x := sum + 1) (by omega) (by omega)]
        exact ⟨sum + 1, rfl, rfl⟩
      · rw [if_neg q2, if_neg q2]
        refine ⟨-2, ?_, rfl⟩
        have hcl : ∀ c, 0 ≤ c → c < N 0 0 → yb met c.toNat = true → 0 ≤ N 4 c ∧ yb met (N 4 c).toNat = true ∧ ¬ N 4 c = road := by
          intro c c0 c1 hc
          rcases hg.2.2 c c0 c1 hc with e | e
          · rw [e]; exact ⟨by omega, ht, q2⟩
          · exact e
        have hb := hB.2.2.1 r (by omega) (by omega)
        have hc := hcl r (by omega) (by omega) ht
        rw [if_pos (by omega), (hC.2.2 r (by omega) (by omega)).2.2.2.1, zw_i (x := sum + 1 + 1) (by omega) (by omega)]
        exact c_ring_no hB hC hcl (13 - (sum + 1 + 1)).toNat _ _ (by omega) (by omega) hc.1 (by rcases hb.2.2.2.2.2.2.2.1 with z | z <;> omega) hc.2.1 hc.2.2
  | succ j ih =>
    intro met r sum hf hs s0 hrr hg
    rw [e_X3_ringOf_9, if_neg (by omega), e_X12_ring_37]
    by_cases q : r < 0
    · rw [if_pos (by omega), if_pos q, if_neg (by omega), if_neg (by omega)]
      exact ⟨-2, rfl, rfl⟩
    · rw [if_neg (by omega), if_neg q]
      have hb := hB.2.2.1 r (by omega) (by omega)
      rcases e : yb met r.toNat with _ | _
      · have ht0 : zand (zshr met r) 1 = 0 := by rw [yb_g0 (by omega) (by omega), e]
        have hne : ¬ r = road := by
          rintro rfl
          rw [hg.2.1] at e
          cases e
        have fs := yfr_s (by omega) (by omega) e
        rw [if_neg hne, if_pos ht0, if_pos (by omega), (hC.2.2 r (by omega) (by omega)).2.2.2.1, zw_i (x := 24 + r) (by omega) (by omega), if_pos (by omega), (hM.2.2 r (by omega) (by omega)).2.2.2.1, zw_i (x := sum + 1 + 1) (by omega) (by omega), zw_i (x := sum + 1) (by omega) (by omega)]
        exact ih (zor met (zshl 1 r)) (N 4 r) (sum + 1) (by omega) (by omega) (by omega) (by rcases hb.2.2.2.2.2.2.2.1 with z | z <;> omega) (yrg_s hg (by omega) (by omega) e)
      · have ht0 : ¬ zand (zshr met r) 1 = 0 := by rw [yb_g0 (by omega) (by omega), e]; decide
        rw [if_neg ht0, if_neg (show ¬ (0 : Int) = 1 by decide)]
        by_cases q2 : r = road
        · rw [if_pos q2, if_pos q2, zw_i (x := sum + 1) (by omega) (by omega)]
          exact ⟨sum + 1, rfl, rfl⟩
        · rw [if_neg q2, if_neg q2]
          refine ⟨-2, ?_, rfl⟩
          have hcl : ∀ c, 0 ≤ c → c < N 0 0 → yb met c.toNat = true → 0 ≤ N 4 c ∧ yb met (N 4 c).toNat = true ∧ ¬ N 4 c = road := by
            intro c c0 c1 hc
            rcases hg.2.2 c c0 c1 hc with e' | e'
            · rw [e']; exact ⟨by omega, e, q2⟩
            · exact e'
          have hc := hcl r (by omega) (by omega) e
          rw [if_pos (by omega), (hC.2.2 r (by omega) (by omega)).2.2.2.1, zw_i (x := sum + 1 + 1) (by omega) (by omega)]
          exact c_ring_no hB hC hcl (13 - (sum + 1 + 1)).toNat _ _ (by omega) (by omega) hc.1 (by rcases hb.2.2.2.2.2.2.2.1 with z | z <;> omega) hc.2.1 hc.2.2
theorem y_chain {d d' : Nat} {N σ τ : zF} {p m : Int → Int} {road : Int} (hB : yBn N) (hC : yC N σ) (hM : yM N p m τ) : ∀ (j : Nat) (met r sum : Int), yfr met = (j : Int) → sum + j = 11 → 0 ≤ sum → (r = -1 ∨ 0 ≤ r ∧ r < N 0 0) → ∃ v, P_X3_chainFrom_14 d' met sum r σ = zri v σ ∧ P_X12_ring_37 d road 1 met r sum τ = zri v τ := by
  have n1 := hB.2.1
  intro j
  induction j with
  | zero =>
    intro met r sum hf hs s0 hrr
    rw [e_X3_chainFrom_14, if_pos (by omega), e_X12_ring_37]
    by_cases q : r < 0
    · rw [if_pos (by omega), if_pos q, if_pos rfl]
      exact ⟨sum, rfl, rfl⟩
    · rw [if_neg (by omega), if_neg q]
      have ht : yb met r.toNat = true := by
        rcases e : yb met r.toNat with _ | _
        · have := yfr_s (by omega) (by omega) e
          omega
        · rfl
      have ht0 : ¬ zand (zshr met r) 1 = 0 := by rw [yb_g0 (by omega) (by omega), ht]; decide
      rw [if_neg ht0, if_neg ht0, if_pos rfl]
      exact ⟨sum, rfl, rfl⟩
  | succ j ih =>
    intro met r sum hf hs s0 hrr
    rw [e_X3_chainFrom_14, if_pos (by omega), e_X12_ring_37]
    by_cases q : r < 0
    · rw [if_pos (by omega), if_pos q, if_pos rfl]
      exact ⟨sum, rfl, rfl⟩
    · rw [if_neg (by omega), if_neg q]
      have hb := hB.2.2.1 r (by omega) (by omega)
      rcases e : yb met r.toNat with _ | _
      · have ht0 : zand (zshr met r) 1 = 0 := by rw [yb_g0 (by omega) (by omega), e]
        have fs := yfr_s (by omega) (by omega) e
        rw [if_pos ht0, if_pos ht0, if_pos (by omega), (hC.2.2 r (by omega) (by omega)).2.2.2.1, zw_i (x := 24 + r) (by omega) (by omega), if_pos (by omega), (hM.2.2 r (by omega) (by omega)).2.2.2.1, zw_i (x := sum + 1) (by omega) (by omega)]
        exact ih (zor met (zshl 1 r)) (N 4 r) (sum + 1) (by omega) (by omega) (by omega) (by rcases hb.2.2.2.2.2.2.2.1 with z | z <;> omega)
      · have ht0 : ¬ zand (zshr met r) 1 = 0 := by rw [yb_g0 (by omega) (by omega), e]; decide
        rw [if_neg ht0, if_neg ht0, if_pos rfl]
        exact ⟨sum, rfl, rfl⟩
theorem yfr_1 : ∀ k : Nat, k < 12 → yfr (zshl 1 (k : Int)) = 11 := by decide +kernel
theorem o_ring {x y : Int} : yStep 124 217 [.inr (.inl x), .inr (.inl y)] := by
  intro d hd c N G σ hI c0 c1
  obtain ⟨d, rfl, hd'⟩ := y_d hd; have hd := hd'
  obtain ⟨n1, n2, n3, n4⟩ := yI_n hI
  have hB := hI.1.1
  have hC := hI.1.2.1
  have hM := hI.2.1.2.2.2.1
  rw [e_X11_ring, k_isRoad (by omega), zCI_ri, y01, n1, y_rg]
  refine y_if (fun h => y_if (fun h2 => ?_) (fun h2 => y_i ?_)) (fun h => y_i ?_)
  · have hb := hB.2.2.1 x h.1 h.2
    have hj : N 4 x = -1 ∨ 0 ≤ N 4 x ∧ N 4 x < N 0 0 := by rcases hb.2.2.2.2.2.2.2.1 with z | z <;> omega
    have f1 := yfr_1 x.toNat (by omega)
    rw [show ((x.toNat : Nat) : Int) = x by omega] at f1
    have mod : zx (d + 1) 217 [.inl (some 57), .inr (.inl x), .inr (.inl y)] σ = P_X12_ring_37 d x y (zshl 1 x) (N 4 x) 0 σ := by
      rw [e_X12_ring, k_mRoad (by omega) x (by omega), zCI_ri, y01, n2, if_pos h, k_within (by omega), zCI_ri, y01, if_pos h2, zw_i (x := 24 + x) (by omega) (by omega), if_pos (by omega), (hM.2.2 x h.1 (by omega)).2.2.2.1]
    obtain ⟨e, rfl, he⟩ := y_d (k := 140) (d := d) (by omega)
    refine y_if (fun q => ?_) (fun q => ?_)
    · have g0 : yrg N x (zshl 1 x) (N 4 x) := by
        refine ⟨zshl_in _ _, ?_, fun c a b hc => Or.inl ?_⟩
        · rw [yb_1 h.1 (by omega), decide_eq_true (by omega)]
        · rw [yb_1 h.1 (by omega), decide_eq_true_eq] at hc
          rw [show c = x by omega]
      obtain ⟨v, hv1, hv4⟩ := y_ring (d := e + 1) (d' := e) (σ := σ) (τ := σ) hB hC hM h 11 (zshl 1 x) (N 4 x) 0 f1 (by omega) (by omega) hj g0
      rw [e_X3_ringOf, if_pos (by omega), (hC.2.2 x h.1 (by omega)).2.2.2.1, show P_X3_ringOf_9 e x (N 4 x) 1 σ = zri v σ from hv1, zCI_ri]
      refine y_i ?_
      rw [mod, q, hv4]
      exact y_i ⟨rfl, N, G, yInv_id hI⟩
    · have y1 : y = 1 := by omega
      obtain ⟨v, hv1, hv4⟩ := y_chain (d := e + 1) (d' := e) (σ := σ) (τ := σ) (road := x) hB hC hM 11 (zshl 1 x) (N 4 x) 0 f1 (by omega) (by omega) hj
      rw [e_X3_chainFrom, if_pos (by omega), (hC.2.2 x h.1 (by omega)).2.2.2.1, hv1, zCI_ri]
      refine y_i ?_
      rw [mod, y1, hv4]
      exact y_i ⟨rfl, N, G, yInv_id hI⟩
  · rw [e_X12_ring, k_mRoad (by omega) x (by omega), zCI_ri, y01, n2, if_pos h, k_within (by omega), zCI_ri, y01, if_neg h2]
    exact y_i ⟨rfl, N, G, yInv_id hI⟩
  · rw [e_X12_ring, k_mRoad (by omega) x (by omega), zCI_ri, y01, n2, if_neg h]
    exact y_i ⟨rfl, N, G, yInv_id hI⟩
