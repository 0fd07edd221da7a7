/-! calls that only think, 2: reach, needed, way -/
def ybs (f : Int → Bool) : Nat → Int
  | 0 => 0
  | k + 1 => if f k = true then zor (ybs f k) (zshl 1 (k : Int)) else ybs f k
theorem ybs_t {f : Int → Bool} {k : Nat} (h : f k = true) : ybs f (k + 1) = zor (ybs f k) (zshl 1 (k : Int)) := by
  show (if f k = true then _ else _) = _
  rw [if_pos h]
theorem ybs_f {f : Int → Bool} {k : Nat} (h : ¬ f k = true) : ybs f (k + 1) = ybs f k := by
  show (if f k = true then _ else _) = _
  rw [if_neg h]
theorem c_within_l {d : Nat} {D : Int → Int} {t : Int} {σ : zF} (h23 : ∀ c, 0 ≤ c ∧ c < 8 → σ 23 c = D c) : ∀ j k : Nat, k + j = 8 → P_X9_placesWithin_4 d t (ybs (fun c => decide (¬ t < D c)) k) (k : Int) σ = zri (ybs (fun c => decide (¬ t < D c)) 8) σ := by
  intro j
  induction j with
  | zero =>
    intro k hk
    rw [e_X9_placesWithin_4, if_neg (by omega), show k = 8 by omega]
  | succ j ih =>
    intro k hk
    have ih2 := ih (k + 1) (by omega)
    rw [Int.natCast_succ] at ih2
    rw [e_X9_placesWithin_4, if_pos (by omega), if_pos (by omega), h23 k (by omega), zw_i (x := (k : Int) + 1) (by omega) (by omega)]
    by_cases q : t < D k
    · rw [if_pos q]
      rw [ybs_f (by simp [q])] at ih2
      exact ih2
    · rw [if_neg q]
      rw [ybs_t (by simp; omega)] at ih2
      exact ih2
/-- the farthest place, of like ones the least -/
def yFar (D : Int → Int) (F : Int) : Prop := (0 ≤ F ∧ F < 8) ∧ D F < 1000000 ∧ ∀ c, 0 ≤ c → c < 8 → D c < 1000000 → D c < D F ∨ D c = D F ∧ F ≤ c
theorem yFar_u {D : Int → Int} {F K : Int} (h : yFar D F) (g : yFar D K) : F = K := by
  have a := h.2.2 K g.1.1 g.1.2 g.2.1
  have b := g.2.2 F h.1.1 h.1.2 h.2.1
  omega
theorem c_far_l {d : Nat} {D : Int → Int} {s0 : Int} {σ : zF} (hs : (0 ≤ s0 ∧ s0 < 8) ∧ D s0 < 1000000) (h0 : ∀ c, 0 ≤ D c) (h23 : ∀ c, 0 ≤ c ∧ c < 8 → σ 23 c = D c) : ∀ (j : Nat) (k p m : Int), 0 ≤ k → k + j = 8 → (p = -1 ∧ m = -1 ∧ (∀ c, 0 ≤ c → c < k → ¬ D c < 1000000) ∨ (0 ≤ p ∧ p < k) ∧ D p < 1000000 ∧ m = D p ∧ ∀ c, 0 ≤ c → c < k → D c < 1000000 → D c < D p ∨ D c = D p ∧ p ≤ c) → ∃ F, yFar D F ∧ P_X9_farthest_6 d p m k σ = zri F σ := by
  intro j
  induction j with
  | zero =>
    intro k p m k0 hk h
    rw [e_X9_farthest_6, if_neg (by omega)]
    rcases h with ⟨-, -, h⟩ | ⟨a, b, -, c⟩
    · exact absurd hs.2 (h s0 hs.1.1 (by omega))
    · refine ⟨p, ⟨by omega, b, fun e e0 e1 e2 => c e e0 (by omega) e2⟩, ?_⟩
      rw [zmax_eq, show max 0 p = p by omega]
  | succ j ih =>
    intro k p m k0 hk h
    have hD := h0 k
    rw [e_X9_farthest_6, if_pos (by omega), if_pos (by omega), h23 k (by omega), zw_i (x := k + 1) (by omega) (by omega)]
    by_cases q : D k < 1000000
    · rw [if_pos q, if_pos (by omega)]
      by_cases q2 : m < D k
      · rw [if_pos q2, if_pos (by omega)]
        refine ih (k + 1) k (D k) (by omega) (by omega) (Or.inr ⟨by omega, q, rfl, fun c e0 e1 e2 => ?_⟩)
        by_cases e : c = k
        · rw [e]; omega
        · rcases h with ⟨-, -, h⟩ | ⟨a, b, b2, c2⟩
          · exact absurd e2 (h c e0 (by omega))
          · have := c2 c e0 (by omega) e2
            omega
      · rw [if_neg q2]
        refine ih (k + 1) p m (by omega) (by omega) ?_
        rcases h with ⟨a, b, h⟩ | ⟨a, b, b2, c2⟩
        · omega
        · refine Or.inr ⟨by omega, b, b2, fun c e0 e1 e2 => ?_⟩
          by_cases e : c = k
          · rw [e]; omega
          · exact c2 c e0 (by omega) e2
    · rw [if_neg q]
      refine ih (k + 1) p m (by omega) (by omega) ?_
      rcases h with ⟨a, b, h⟩ | ⟨a, b, b2, c2⟩
      · refine Or.inl ⟨a, b, fun c e0 e1 => ?_⟩
        by_cases e : c = k
        · rw [e]; exact q
        · exact h c e0 (by omega)
      · refine Or.inr ⟨by omega, b, b2, fun c e0 e1 e2 => ?_⟩
        by_cases e : c = k
        · rw [e] at e2; exact absurd e2 q
        · exact c2 c e0 (by omega) e2
theorem m_reach_l {d : Nat} {D : Int → Int} {t what F0 : Int} {σ : zF} (ht : 0 ≤ t ∧ t ≤ 999) (hF : yFar D F0) (h0 : ∀ c, 0 ≤ c ∧ c < 8 → 0 ≤ D c ∧ (D c = 1000000 ∨ D c ≤ 693)) (h85 : ∀ c, 0 ≤ c ∧ c < 8 → σ 85 c = yMf D c) : ∀ (j k : Nat) (F : Int), k + j = 8 → (0 ≤ F ∧ F < 8) → D F < 1000000 → (∀ c : Int, 0 ≤ c → c < (k : Int) → D c < 1000000 → D c < D F ∨ D c = D F ∧ F ≤ c) → P_X12_reach_43 d t what (ybs (fun c => decide (¬ t < D c)) k) F (k : Int) σ = zri (if what = 0 then ybs (fun c => decide (¬ t < D c)) 8 else if what = 1 then F0 else D F0) σ := by
  intro j
  induction j with
  | zero =>
    intro k F hk g1 g2 g3
    have e : F = F0 := yFar_u ⟨g1, g2, fun c e0 e1 => g3 c e0 (by omega)⟩ hF
    rw [e_X12_reach_43, if_neg (by omega), show k = 8 by omega, e]
    by_cases q : what = 0
    · rw [if_pos q, if_pos q]
    · rw [if_neg q, if_neg q]
      by_cases q2 : what = 1
      · rw [if_pos q2, if_pos q2]
      · rw [if_neg q2, if_neg q2, if_pos hF.1, h85 F0 hF.1]
        unfold yMf
        rw [if_pos hF.2.1]
  | succ j ih =>
    intro k F hk g1 g2 g3
    have ih2 := ih (k + 1)
    rw [Int.natCast_succ] at ih2
    have bk := h0 k (by omega)
    have bF := h0 F g1
    have eF : yMf D F = D F := if_pos g2
    have rk : (0 : Int) ≤ (k : Int) ∧ (k : Int) < 8 := by omega
    rw [e_X12_reach_43, if_pos (by omega), zw_i (x := (k : Int) + 1) (by omega) (by omega)]
    simp only [if_pos rk, if_pos g1]
    rw [h85 k rk, h85 F g1, eF]
    have tail : ∀ B, B = ybs (fun c => decide (¬ t < D c)) (k + 1) → (if yMf D k < 9999 then (if D F < yMf D k then P_X12_reach_43 d t what B (k : Int) ((k : Int) + 1) σ else (if yMf D k = D F then (if (k : Int) < F then P_X12_reach_43 d t what B (k : Int) ((k : Int) + 1) σ else P_X12_reach_43 d t what B F ((k : Int) + 1) σ) else P_X12_reach_43 d t what B F ((k : Int) + 1) σ)) else P_X12_reach_43 d t what B F ((k : Int) + 1) σ) = zri (if what = 0 then ybs (fun c => decide (¬ t < D c)) 8 else if what = 1 then F0 else D F0) σ := by
      rintro B rfl
      by_cases q : D k < 1000000
      · have eK : yMf D k = D k := if_pos q
        rw [eK, if_pos (by omega)]
        by_cases q2 : D F < D k
        · rw [if_pos q2]
          refine ih2 k (by omega) rk q (fun c e0 e1 e2 => ?_)
          by_cases e : c = k
          · rw [e]; omega
          · have := g3 c e0 (by omega) e2
            omega
        · rw [if_neg q2]
          by_cases q3 : D k = D F
          · rw [if_pos q3]
            by_cases q4 : (k : Int) < F
            · rw [if_pos q4]
              refine ih2 k (by omega) rk q (fun c e0 e1 e2 => ?_)
              by_cases e : c = k
              · rw [e]; omega
              · have := g3 c e0 (by omega) e2
                omega
            · rw [if_neg q4]
              refine ih2 F (by omega) g1 g2 (fun c e0 e1 e2 => ?_)
              by_cases e : c = k
              · rw [e]; omega
              · exact g3 c e0 (by omega) e2
          · rw [if_neg q3]
            refine ih2 F (by omega) g1 g2 (fun c e0 e1 e2 => ?_)
            by_cases e : c = k
            · rw [e]; omega
            · exact g3 c e0 (by omega) e2
      · have eK : yMf D k = 9999 := if_neg q
        rw [eK, if_neg (by omega)]
        refine ih2 F (by omega) g1 g2 (fun c e0 e1 e2 => ?_)
        by_cases e : c = k
        · rw [e] at e2; exact absurd e2 q
        · exact g3 c e0 (by omega) e2
    by_cases q : t < D k
    · have : t < yMf D k := by unfold yMf; split <;> omega
      rw [if_pos this]
      exact tail _ (ybs_f (by simp [q])).symm
    · have : ¬ t < yMf D k := by unfold yMf; split <;> omega
      rw [if_neg this]
      exact tail _ (ybs_t (by simp; omega)).symm
theorem o_reach {x y z : Int} : yStep 114 203 [.inr (.inl x), .inr (.inl y), .inr (.inl z)] := by
  intro d hd c N G σ hI c0 c1
  obtain ⟨d, rfl, hd'⟩ := y_d hd; have hd := hd'
  obtain ⟨n1, n2, n3, n4⟩ := yI_n hI
  rw [e_X11_reach, k_isPlace (by omega), zCI_ri, y01, k_isTime (by omega), zCI_ri, y01, y_rg]
  have mod : ∀ s : zF, zx (d + 1) 203 [.inl (some 57), .inr (.inl x), .inr (.inl y), .inr (.inl z)] s = if 0 ≤ x ∧ x < 8 then (if 0 ≤ y ∧ y ≤ 999 then (if 0 ≤ z ∧ z ≤ 2 then zCV LAY (zx d 199 [.inl (some 57), .inr (.inl x)] s) (fun s7 => P_X12_reach_43 d y z 0 x 0 s7) else zri (-1) s) else zri (-1) s) else zri (-1) s := by
    intro s
    rw [e_X12_reach, k_mPlace (by omega), zCI_ri, y01, k_within (by omega), zCI_ri, y01, k_within (by omega), zCI_ri, y01]
  by_cases h1 : 0 ≤ x ∧ x < 8
  · rw [if_pos h1]
    by_cases h2 : 0 ≤ y ∧ y ≤ 999
    · rw [if_pos h2]
      by_cases h3 : 0 ≤ z ∧ z ≤ 2
      · rw [if_pos h3]
        refine y_cV (c_begin (by omega) (-1) hI.1 (yI_t hI c1)) (fun s hs => ?_)
        refine y_cV (c_meas (by omega) h1 hs.1) (fun s2 hs2 => ?_)
        have f : yf ySC σ s2 := yf_tr (yf_le hs.2 (by decide)) (yf_le hs2.2.2.2 (by decide))
        have hY := yY_f hI.2.1 f (by decide)
        have e1 := hs2.1
        rw [yD_w _ n3] at e1
        have ok := yOK_of (G := G) hI.1.1 (N 5) (N 5) (N 6)
        have jD := yD_j (s := x) n3 ok
        have bD := fun c => yD_b (s := x) n3 ok c
        have hF := c_far_l (d := d - 1) (σ := s2) (s0 := x) ⟨h1, by rw [jD.1]; omega⟩ (fun c => (bD c).1) e1 8 0 (-1) (-1) (by omega) (by omega) (Or.inl ⟨rfl, rfl, fun c e0 e1 => by omega⟩)
        obtain ⟨F, hF1, hF2⟩ := hF
        have fin : ∀ v, v = (if z = 0 then ybs (fun c => decide (¬ y < yD (N 0 0) (N 1) (N 2) (yHR N G (N 5) (N 6)) (N 5) x c)) 8 else if z = 1 then F else yD (N 0 0) (N 1) (N 2) (yHR N G (N 5) (N 6)) (N 5) x F) → yT (zri v s2) (yI fun v s => yT (zx (d + 1) 203 [.inl (some 57), .inr (.inl x), .inr (.inl y), .inr (.inl z)] s) (yI fun w t => w = v ∧ ∃ N' G', yInv (c + 1) N' G' t)) := by
          intro v hv
          refine y_i ?_
          rw [mod, if_pos h1, if_pos h2, if_pos h3]
          refine y_cV (m_looks (by omega) h1 hY) (fun t ht => ?_)
          rw [show P_X12_reach_43 d y z 0 x 0 t = P_X12_reach_43 d y z (ybs (fun c => decide (¬ y < yD (N 0 0) (N 1) (N 2) (yHR N G (N 5) (N 6)) (N 5) x c)) 0) x ((0 : Nat) : Int) t from rfl]
          rw [m_reach_l h2 hF1 (fun c hc => ⟨(bD c).1, by have := yD_693 h1 n3 ok hc; have := (bD c).2; omega⟩) ht.1 8 0 x (by omega) h1 (by rw [jD.1]; omega) (fun c e0 e1 => by omega)]
          exact y_i ⟨hv.symm, N, G, yth hI hs2.2.2.1 (by omega) f (yM_f hY.2.2.2.1 ht.2.2 (by decide)) (yf_le ht.2.2 (by decide))⟩
        refine y_if (fun q => ?_) (fun q => ?_)
        · have : zx d 98 [.inl (some 17), .inr (.inl y)] s2 = zri (ybs (fun c => decide (¬ y < yD (N 0 0) (N 1) (N 2) (yHR N G (N 5) (N 6)) (N 5) x c)) 8) s2 := by
            obtain ⟨e, rfl, -⟩ := y_d (k := 0) (d := d) (by omega)
            rw [e_X9_placesWithin]
            exact c_within_l e1 8 0 rfl
          rw [this, zCI_ri]
          exact fin _ (by rw [if_pos q])
        · have : zx d 99 [.inl (some 17)] s2 = zri F s2 := by
            obtain ⟨e, rfl, -⟩ := y_d (k := 0) (d := d) (by omega)
            rw [e_X9_farthest]
            exact hF2
          rw [this, zCI_ri]
          refine y_if (fun q2 => fin _ ?_) (fun q2 => y_g hF1.1 ?_)
          · rw [if_neg q, if_pos q2]
          · rw [e1 F hF1.1]
            exact fin _ (by rw [if_neg q, if_neg q2])
      · rw [if_neg h3]
        refine y_i ?_
        rw [mod, if_pos h1, if_pos h2, if_neg h3]
        exact y_i ⟨rfl, N, G, yInv_id hI⟩
    · rw [if_neg h2]
      refine y_i ?_
      rw [mod, if_pos h1, if_neg h2]
      exact y_i ⟨rfl, N, G, yInv_id hI⟩
  · rw [if_neg h1]
    refine y_i ?_
    rw [mod, if_neg h1]
    exact y_i ⟨rfl, N, G, yInv_id hI⟩
