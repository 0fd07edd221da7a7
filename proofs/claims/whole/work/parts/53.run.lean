/-! the act on both sides -/
theorem yOb_in : ∀ k, k < 8 → ∀ a, a < 4 → yOb k a = 1 ∨ yOb k a = 2 ∨ yOb k a = 10 ∨ yOb k a = 11 ∨ yOb k a = 20 ∨ yOb k a = 30 ∨ yOb k a = 40 ∨ yOb k a = 41 ∨ yOb k a = 50 ∨ yOb k a = 60 ∨ yOb k a = 70 ∨ yOb k a = 80 ∨ yOb k a = 81 := by decide
theorem yrn_1 {n : Int} {K f k a : Nat} {x : Int} (q : yOb k a = 1) : yrn n K (f + 1) k a x = (some (zw (x + n), [1])) := by
  show (if yOb k a = 1 then _ else _) = _
  rw [if_pos q]
theorem yrn_2 {n : Int} {K f k a : Nat} {x : Int} (q : yOb k a = 2) : yrn n K (f + 1) k a x = ((yrn n K f K 1 x).bind fun r => (yrn n K f K 2 1).bind fun q => some (zw (r.1 - q.1), 2 :: (r.2 ++ q.2))) := by
  show (if yOb k a = 1 then _ else _) = _
  rw [if_neg (show ¬ yOb k a = 1 by rw [q]; decide), if_pos q]
theorem yrn_10 {n : Int} {K f k a : Nat} {x : Int} (q : yOb k a = 10) : yrn n K (f + 1) k a x = ((yrn n K f K 0 x).bind fun r => some (zw (r.1 * 2), 10 :: r.2)) := by
  show (if yOb k a = 1 then _ else _) = _
  rw [if_neg (show ¬ yOb k a = 1 by rw [q]; decide), if_neg (show ¬ yOb k a = 2 by rw [q]; decide), if_pos q]
theorem yrn_11 {n : Int} {K f k a : Nat} {x : Int} (q : yOb k a = 11) : yrn n K (f + 1) k a x = (some (zxor x n, [11])) := by
  show (if yOb k a = 1 then _ else _) = _
  rw [if_neg (show ¬ yOb k a = 1 by rw [q]; decide), if_neg (show ¬ yOb k a = 2 by rw [q]; decide), if_neg (show ¬ yOb k a = 10 by rw [q]; decide), if_pos q]
theorem yrn_20 {n : Int} {K f k a : Nat} {x : Int} (q : yOb k a = 20) : yrn n K (f + 1) k a x = ((yrn n K f 0 0 x).bind fun r => some (zw (r.1 + 3), 20 :: r.2)) := by
  show (if yOb k a = 1 then _ else _) = _
  rw [if_neg (show ¬ yOb k a = 1 by rw [q]; decide), if_neg (show ¬ yOb k a = 2 by rw [q]; decide), if_neg (show ¬ yOb k a = 10 by rw [q]; decide), if_neg (show ¬ yOb k a = 11 by rw [q]; decide), if_pos q]
theorem yrn_30 {n : Int} {K f k a : Nat} {x : Int} (q : yOb k a = 30) : yrn n K (f + 1) k a x = ((yrn n K f 0 1 x).bind fun r => some (zw (-r.1), 30 :: r.2)) := by
  show (if yOb k a = 1 then _ else _) = _
  rw [if_neg (show ¬ yOb k a = 1 by rw [q]; decide), if_neg (show ¬ yOb k a = 2 by rw [q]; decide), if_neg (show ¬ yOb k a = 10 by rw [q]; decide), if_neg (show ¬ yOb k a = 11 by rw [q]; decide), if_neg (show ¬ yOb k a = 20 by rw [q]; decide), if_pos q]
theorem yrn_40 {n : Int} {K f k a : Nat} {x : Int} (q : yOb k a = 40) : yrn n K (f + 1) k a x = ((yrn n K f 2 2 x).bind fun r => some (zw (r.1 * 3), 40 :: r.2)) := by
  show (if yOb k a = 1 then _ else _) = _
  rw [if_neg (show ¬ yOb k a = 1 by rw [q]; decide), if_neg (show ¬ yOb k a = 2 by rw [q]; decide), if_neg (show ¬ yOb k a = 10 by rw [q]; decide), if_neg (show ¬ yOb k a = 11 by rw [q]; decide), if_neg (show ¬ yOb k a = 20 by rw [q]; decide), if_neg (show ¬ yOb k a = 30 by rw [q]; decide), if_pos q]
theorem yrn_41 {n : Int} {K f k a : Nat} {x : Int} (q : yOb k a = 41) : yrn n K (f + 1) k a x = ((yrn n K f 2 1 (zw (x + 1))).bind fun r => some (r.1, 41 :: r.2)) := by
  show (if yOb k a = 1 then _ else _) = _
  rw [if_neg (show ¬ yOb k a = 1 by rw [q]; decide), if_neg (show ¬ yOb k a = 2 by rw [q]; decide), if_neg (show ¬ yOb k a = 10 by rw [q]; decide), if_neg (show ¬ yOb k a = 11 by rw [q]; decide), if_neg (show ¬ yOb k a = 20 by rw [q]; decide), if_neg (show ¬ yOb k a = 30 by rw [q]; decide), if_neg (show ¬ yOb k a = 40 by rw [q]; decide), if_pos q]
theorem yrn_50 {n : Int} {K f k a : Nat} {x : Int} (q : yOb k a = 50) : yrn n K (f + 1) k a x = ((yrn n K f 1 2 x).bind fun r => (yrn n K f K 0 2).bind fun q => some (zw (r.1 - q.1), 50 :: (r.2 ++ q.2))) := by
  show (if yOb k a = 1 then _ else _) = _
  rw [if_neg (show ¬ yOb k a = 1 by rw [q]; decide), if_neg (show ¬ yOb k a = 2 by rw [q]; decide), if_neg (show ¬ yOb k a = 10 by rw [q]; decide), if_neg (show ¬ yOb k a = 11 by rw [q]; decide), if_neg (show ¬ yOb k a = 20 by rw [q]; decide), if_neg (show ¬ yOb k a = 30 by rw [q]; decide), if_neg (show ¬ yOb k a = 40 by rw [q]; decide), if_neg (show ¬ yOb k a = 41 by rw [q]; decide), if_pos q]
theorem yrn_60 {n : Int} {K f k a : Nat} {x : Int} (q : yOb k a = 60) : yrn n K (f + 1) k a x = ((yrn n K f 3 3 x).bind fun r => some (zxor r.1 5, 60 :: r.2)) := by
  show (if yOb k a = 1 then _ else _) = _
  rw [if_neg (show ¬ yOb k a = 1 by rw [q]; decide), if_neg (show ¬ yOb k a = 2 by rw [q]; decide), if_neg (show ¬ yOb k a = 10 by rw [q]; decide), if_neg (show ¬ yOb k a = 11 by rw [q]; decide), if_neg (show ¬ yOb k a = 20 by rw [q]; decide), if_neg (show ¬ yOb k a = 30 by rw [q]; decide), if_neg (show ¬ yOb k a = 40 by rw [q]; decide), if_neg (show ¬ yOb k a = 41 by rw [q]; decide), if_neg (show ¬ yOb k a = 50 by rw [q]; decide), if_pos q]
theorem yrn_70 {n : Int} {K f k a : Nat} {x : Int} (q : yOb k a = 70) : yrn n K (f + 1) k a x = ((yrn n K f 0 0 x).bind fun r => some (zw (r.1 * 2), 70 :: r.2)) := by
  show (if yOb k a = 1 then _ else _) = _
  rw [if_neg (show ¬ yOb k a = 1 by rw [q]; decide), if_neg (show ¬ yOb k a = 2 by rw [q]; decide), if_neg (show ¬ yOb k a = 10 by rw [q]; decide), if_neg (show ¬ yOb k a = 11 by rw [q]; decide), if_neg (show ¬ yOb k a = 20 by rw [q]; decide), if_neg (show ¬ yOb k a = 30 by rw [q]; decide), if_neg (show ¬ yOb k a = 40 by rw [q]; decide), if_neg (show ¬ yOb k a = 41 by rw [q]; decide), if_neg (show ¬ yOb k a = 50 by rw [q]; decide), if_neg (show ¬ yOb k a = 60 by rw [q]; decide), if_pos q]
theorem yrn_80 {n : Int} {K f k a : Nat} {x : Int} (q : yOb k a = 80) : yrn n K (f + 1) k a x = ((yrn n K f 4 1 x).bind fun r => (yrn n K f K 2 2).bind fun q => some (zw (r.1 + q.1), 80 :: (r.2 ++ q.2))) := by
  show (if yOb k a = 1 then _ else _) = _
  rw [if_neg (show ¬ yOb k a = 1 by rw [q]; decide), if_neg (show ¬ yOb k a = 2 by rw [q]; decide), if_neg (show ¬ yOb k a = 10 by rw [q]; decide), if_neg (show ¬ yOb k a = 11 by rw [q]; decide), if_neg (show ¬ yOb k a = 20 by rw [q]; decide), if_neg (show ¬ yOb k a = 30 by rw [q]; decide), if_neg (show ¬ yOb k a = 40 by rw [q]; decide), if_neg (show ¬ yOb k a = 41 by rw [q]; decide), if_neg (show ¬ yOb k a = 50 by rw [q]; decide), if_neg (show ¬ yOb k a = 60 by rw [q]; decide), if_neg (show ¬ yOb k a = 70 by rw [q]; decide), if_pos q]
theorem yrn_81 {n : Int} {K f k a : Nat} {x : Int} (q : yOb k a = 81) : yrn n K (f + 1) k a x = ((yrn n K f 4 3 x).bind fun r => some (zw (r.1 - 1), 81 :: r.2)) := by
  show (if yOb k a = 1 then _ else _) = _
  rw [if_neg (show ¬ yOb k a = 1 by rw [q]; decide), if_neg (show ¬ yOb k a = 2 by rw [q]; decide), if_neg (show ¬ yOb k a = 10 by rw [q]; decide), if_neg (show ¬ yOb k a = 11 by rw [q]; decide), if_neg (show ¬ yOb k a = 20 by rw [q]; decide), if_neg (show ¬ yOb k a = 30 by rw [q]; decide), if_neg (show ¬ yOb k a = 40 by rw [q]; decide), if_neg (show ¬ yOb k a = 41 by rw [q]; decide), if_neg (show ¬ yOb k a = 50 by rw [q]; decide), if_neg (show ¬ yOb k a = 60 by rw [q]; decide), if_neg (show ¬ yOb k a = 70 by rw [q]; decide), if_neg (show ¬ yOb k a = 80 by rw [q]; decide), if_pos q]
theorem yOw_20 : ∀ h, h < 8 → ∀ a, a < 4 → zOWN (h * 4 + a) = 20 → zABV h = 0 := by decide
theorem yOw_30 : ∀ h, h < 8 → ∀ a, a < 4 → zOWN (h * 4 + a) = 30 → zABV h = 0 := by decide
theorem yOw_40 : ∀ h, h < 8 → ∀ a, a < 4 → zOWN (h * 4 + a) = 40 → zABV h = 2 := by decide
theorem yOw_41 : ∀ h, h < 8 → ∀ a, a < 4 → zOWN (h * 4 + a) = 41 → zABV h = 2 := by decide
theorem yOw_50 : ∀ h, h < 8 → ∀ a, a < 4 → zOWN (h * 4 + a) = 50 → zABV h = 1 := by decide
theorem yOw_60 : ∀ h, h < 8 → ∀ a, a < 4 → zOWN (h * 4 + a) = 60 → zABV h = 3 := by decide
theorem yOw_70 : ∀ h, h < 8 → ∀ a, a < 4 → zOWN (h * 4 + a) = 70 → zABV h = 0 := by decide
theorem yOw_80 : ∀ h, h < 8 → ∀ a, a < 4 → zOWN (h * 4 + a) = 80 → zABV h = 4 := by decide
theorem yOw_81 : ∀ h, h < 8 → ∀ a, a < 4 → zOWN (h * 4 + a) = 81 → zABV h = 4 := by decide
theorem c_run {n : Int} {K : Nat} (hK : K < 8) : ∀ (f d k a : Nat) (x e : Int) (r : Int × List Int) (σ : zF), 2 * f + 2 ≤ d → k < 8 → a < 4 → σ 41 4 = K → σ 41 5 = n → 0 ≤ e → e + f ≤ 41 → 0 ≤ σ 41 3 → σ 41 3 + r.2.length < 100000 → yrn n K f k a x = some r → zx d 85 [.inl (some 41), .inr (.inl (k : Int)), .inr (.inl (a : Int)), .inr (.inl x), .inr (.inl e)] σ = zri r.1 (yns 43 41 3 r.2 σ)
  | 0, _, _, _, _, _, _, _, _, _, _, _, _, _, _, _, _, h => nomatch h
  | f + 1, d, k, a, x, e, r, σ, hd, hk, ha, s4, s5, he, hf, h3, hl, h => by
    obtain ⟨d, rfl, hd'⟩ := y_d (k := 2 * f + 3) (d := d) (by omega)
    have IH := c_run (n := n) hK f d
    have hb := yhf_b 8 k a hk
    rw [e_X8_run, if_neg (by omega), k_holder (by omega) hk ha, zCI_ri]
    have h0 : yOb k a = zOWN (yhf 8 k a * 4 + a) := rfl
    generalize yhf 8 k a = y at h0 hb ⊢
    rw [if_pos (by omega), zw_i (x := (y : Int) * 4) (by omega) (by omega), zw_i (x := (y : Int) * 4 + a) (by omega) (by omega), show ((y : Int) * 4 + (a : Int)).toNat = y * 4 + a by omega, if_pos (by omega), k_note (by omega) _ h3 (by omega), zCV_rv, if_pos (by omega), zw_i (x := e + 1) (by omega) (by omega)]
    have hx := yn1_f (A := 43) (C := 41) (S := 3) (by decide) (zOWN (y * 4 + a)) σ
    have t3 : yn1 43 41 3 (zOWN (y * 4 + a)) σ 41 3 = σ 41 3 + 1 := hx.1
    have t4 : yn1 43 41 3 (zOWN (y * 4 + a)) σ 41 4 = K := (hx.2 41 4 (by decide) (by decide)).trans s4
    have t5 : yn1 43 41 3 (zOWN (y * 4 + a)) σ 41 5 = n := (hx.2 41 5 (by decide) (by decide)).trans s5
    have ty : (y : Int).toNat = y := by omega
    rw [ty]
    have ab := fun b (q : zOWN (y * 4 + a) = b) => h0.trans q
    by_cases q : zOWN (y * 4 + a) = 1
    · rw [if_pos q]
      rw [yrn_1 (h0.trans q)] at h
      rw [q] at t3 t4 t5 ⊢
      generalize hs : yn1 43 41 3 1 σ = s at t3 t4 t5 ⊢
      cases h
      rw [t5, ← hs]; rfl
    rw [if_neg q]
    by_cases q : zOWN (y * 4 + a) = 2
    · rw [if_pos q]
      rw [yrn_2 (h0.trans q)] at h
      rw [q] at t3 t4 t5 ⊢
      generalize hs : yn1 43 41 3 2 σ = s at t3 t4 t5 ⊢
      rw [t4]
      cases hr : yrn n K f K 1 x with
      | none => rw [hr] at h; cases h
      | some r1 =>
        cases hr2 : yrn n K f K 2 1 with
        | none => rw [hr] at h; simp only [Option.bind, hr2] at h; cases h
        | some r2 =>
          rw [hr] at h; simp only [Option.bind, hr2] at h; cases h
          simp only [List.length_cons, List.length_append] at hl
          have e1 : zx d 85 [.inl (some 41), .inr (.inl (K : Int)), .inr (.inl 1), .inr (.inl x), .inr (.inl (e + 1))] s = zri r1.1 (yns 43 41 3 r1.2 s) := IH K 1 x (e + 1) r1 s (by omega) (by omega) (by omega) t4 t5 (by omega) (by omega) (by omega) (by omega) hr
          have hy := yns_f (A := 43) (C := 41) (S := 3) (by decide) r1.2 s
          have u3 : yns 43 41 3 r1.2 s 41 3 = s 41 3 + r1.2.length := hy.1
          have u4 : yns 43 41 3 r1.2 s 41 4 = K := (hy.2 41 4 (by decide) (by decide)).trans t4
          have u5 : yns 43 41 3 r1.2 s 41 5 = n := (hy.2 41 5 (by decide) (by decide)).trans t5
          have e2 : zx d 85 [.inl (some 41), .inr (.inl (K : Int)), .inr (.inl 2), .inr (.inl 1), .inr (.inl (e + 1))] (yns 43 41 3 r1.2 s) = zri r2.1 (yns 43 41 3 r2.2 (yns 43 41 3 r1.2 s)) := IH K 2 1 (e + 1) r2 _ (by omega) (by omega) (by omega) u4 u5 (by omega) (by omega) (by omega) (by omega) hr2
          rw [e1, zCI_ri, u4, e2, zCI_ri, ← yns_app, ← hs]; rfl
    rw [if_neg q]
    by_cases q : zOWN (y * 4 + a) = 10
    · rw [if_pos q]
      rw [yrn_10 (h0.trans q)] at h
      rw [q] at t3 t4 t5 ⊢
      generalize hs : yn1 43 41 3 10 σ = s at t3 t4 t5 ⊢
      rw [t4]
      cases hr : yrn n K f K 0 x with
      | none => rw [hr] at h; cases h
      | some r1 =>
        rw [hr] at h; cases h
        simp only [List.length_cons] at hl
        have e1 : zx d 85 [.inl (some 41), .inr (.inl (K : Int)), .inr (.inl 0), .inr (.inl x), .inr (.inl (e + 1))] s = zri r1.1 (yns 43 41 3 r1.2 s) := IH K 0 x (e + 1) r1 s (by omega) (by omega) (by omega) t4 t5 (by omega) (by omega) (by omega) (by omega) hr
        rw [e1, zCI_ri, ← hs]; rfl
    rw [if_neg q]
    by_cases q : zOWN (y * 4 + a) = 11
    · rw [if_pos q]
      rw [yrn_11 (h0.trans q)] at h
      rw [q] at t3 t4 t5 ⊢
      generalize hs : yn1 43 41 3 11 σ = s at t3 t4 t5 ⊢
      cases h
      rw [t5, ← hs]; rfl
    rw [if_neg q]
    by_cases q : zOWN (y * 4 + a) = 20
    · rw [if_pos q]
      rw [yrn_20 (h0.trans q)] at h
      rw [yOw_20 y hb a ha q]
      rw [q] at t3 t4 t5 ⊢
      generalize hs : yn1 43 41 3 20 σ = s at t3 t4 t5 ⊢
      cases hr : yrn n K f 0 0 x with
      | none => rw [hr] at h; cases h
      | some r1 =>
        rw [hr] at h; cases h
        simp only [List.length_cons] at hl
        have e1 : zx d 85 [.inl (some 41), .inr (.inl (0 : Int)), .inr (.inl 0), .inr (.inl x), .inr (.inl (e + 1))] s = zri r1.1 (yns 43 41 3 r1.2 s) := IH 0 0 x (e + 1) r1 s (by omega) (by omega) (by omega) t4 t5 (by omega) (by omega) (by omega) (by omega) hr
        rw [e1, zCI_ri, ← hs]; rfl
    rw [if_neg q]
    by_cases q : zOWN (y * 4 + a) = 30
    · rw [if_pos q]
      rw [yrn_30 (h0.trans q)] at h
      rw [yOw_30 y hb a ha q]
      rw [q] at t3 t4 t5 ⊢
      generalize hs : yn1 43 41 3 30 σ = s at t3 t4 t5 ⊢
      cases hr : yrn n K f 0 1 x with
      | none => rw [hr] at h; cases h
      | some r1 =>
        rw [hr] at h; cases h
        simp only [List.length_cons] at hl
        have e1 : zx d 85 [.inl (some 41), .inr (.inl (0 : Int)), .inr (.inl 1), .inr (.inl x), .inr (.inl (e + 1))] s = zri r1.1 (yns 43 41 3 r1.2 s) := IH 0 1 x (e + 1) r1 s (by omega) (by omega) (by omega) t4 t5 (by omega) (by omega) (by omega) (by omega) hr
        rw [e1, zCI_ri, ← hs]; rfl
    rw [if_neg q]
    by_cases q : zOWN (y * 4 + a) = 40
    · rw [if_pos q]
      rw [yrn_40 (h0.trans q)] at h
      rw [yOw_40 y hb a ha q]
      rw [q] at t3 t4 t5 ⊢
      generalize hs : yn1 43 41 3 40 σ = s at t3 t4 t5 ⊢
      cases hr : yrn n K f 2 2 x with
      | none => rw [hr] at h; cases h
      | some r1 =>
        rw [hr] at h; cases h
        simp only [List.length_cons] at hl
        have e1 : zx d 85 [.inl (some 41), .inr (.inl (2 : Int)), .inr (.inl 2), .inr (.inl x), .inr (.inl (e + 1))] s = zri r1.1 (yns 43 41 3 r1.2 s) := IH 2 2 x (e + 1) r1 s (by omega) (by omega) (by omega) t4 t5 (by omega) (by omega) (by omega) (by omega) hr
        rw [e1, zCI_ri, ← hs]; rfl
    rw [if_neg q]
    by_cases q : zOWN (y * 4 + a) = 41
    · rw [if_pos q]
      rw [yrn_41 (h0.trans q)] at h
      rw [yOw_41 y hb a ha q]
      rw [q] at t3 t4 t5 ⊢
      generalize hs : yn1 43 41 3 41 σ = s at t3 t4 t5 ⊢
      cases hr : yrn n K f 2 1 (zw (x + 1)) with
      | none => rw [hr] at h; cases h
      | some r1 =>
        rw [hr] at h; cases h
        simp only [List.length_cons] at hl
        have e1 : zx d 85 [.inl (some 41), .inr (.inl (2 : Int)), .inr (.inl 1), .inr (.inl (zw (x + 1))), .inr (.inl (e + 1))] s = zri r1.1 (yns 43 41 3 r1.2 s) := IH 2 1 (zw (x + 1)) (e + 1) r1 s (by omega) (by omega) (by omega) t4 t5 (by omega) (by omega) (by omega) (by omega) hr
        rw [e1, zCI_ri, ← hs]; rfl
    rw [if_neg q]
    by_cases q : zOWN (y * 4 + a) = 50
    · rw [if_pos q]
      rw [yrn_50 (h0.trans q)] at h
      rw [yOw_50 y hb a ha q]
      rw [q] at t3 t4 t5 ⊢
      generalize hs : yn1 43 41 3 50 σ = s at t3 t4 t5 ⊢
      cases hr : yrn n K f 1 2 x with
      | none => rw [hr] at h; cases h
      | some r1 =>
        cases hr2 : yrn n K f K 0 2 with
        | none => rw [hr] at h; simp only [Option.bind, hr2] at h; cases h
        | some r2 =>
          rw [hr] at h; simp only [Option.bind, hr2] at h; cases h
          simp only [List.length_cons, List.length_append] at hl
          have e1 : zx d 85 [.inl (some 41), .inr (.inl (1 : Int)), .inr (.inl 2), .inr (.inl x), .inr (.inl (e + 1))] s = zri r1.1 (yns 43 41 3 r1.2 s) := IH 1 2 x (e + 1) r1 s (by omega) (by omega) (by omega) t4 t5 (by omega) (by omega) (by omega) (by omega) hr
          have hy := yns_f (A := 43) (C := 41) (S := 3) (by decide) r1.2 s
          have u3 : yns 43 41 3 r1.2 s 41 3 = s 41 3 + r1.2.length := hy.1
          have u4 : yns 43 41 3 r1.2 s 41 4 = K := (hy.2 41 4 (by decide) (by decide)).trans t4
          have u5 : yns 43 41 3 r1.2 s 41 5 = n := (hy.2 41 5 (by decide) (by decide)).trans t5
          have e2 : zx d 85 [.inl (some 41), .inr (.inl (K : Int)), .inr (.inl 0), .inr (.inl 2), .inr (.inl (e + 1))] (yns 43 41 3 r1.2 s) = zri r2.1 (yns 43 41 3 r2.2 (yns 43 41 3 r1.2 s)) := IH K 0 2 (e + 1) r2 _ (by omega) (by omega) (by omega) u4 u5 (by omega) (by omega) (by omega) (by omega) hr2
          rw [e1, zCI_ri, u4, e2, zCI_ri, ← yns_app, ← hs]; rfl
    rw [if_neg q]
    by_cases q : zOWN (y * 4 + a) = 60
    · rw [if_pos q]
      rw [yrn_60 (h0.trans q)] at h
      rw [yOw_60 y hb a ha q]
      rw [q] at t3 t4 t5 ⊢
      generalize hs : yn1 43 41 3 60 σ = s at t3 t4 t5 ⊢
      cases hr : yrn n K f 3 3 x with
      | none => rw [hr] at h; cases h
      | some r1 =>
        rw [hr] at h; cases h
        simp only [List.length_cons] at hl
        have e1 : zx d 85 [.inl (some 41), .inr (.inl (3 : Int)), .inr (.inl 3), .inr (.inl x), .inr (.inl (e + 1))] s = zri r1.1 (yns 43 41 3 r1.2 s) := IH 3 3 x (e + 1) r1 s (by omega) (by omega) (by omega) t4 t5 (by omega) (by omega) (by omega) (by omega) hr
        rw [e1, zCI_ri, ← hs]; rfl
    rw [if_neg q]
    by_cases q : zOWN (y * 4 + a) = 70
    · rw [if_pos q]
      rw [yrn_70 (h0.trans q)] at h
      rw [yOw_70 y hb a ha q]
      rw [q] at t3 t4 t5 ⊢
      generalize hs : yn1 43 41 3 70 σ = s at t3 t4 t5 ⊢
      cases hr : yrn n K f 0 0 x with
      | none => rw [hr] at h; cases h
      | some r1 =>
        rw [hr] at h; cases h
        simp only [List.length_cons] at hl
        have e1 : zx d 85 [.inl (some 41), .inr (.inl (0 : Int)), .inr (.inl 0), .inr (.inl x), .inr (.inl (e + 1))] s = zri r1.1 (yns 43 41 3 r1.2 s) := IH 0 0 x (e + 1) r1 s (by omega) (by omega) (by omega) t4 t5 (by omega) (by omega) (by omega) (by omega) hr
        rw [e1, zCI_ri, ← hs]; rfl
    rw [if_neg q]
    by_cases q : zOWN (y * 4 + a) = 80
    · rw [if_pos q]
      rw [yrn_80 (h0.trans q)] at h
      rw [yOw_80 y hb a ha q]
      rw [q] at t3 t4 t5 ⊢
      generalize hs : yn1 43 41 3 80 σ = s at t3 t4 t5 ⊢
      cases hr : yrn n K f 4 1 x with
      | none => rw [hr] at h; cases h
      | some r1 =>
        cases hr2 : yrn n K f K 2 2 with
        | none => rw [hr] at h; simp only [Option.bind, hr2] at h; cases h
        | some r2 =>
          rw [hr] at h; simp only [Option.bind, hr2] at h; cases h
          simp only [List.length_cons, List.length_append] at hl
          have e1 : zx d 85 [.inl (some 41), .inr (.inl (4 : Int)), .inr (.inl 1), .inr (.inl x), .inr (.inl (e + 1))] s = zri r1.1 (yns 43 41 3 r1.2 s) := IH 4 1 x (e + 1) r1 s (by omega) (by omega) (by omega) t4 t5 (by omega) (by omega) (by omega) (by omega) hr
          have hy := yns_f (A := 43) (C := 41) (S := 3) (by decide) r1.2 s
          have u3 : yns 43 41 3 r1.2 s 41 3 = s 41 3 + r1.2.length := hy.1
          have u4 : yns 43 41 3 r1.2 s 41 4 = K := (hy.2 41 4 (by decide) (by decide)).trans t4
          have u5 : yns 43 41 3 r1.2 s 41 5 = n := (hy.2 41 5 (by decide) (by decide)).trans t5
          have e2 : zx d 85 [.inl (some 41), .inr (.inl (K : Int)), .inr (.inl 2), .inr (.inl 2), .inr (.inl (e + 1))] (yns 43 41 3 r1.2 s) = zri r2.1 (yns 43 41 3 r2.2 (yns 43 41 3 r1.2 s)) := IH K 2 2 (e + 1) r2 _ (by omega) (by omega) (by omega) u4 u5 (by omega) (by omega) (by omega) (by omega) hr2
          rw [e1, zCI_ri, u4, e2, zCI_ri, ← yns_app, ← hs]; rfl
    rw [if_neg q]
    by_cases q : zOWN (y * 4 + a) = 81
    · rw [if_pos q]
      rw [yrn_81 (h0.trans q)] at h
      rw [yOw_81 y hb a ha q]
      rw [q] at t3 t4 t5 ⊢
      generalize hs : yn1 43 41 3 81 σ = s at t3 t4 t5 ⊢
      cases hr : yrn n K f 4 3 x with
      | none => rw [hr] at h; cases h
      | some r1 =>
        rw [hr] at h; cases h
        simp only [List.length_cons] at hl
        have e1 : zx d 85 [.inl (some 41), .inr (.inl (4 : Int)), .inr (.inl 3), .inr (.inl x), .inr (.inl (e + 1))] s = zri r1.1 (yns 43 41 3 r1.2 s) := IH 4 3 x (e + 1) r1 s (by omega) (by omega) (by omega) t4 t5 (by omega) (by omega) (by omega) (by omega) hr
        rw [e1, zCI_ri, ← hs]; rfl
    rw [if_neg q]
    exfalso
    rcases yOb_in k hk a ha with z | z | z | z | z | z | z | z | z | z | z | z | z <;> exact absurd (h0.symm.trans z) (by assumption)
