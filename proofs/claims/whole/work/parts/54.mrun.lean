/-! the act on the model's side, and the act itself -/
def yMc (D : Nat) (n : Int) (K f k a : Nat) : Prop := ∀ d, D ≤ d → ∀ (x : Int) (r : Int × List Int) (σ : zF), σ 79 n = K → 0 ≤ σ 57 37 → σ 57 37 + r.2.length < 100000 → yrn n K f k a x = some r → zx d (237 + a) [.inl (some 57), .inr (.inl n), .inr (.inl (k : Int)), .inr (.inl x)] σ = zri r.1 (yns 80 57 37 r.2 σ)
theorem yMc_le {D E : Nat} {n : Int} {K f k a : Nat} (h : D ≤ E) (c : yMc D n K f k a) : yMc E n K f k a := fun d hd => c d (by omega)
theorem yrn_up {n : Int} {K f k k' a : Nat} {x : Int} (q : yOb k a = yOb k' a) : yrn n K (f + 1) k a x = yrn n K (f + 1) k' a x := by
  show (if yOb k a = 1 then _ else _) = (if yOb k' a = 1 then _ else _)
  rw [q]
theorem k_above {d : Nat} (hd : 1 ≤ d) (x : Int) (σ : zF) : zx d 235 [.inr (.inl x)] σ = zri (if x = 3 then 2 else if x = 4 then 1 else if x = 5 then 3 else if x = 6 then 0 else if x = 7 then 4 else 0) σ := by
  obtain ⟨d, rfl, -⟩ := y_d (k := 0) hd
  rw [e_X12_above]
  repeat' split
  all_goals rfl
theorem m_0_0 {D : Nat} {n : Int} {K f : Nat} (hn : 0 ≤ n ∧ n < 50) (hK : K < 8) (c : ∀ k a, k < 8 → a < 4 → yMc D n K f k a) (hD : 1 ≤ D) : yMc (D + 1) n K (f + 1) 0 0 := by
  intro d hd x r σ s1 s2 s3 h
  obtain ⟨d, rfl, hd'⟩ := y_d (k := D) hd
  rw [yrn_1 (by decide)] at h
  show zx (d + 1) 237 [.inl (some 57), .inr (.inl n), .inr (.inl (0 : Int)), .inr (.inl x)] σ = _
  rw [e_X12_leadsBy, if_pos rfl, k_mran (by omega) _ s2 (by omega), zCV_rv]
  have hx := yn1_f (A := 80) (C := 57) (S := 37) (by decide) 1 σ
  have t3 : yn1 80 57 37 1 σ 57 37 = σ 57 37 + 1 := hx.1
  have t4 : yn1 80 57 37 1 σ 79 n = K := (hx.2 79 n (by decide) (fun z => absurd z.1 (by decide))).trans s1
  generalize hs : yn1 80 57 37 1 σ = s at t3 t4 ⊢
  cases h
  rw [← hs]; rfl
theorem m_0_1 {D : Nat} {n : Int} {K f : Nat} (hn : 0 ≤ n ∧ n < 50) (hK : K < 8) (c : ∀ k a, k < 8 → a < 4 → yMc D n K f k a) (hD : 1 ≤ D) : yMc (D + 1) n K (f + 1) 1 0 := by
  intro d hd x r σ s1 s2 s3 h
  obtain ⟨d, rfl, hd'⟩ := y_d (k := D) hd
  rw [yrn_20 (by decide)] at h
  show zx (d + 1) 237 [.inl (some 57), .inr (.inl n), .inr (.inl (1 : Int)), .inr (.inl x)] σ = _
  rw [e_X12_leadsBy, if_neg (show ¬ (1 : Int) = 0 by decide), if_pos rfl, k_mran (by omega) _ s2 (by omega), zCV_rv]
  have hx := yn1_f (A := 80) (C := 57) (S := 37) (by decide) 20 σ
  have t3 : yn1 80 57 37 20 σ 57 37 = σ 57 37 + 1 := hx.1
  have t4 : yn1 80 57 37 20 σ 79 n = K := (hx.2 79 n (by decide) (fun z => absurd z.1 (by decide))).trans s1
  generalize hs : yn1 80 57 37 20 σ = s at t3 t4 ⊢
  cases hr : yrn n K f 0 0 x with
  | none => rw [hr] at h; cases h
  | some r1 =>
    rw [hr] at h; cases h
    simp only [List.length_cons] at s3
    have e1 : zx d 237 [.inl (some 57), .inr (.inl n), .inr (.inl (0 : Int)), .inr (.inl x)] s = zri r1.1 (yns 80 57 37 r1.2 s) := c 0 0 (by omega) (by omega) d hd' x r1 _ t4 (by omega) (by omega) hr
    rw [e1, zCI_ri, ← hs]; rfl
theorem m_0_2 {D : Nat} {n : Int} {K f : Nat} (c : yMc D n K (f + 1) 0 0) (hD : 1 ≤ D) : yMc (D + 1) n K (f + 1) 2 0 := by
  intro d hd x r σ s1 s2 s3 h
  obtain ⟨d, rfl, hd'⟩ := y_d (k := D) hd
  rw [yrn_up (k' := 0) (by decide)] at h
  show zx (d + 1) 237 [.inl (some 57), .inr (.inl n), .inr (.inl (2 : Int)), .inr (.inl x)] σ = _
  have e1 : zx d 237 [.inl (some 57), .inr (.inl n), .inr (.inl (0 : Int)), .inr (.inl x)] σ = zri r.1 (yns 80 57 37 r.2 σ) := c d hd' x r σ s1 s2 s3 h
  rw [e_X12_leadsBy, if_neg (show ¬ (2 : Int) = 0 by decide), if_neg (show ¬ (2 : Int) = 1 by decide), if_neg (show ¬ (2 : Int) = 6 by decide), k_above (by omega), zCI_ri]
  show zCI LAY (zx d 237 [.inl (some 57), .inr (.inl n), .inr (.inl (0 : Int)), .inr (.inl x)] σ) _ = _
  rw [e1, zCI_ri]
theorem m_0_3 {D : Nat} {n : Int} {K f : Nat} (c : yMc D n K (f + 1) 2 0) (hD : 1 ≤ D) : yMc (D + 1) n K (f + 1) 3 0 := by
  intro d hd x r σ s1 s2 s3 h
  obtain ⟨d, rfl, hd'⟩ := y_d (k := D) hd
  rw [yrn_up (k' := 2) (by decide)] at h
  show zx (d + 1) 237 [.inl (some 57), .inr (.inl n), .inr (.inl (3 : Int)), .inr (.inl x)] σ = _
  have e1 : zx d 237 [.inl (some 57), .inr (.inl n), .inr (.inl (2 : Int)), .inr (.inl x)] σ = zri r.1 (yns 80 57 37 r.2 σ) := c d hd' x r σ s1 s2 s3 h
  rw [e_X12_leadsBy, if_neg (show ¬ (3 : Int) = 0 by decide), if_neg (show ¬ (3 : Int) = 1 by decide), if_neg (show ¬ (3 : Int) = 6 by decide), k_above (by omega), zCI_ri]
  show zCI LAY (zx d 237 [.inl (some 57), .inr (.inl n), .inr (.inl (2 : Int)), .inr (.inl x)] σ) _ = _
  rw [e1, zCI_ri]
theorem m_0_4 {D : Nat} {n : Int} {K f : Nat} (c : yMc D n K (f + 1) 1 0) (hD : 1 ≤ D) : yMc (D + 1) n K (f + 1) 4 0 := by
  intro d hd x r σ s1 s2 s3 h
  obtain ⟨d, rfl, hd'⟩ := y_d (k := D) hd
  rw [yrn_up (k' := 1) (by decide)] at h
  show zx (d + 1) 237 [.inl (some 57), .inr (.inl n), .inr (.inl (4 : Int)), .inr (.inl x)] σ = _
  have e1 : zx d 237 [.inl (some 57), .inr (.inl n), .inr (.inl (1 : Int)), .inr (.inl x)] σ = zri r.1 (yns 80 57 37 r.2 σ) := c d hd' x r σ s1 s2 s3 h
  rw [e_X12_leadsBy, if_neg (show ¬ (4 : Int) = 0 by decide), if_neg (show ¬ (4 : Int) = 1 by decide), if_neg (show ¬ (4 : Int) = 6 by decide), k_above (by omega), zCI_ri]
  show zCI LAY (zx d 237 [.inl (some 57), .inr (.inl n), .inr (.inl (1 : Int)), .inr (.inl x)] σ) _ = _
  rw [e1, zCI_ri]
theorem m_0_5 {D : Nat} {n : Int} {K f : Nat} (c : yMc D n K (f + 1) 3 0) (hD : 1 ≤ D) : yMc (D + 1) n K (f + 1) 5 0 := by
  intro d hd x r σ s1 s2 s3 h
  obtain ⟨d, rfl, hd'⟩ := y_d (k := D) hd
  rw [yrn_up (k' := 3) (by decide)] at h
  show zx (d + 1) 237 [.inl (some 57), .inr (.inl n), .inr (.inl (5 : Int)), .inr (.inl x)] σ = _
  have e1 : zx d 237 [.inl (some 57), .inr (.inl n), .inr (.inl (3 : Int)), .inr (.inl x)] σ = zri r.1 (yns 80 57 37 r.2 σ) := c d hd' x r σ s1 s2 s3 h
  rw [e_X12_leadsBy, if_neg (show ¬ (5 : Int) = 0 by decide), if_neg (show ¬ (5 : Int) = 1 by decide), if_neg (show ¬ (5 : Int) = 6 by decide), k_above (by omega), zCI_ri]
  show zCI LAY (zx d 237 [.inl (some 57), .inr (.inl n), .inr (.inl (3 : Int)), .inr (.inl x)] σ) _ = _
  rw [e1, zCI_ri]
theorem m_0_6 {D : Nat} {n : Int} {K f : Nat} (hn : 0 ≤ n ∧ n < 50) (hK : K < 8) (c : ∀ k a, k < 8 → a < 4 → yMc D n K f k a) (hD : 1 ≤ D) : yMc (D + 1) n K (f + 1) 6 0 := by
  intro d hd x r σ s1 s2 s3 h
  obtain ⟨d, rfl, hd'⟩ := y_d (k := D) hd
  rw [yrn_70 (by decide)] at h
  show zx (d + 1) 237 [.inl (some 57), .inr (.inl n), .inr (.inl (6 : Int)), .inr (.inl x)] σ = _
  rw [e_X12_leadsBy, if_neg (show ¬ (6 : Int) = 0 by decide), if_neg (show ¬ (6 : Int) = 1 by decide), if_pos rfl, k_mran (by omega) _ s2 (by omega), zCV_rv]
  have hx := yn1_f (A := 80) (C := 57) (S := 37) (by decide) 70 σ
  have t3 : yn1 80 57 37 70 σ 57 37 = σ 57 37 + 1 := hx.1
  have t4 : yn1 80 57 37 70 σ 79 n = K := (hx.2 79 n (by decide) (fun z => absurd z.1 (by decide))).trans s1
  generalize hs : yn1 80 57 37 70 σ = s at t3 t4 ⊢
  cases hr : yrn n K f 0 0 x with
  | none => rw [hr] at h; cases h
  | some r1 =>
    rw [hr] at h; cases h
    simp only [List.length_cons] at s3
    have e1 : zx d 237 [.inl (some 57), .inr (.inl n), .inr (.inl (0 : Int)), .inr (.inl x)] s = zri r1.1 (yns 80 57 37 r1.2 s) := c 0 0 (by omega) (by omega) d hd' x r1 _ t4 (by omega) (by omega) hr
    rw [e1, zCI_ri, ← hs]; rfl
theorem m_0_7 {D : Nat} {n : Int} {K f : Nat} (c : yMc D n K (f + 1) 4 0) (hD : 1 ≤ D) : yMc (D + 1) n K (f + 1) 7 0 := by
  intro d hd x r σ s1 s2 s3 h
  obtain ⟨d, rfl, hd'⟩ := y_d (k := D) hd
  rw [yrn_up (k' := 4) (by decide)] at h
  show zx (d + 1) 237 [.inl (some 57), .inr (.inl n), .inr (.inl (7 : Int)), .inr (.inl x)] σ = _
  have e1 : zx d 237 [.inl (some 57), .inr (.inl n), .inr (.inl (4 : Int)), .inr (.inl x)] σ = zri r.1 (yns 80 57 37 r.2 σ) := c d hd' x r σ s1 s2 s3 h
  rw [e_X12_leadsBy, if_neg (show ¬ (7 : Int) = 0 by decide), if_neg (show ¬ (7 : Int) = 1 by decide), if_neg (show ¬ (7 : Int) = 6 by decide), k_above (by omega), zCI_ri]
  show zCI LAY (zx d 237 [.inl (some 57), .inr (.inl n), .inr (.inl (4 : Int)), .inr (.inl x)] σ) _ = _
  rw [e1, zCI_ri]
theorem m_1_0 {D : Nat} {n : Int} {K f : Nat} (hn : 0 ≤ n ∧ n < 50) (hK : K < 8) (c : ∀ k a, k < 8 → a < 4 → yMc D n K f k a) (hD : 1 ≤ D) : yMc (D + 1) n K (f + 1) 0 1 := by
  intro d hd x r σ s1 s2 s3 h
  obtain ⟨d, rfl, hd'⟩ := y_d (k := D) hd
  rw [yrn_10 (by decide)] at h
  show zx (d + 1) 238 [.inl (some 57), .inr (.inl n), .inr (.inl (0 : Int)), .inr (.inl x)] σ = _
  rw [e_X12_thanksBy, if_pos rfl, k_mran (by omega) _ s2 (by omega), zCV_rv]
  have hx := yn1_f (A := 80) (C := 57) (S := 37) (by decide) 10 σ
  have t3 : yn1 80 57 37 10 σ 57 37 = σ 57 37 + 1 := hx.1
  have t4 : yn1 80 57 37 10 σ 79 n = K := (hx.2 79 n (by decide) (fun z => absurd z.1 (by decide))).trans s1
  generalize hs : yn1 80 57 37 10 σ = s at t3 t4 ⊢
  rw [if_pos hn, t4]
  cases hr : yrn n K f K 0 x with
  | none => rw [hr] at h; cases h
  | some r1 =>
    rw [hr] at h; cases h
    simp only [List.length_cons] at s3
    have e1 : zx d 237 [.inl (some 57), .inr (.inl n), .inr (.inl (K : Int)), .inr (.inl x)] s = zri r1.1 (yns 80 57 37 r1.2 s) := c K 0 (by omega) (by omega) d hd' x r1 _ t4 (by omega) (by omega) hr
    rw [e1, zCI_ri, ← hs]; rfl
theorem m_1_1 {D : Nat} {n : Int} {K f : Nat} (c : yMc D n K (f + 1) 0 1) (hD : 1 ≤ D) : yMc (D + 1) n K (f + 1) 1 1 := by
  intro d hd x r σ s1 s2 s3 h
  obtain ⟨d, rfl, hd'⟩ := y_d (k := D) hd
  rw [yrn_up (k' := 0) (by decide)] at h
  show zx (d + 1) 238 [.inl (some 57), .inr (.inl n), .inr (.inl (1 : Int)), .inr (.inl x)] σ = _
  have e1 : zx d 238 [.inl (some 57), .inr (.inl n), .inr (.inl (0 : Int)), .inr (.inl x)] σ = zri r.1 (yns 80 57 37 r.2 σ) := c d hd' x r σ s1 s2 s3 h
  rw [e_X12_thanksBy, if_neg (show ¬ (1 : Int) = 0 by decide), if_pos rfl, k_above (by omega), zCI_ri]
  show zCI LAY (zx d 238 [.inl (some 57), .inr (.inl n), .inr (.inl (0 : Int)), .inr (.inl x)] σ) _ = _
  rw [e1, zCI_ri]
theorem m_1_2 {D : Nat} {n : Int} {K f : Nat} (hn : 0 ≤ n ∧ n < 50) (hK : K < 8) (c : ∀ k a, k < 8 → a < 4 → yMc D n K f k a) (hD : 1 ≤ D) : yMc (D + 1) n K (f + 1) 2 1 := by
  intro d hd x r σ s1 s2 s3 h
  obtain ⟨d, rfl, hd'⟩ := y_d (k := D) hd
  rw [yrn_30 (by decide)] at h
  show zx (d + 1) 238 [.inl (some 57), .inr (.inl n), .inr (.inl (2 : Int)), .inr (.inl x)] σ = _
  rw [e_X12_thanksBy, if_neg (show ¬ (2 : Int) = 0 by decide), if_neg (show ¬ (2 : Int) = 1 by decide), if_pos rfl, k_mran (by omega) _ s2 (by omega), zCV_rv]
  have hx := yn1_f (A := 80) (C := 57) (S := 37) (by decide) 30 σ
  have t3 : yn1 80 57 37 30 σ 57 37 = σ 57 37 + 1 := hx.1
  have t4 : yn1 80 57 37 30 σ 79 n = K := (hx.2 79 n (by decide) (fun z => absurd z.1 (by decide))).trans s1
  generalize hs : yn1 80 57 37 30 σ = s at t3 t4 ⊢
  cases hr : yrn n K f 0 1 x with
  | none => rw [hr] at h; cases h
  | some r1 =>
    rw [hr] at h; cases h
    simp only [List.length_cons] at s3
    have e1 : zx d 238 [.inl (some 57), .inr (.inl n), .inr (.inl (0 : Int)), .inr (.inl x)] s = zri r1.1 (yns 80 57 37 r1.2 s) := c 0 1 (by omega) (by omega) d hd' x r1 _ t4 (by omega) (by omega) hr
    rw [e1, zCI_ri, ← hs]; rfl
theorem m_1_3 {D : Nat} {n : Int} {K f : Nat} (hn : 0 ≤ n ∧ n < 50) (hK : K < 8) (c : ∀ k a, k < 8 → a < 4 → yMc D n K f k a) (hD : 1 ≤ D) : yMc (D + 1) n K (f + 1) 3 1 := by
  intro d hd x r σ s1 s2 s3 h
  obtain ⟨d, rfl, hd'⟩ := y_d (k := D) hd
  rw [yrn_41 (by decide)] at h
  show zx (d + 1) 238 [.inl (some 57), .inr (.inl n), .inr (.inl (3 : Int)), .inr (.inl x)] σ = _
  rw [e_X12_thanksBy, if_neg (show ¬ (3 : Int) = 0 by decide), if_neg (show ¬ (3 : Int) = 1 by decide), if_neg (show ¬ (3 : Int) = 2 by decide), if_pos rfl, k_mran (by omega) _ s2 (by omega), zCV_rv]
  have hx := yn1_f (A := 80) (C := 57) (S := 37) (by decide) 41 σ
  have t3 : yn1 80 57 37 41 σ 57 37 = σ 57 37 + 1 := hx.1
  have t4 : yn1 80 57 37 41 σ 79 n = K := (hx.2 79 n (by decide) (fun z => absurd z.1 (by decide))).trans s1
  generalize hs : yn1 80 57 37 41 σ = s at t3 t4 ⊢
  cases hr : yrn n K f 2 1 (zw (x + 1)) with
  | none => rw [hr] at h; cases h
  | some r1 =>
    rw [hr] at h; cases h
    simp only [List.length_cons] at s3
    have e1 : zx d 238 [.inl (some 57), .inr (.inl n), .inr (.inl (2 : Int)), .inr (.inl (zw (x + 1)))] s = zri r1.1 (yns 80 57 37 r1.2 s) := c 2 1 (by omega) (by omega) d hd' (zw (x + 1)) r1 _ t4 (by omega) (by omega) hr
    rw [e1, zCI_ri, ← hs]; rfl
theorem m_1_4 {D : Nat} {n : Int} {K f : Nat} (c : yMc D n K (f + 1) 1 1) (hD : 1 ≤ D) : yMc (D + 1) n K (f + 1) 4 1 := by
  intro d hd x r σ s1 s2 s3 h
  obtain ⟨d, rfl, hd'⟩ := y_d (k := D) hd
  rw [yrn_up (k' := 1) (by decide)] at h
  show zx (d + 1) 238 [.inl (some 57), .inr (.inl n), .inr (.inl (4 : Int)), .inr (.inl x)] σ = _
  have e1 : zx d 238 [.inl (some 57), .inr (.inl n), .inr (.inl (1 : Int)), .inr (.inl x)] σ = zri r.1 (yns 80 57 37 r.2 σ) := c d hd' x r σ s1 s2 s3 h
  rw [e_X12_thanksBy, if_neg (show ¬ (4 : Int) = 0 by decide), if_neg (show ¬ (4 : Int) = 1 by decide), if_neg (show ¬ (4 : Int) = 2 by decide), if_neg (show ¬ (4 : Int) = 3 by decide), if_pos rfl, k_above (by omega), zCI_ri]
  show zCI LAY (zx d 238 [.inl (some 57), .inr (.inl n), .inr (.inl (1 : Int)), .inr (.inl x)] σ) _ = _
  rw [e1, zCI_ri]
theorem m_1_5 {D : Nat} {n : Int} {K f : Nat} (c : yMc D n K (f + 1) 3 1) (hD : 1 ≤ D) : yMc (D + 1) n K (f + 1) 5 1 := by
  intro d hd x r σ s1 s2 s3 h
  obtain ⟨d, rfl, hd'⟩ := y_d (k := D) hd
  rw [yrn_up (k' := 3) (by decide)] at h
  show zx (d + 1) 238 [.inl (some 57), .inr (.inl n), .inr (.inl (5 : Int)), .inr (.inl x)] σ = _
  have e1 : zx d 238 [.inl (some 57), .inr (.inl n), .inr (.inl (3 : Int)), .inr (.inl x)] σ = zri r.1 (yns 80 57 37 r.2 σ) := c d hd' x r σ s1 s2 s3 h
  rw [e_X12_thanksBy, if_neg (show ¬ (5 : Int) = 0 by decide), if_neg (show ¬ (5 : Int) = 1 by decide), if_neg (show ¬ (5 : Int) = 2 by decide), if_neg (show ¬ (5 : Int) = 3 by decide), if_neg (show ¬ (5 : Int) = 4 by decide), if_pos rfl, k_above (by omega), zCI_ri]
  show zCI LAY (zx d 238 [.inl (some 57), .inr (.inl n), .inr (.inl (3 : Int)), .inr (.inl x)] σ) _ = _
  rw [e1, zCI_ri]
theorem m_1_6 {D : Nat} {n : Int} {K f : Nat} (c : yMc D n K (f + 1) 0 1) (hD : 1 ≤ D) : yMc (D + 1) n K (f + 1) 6 1 := by
  intro d hd x r σ s1 s2 s3 h
  obtain ⟨d, rfl, hd'⟩ := y_d (k := D) hd
  rw [yrn_up (k' := 0) (by decide)] at h
  show zx (d + 1) 238 [.inl (some 57), .inr (.inl n), .inr (.inl (6 : Int)), .inr (.inl x)] σ = _
  have e1 : zx d 238 [.inl (some 57), .inr (.inl n), .inr (.inl (0 : Int)), .inr (.inl x)] σ = zri r.1 (yns 80 57 37 r.2 σ) := c d hd' x r σ s1 s2 s3 h
  rw [e_X12_thanksBy, if_neg (show ¬ (6 : Int) = 0 by decide), if_neg (show ¬ (6 : Int) = 1 by decide), if_neg (show ¬ (6 : Int) = 2 by decide), if_neg (show ¬ (6 : Int) = 3 by decide), if_neg (show ¬ (6 : Int) = 4 by decide), if_neg (show ¬ (6 : Int) = 5 by decide), if_pos rfl, k_above (by omega), zCI_ri]
  show zCI LAY (zx d 238 [.inl (some 57), .inr (.inl n), .inr (.inl (0 : Int)), .inr (.inl x)] σ) _ = _
  rw [e1, zCI_ri]
theorem m_1_7 {D : Nat} {n : Int} {K f : Nat} (hn : 0 ≤ n ∧ n < 50) (hK : K < 8) (c : ∀ k a, k < 8 → a < 4 → yMc D n K f k a) (hD : 1 ≤ D) : yMc (D + 1) n K (f + 1) 7 1 := by
  intro d hd x r σ s1 s2 s3 h
  obtain ⟨d, rfl, hd'⟩ := y_d (k := D) hd
  rw [yrn_80 (by decide)] at h
  show zx (d + 1) 238 [.inl (some 57), .inr (.inl n), .inr (.inl (7 : Int)), .inr (.inl x)] σ = _
  rw [e_X12_thanksBy, if_neg (show ¬ (7 : Int) = 0 by decide), if_neg (show ¬ (7 : Int) = 1 by decide), if_neg (show ¬ (7 : Int) = 2 by decide), if_neg (show ¬ (7 : Int) = 3 by decide), if_neg (show ¬ (7 : Int) = 4 by decide), if_neg (show ¬ (7 : Int) = 5 by decide), if_neg (show ¬ (7 : Int) = 6 by decide), if_pos rfl, k_mran (by omega) _ s2 (by omega), zCV_rv]
  have hx := yn1_f (A := 80) (C := 57) (S := 37) (by decide) 80 σ
  have t3 : yn1 80 57 37 80 σ 57 37 = σ 57 37 + 1 := hx.1
  have t4 : yn1 80 57 37 80 σ 79 n = K := (hx.2 79 n (by decide) (fun z => absurd z.1 (by decide))).trans s1
  generalize hs : yn1 80 57 37 80 σ = s at t3 t4 ⊢
  cases hr : yrn n K f 4 1 x with
  | none => rw [hr] at h; cases h
  | some r1 =>
    cases hr2 : yrn n K f K 2 2 with
    | none => rw [hr] at h; simp only [Option.bind, hr2] at h; cases h
    | some r2 =>
      rw [hr] at h; simp only [Option.bind, hr2] at h; cases h
      simp only [List.length_cons, List.length_append] at s3
      have e1 : zx d 238 [.inl (some 57), .inr (.inl n), .inr (.inl (4 : Int)), .inr (.inl x)] s = zri r1.1 (yns 80 57 37 r1.2 s) := c 4 1 (by omega) (by omega) d hd' x r1 _ t4 (by omega) (by omega) hr
      have hy := yns_f (A := 80) (C := 57) (S := 37) (by decide) r1.2 s
      have u3 : yns 80 57 37 r1.2 s 57 37 = s 57 37 + r1.2.length := hy.1
      have u4 : yns 80 57 37 r1.2 s 79 n = K := (hy.2 79 n (by decide) (fun z => absurd z.1 (by decide))).trans t4
      have e2 : zx d 239 [.inl (some 57), .inr (.inl n), .inr (.inl (K : Int)), .inr (.inl 2)] (yns 80 57 37 r1.2 s) = zri r2.1 (yns 80 57 37 r2.2 (yns 80 57 37 r1.2 s)) := c K 2 (by omega) (by omega) d hd' 2 r2 _ u4 (by omega) (by omega) hr2
      rw [e1, zCI_ri, if_pos hn, u4, e2, zCI_ri, ← yns_app, ← hs]; rfl
theorem m_2_0 {D : Nat} {n : Int} {K f : Nat} (hn : 0 ≤ n ∧ n < 50) (hK : K < 8) (c : ∀ k a, k < 8 → a < 4 → yMc D n K f k a) (hD : 1 ≤ D) : yMc (D + 1) n K (f + 1) 0 2 := by
  intro d hd x r σ s1 s2 s3 h
  obtain ⟨d, rfl, hd'⟩ := y_d (k := D) hd
  rw [yrn_11 (by decide)] at h
  show zx (d + 1) 239 [.inl (some 57), .inr (.inl n), .inr (.inl (0 : Int)), .inr (.inl x)] σ = _
  rw [e_X12_sulksBy, if_pos rfl, k_mran (by omega) _ s2 (by omega), zCV_rv]
  have hx := yn1_f (A := 80) (C := 57) (S := 37) (by decide) 11 σ
  have t3 : yn1 80 57 37 11 σ 57 37 = σ 57 37 + 1 := hx.1
  have t4 : yn1 80 57 37 11 σ 79 n = K := (hx.2 79 n (by decide) (fun z => absurd z.1 (by decide))).trans s1
  generalize hs : yn1 80 57 37 11 σ = s at t3 t4 ⊢
  cases h
  rw [← hs]; rfl
theorem m_2_1 {D : Nat} {n : Int} {K f : Nat} (c : yMc D n K (f + 1) 0 2) (hD : 1 ≤ D) : yMc (D + 1) n K (f + 1) 1 2 := by
  intro d hd x r σ s1 s2 s3 h
  obtain ⟨d, rfl, hd'⟩ := y_d (k := D) hd
  rw [yrn_up (k' := 0) (by decide)] at h
  show zx (d + 1) 239 [.inl (some 57), .inr (.inl n), .inr (.inl (1 : Int)), .inr (.inl x)] σ = _
  have e1 : zx d 239 [.inl (some 57), .inr (.inl n), .inr (.inl (0 : Int)), .inr (.inl x)] σ = zri r.1 (yns 80 57 37 r.2 σ) := c d hd' x r σ s1 s2 s3 h
  rw [e_X12_sulksBy, if_neg (show ¬ (1 : Int) = 0 by decide), if_pos rfl, k_above (by omega), zCI_ri]
  show zCI LAY (zx d 239 [.inl (some 57), .inr (.inl n), .inr (.inl (0 : Int)), .inr (.inl x)] σ) _ = _
  rw [e1, zCI_ri]
theorem m_2_2 {D : Nat} {n : Int} {K f : Nat} (c : yMc D n K (f + 1) 0 2) (hD : 1 ≤ D) : yMc (D + 1) n K (f + 1) 2 2 := by
  intro d hd x r σ s1 s2 s3 h
  obtain ⟨d, rfl, hd'⟩ := y_d (k := D) hd
  rw [yrn_up (k' := 0) (by decide)] at h
  show zx (d + 1) 239 [.inl (some 57), .inr (.inl n), .inr (.inl (2 : Int)), .inr (.inl x)] σ = _
  have e1 : zx d 239 [.inl (some 57), .inr (.inl n), .inr (.inl (0 : Int)), .inr (.inl x)] σ = zri r.1 (yns 80 57 37 r.2 σ) := c d hd' x r σ s1 s2 s3 h
  rw [e_X12_sulksBy, if_neg (show ¬ (2 : Int) = 0 by decide), if_neg (show ¬ (2 : Int) = 1 by decide), if_pos rfl, k_above (by omega), zCI_ri]
  show zCI LAY (zx d 239 [.inl (some 57), .inr (.inl n), .inr (.inl (0 : Int)), .inr (.inl x)] σ) _ = _
  rw [e1, zCI_ri]
theorem m_2_3 {D : Nat} {n : Int} {K f : Nat} (hn : 0 ≤ n ∧ n < 50) (hK : K < 8) (c : ∀ k a, k < 8 → a < 4 → yMc D n K f k a) (hD : 1 ≤ D) : yMc (D + 1) n K (f + 1) 3 2 := by
  intro d hd x r σ s1 s2 s3 h
  obtain ⟨d, rfl, hd'⟩ := y_d (k := D) hd
  rw [yrn_40 (by decide)] at h
  show zx (d + 1) 239 [.inl (some 57), .inr (.inl n), .inr (.inl (3 : Int)), .inr (.inl x)] σ = _
  rw [e_X12_sulksBy, if_neg (show ¬ (3 : Int) = 0 by decide), if_neg (show ¬ (3 : Int) = 1 by decide), if_neg (show ¬ (3 : Int) = 2 by decide), if_pos rfl, k_mran (by omega) _ s2 (by omega), zCV_rv]
  have hx := yn1_f (A := 80) (C := 57) (S := 37) (by decide) 40 σ
  have t3 : yn1 80 57 37 40 σ 57 37 = σ 57 37 + 1 := hx.1
  have t4 : yn1 80 57 37 40 σ 79 n = K := (hx.2 79 n (by decide) (fun z => absurd z.1 (by decide))).trans s1
  generalize hs : yn1 80 57 37 40 σ = s at t3 t4 ⊢
  cases hr : yrn n K f 2 2 x with
  | none => rw [hr] at h; cases h
  | some r1 =>
    rw [hr] at h; cases h
    simp only [List.length_cons] at s3
    have e1 : zx d 239 [.inl (some 57), .inr (.inl n), .inr (.inl (2 : Int)), .inr (.inl x)] s = zri r1.1 (yns 80 57 37 r1.2 s) := c 2 2 (by omega) (by omega) d hd' x r1 _ t4 (by omega) (by omega) hr
    rw [e1, zCI_ri, ← hs]; rfl
theorem m_2_4 {D : Nat} {n : Int} {K f : Nat} (hn : 0 ≤ n ∧ n < 50) (hK : K < 8) (c : ∀ k a, k < 8 → a < 4 → yMc D n K f k a) (hD : 1 ≤ D) : yMc (D + 1) n K (f + 1) 4 2 := by
  intro d hd x r σ s1 s2 s3 h
  obtain ⟨d, rfl, hd'⟩ := y_d (k := D) hd
  rw [yrn_50 (by decide)] at h
  show zx (d + 1) 239 [.inl (some 57), .inr (.inl n), .inr (.inl (4 : Int)), .inr (.inl x)] σ = _
  rw [e_X12_sulksBy, if_neg (show ¬ (4 : Int) = 0 by decide), if_neg (show ¬ (4 : Int) = 1 by decide), if_neg (show ¬ (4 : Int) = 2 by decide), if_neg (show ¬ (4 : Int) = 3 by decide), if_pos rfl, k_mran (by omega) _ s2 (by omega), zCV_rv]
  have hx := yn1_f (A := 80) (C := 57) (S := 37) (by decide) 50 σ
  have t3 : yn1 80 57 37 50 σ 57 37 = σ 57 37 + 1 := hx.1
  have t4 : yn1 80 57 37 50 σ 79 n = K := (hx.2 79 n (by decide) (fun z => absurd z.1 (by decide))).trans s1
  generalize hs : yn1 80 57 37 50 σ = s at t3 t4 ⊢
  cases hr : yrn n K f 1 2 x with
  | none => rw [hr] at h; cases h
  | some r1 =>
    cases hr2 : yrn n K f K 0 2 with
    | none => rw [hr] at h; simp only [Option.bind, hr2] at h; cases h
    | some r2 =>
      rw [hr] at h; simp only [Option.bind, hr2] at h; cases h
      simp only [List.length_cons, List.length_append] at s3
      have e1 : zx d 239 [.inl (some 57), .inr (.inl n), .inr (.inl (1 : Int)), .inr (.inl x)] s = zri r1.1 (yns 80 57 37 r1.2 s) := c 1 2 (by omega) (by omega) d hd' x r1 _ t4 (by omega) (by omega) hr
      have hy := yns_f (A := 80) (C := 57) (S := 37) (by decide) r1.2 s
      have u3 : yns 80 57 37 r1.2 s 57 37 = s 57 37 + r1.2.length := hy.1
      have u4 : yns 80 57 37 r1.2 s 79 n = K := (hy.2 79 n (by decide) (fun z => absurd z.1 (by decide))).trans t4
      have e2 : zx d 237 [.inl (some 57), .inr (.inl n), .inr (.inl (K : Int)), .inr (.inl 2)] (yns 80 57 37 r1.2 s) = zri r2.1 (yns 80 57 37 r2.2 (yns 80 57 37 r1.2 s)) := c K 0 (by omega) (by omega) d hd' 2 r2 _ u4 (by omega) (by omega) hr2
      rw [e1, zCI_ri, if_pos hn, u4, e2, zCI_ri, ← yns_app, ← hs]; rfl
theorem m_2_5 {D : Nat} {n : Int} {K f : Nat} (c : yMc D n K (f + 1) 3 2) (hD : 1 ≤ D) : yMc (D + 1) n K (f + 1) 5 2 := by
  intro d hd x r σ s1 s2 s3 h
  obtain ⟨d, rfl, hd'⟩ := y_d (k := D) hd
  rw [yrn_up (k' := 3) (by decide)] at h
  show zx (d + 1) 239 [.inl (some 57), .inr (.inl n), .inr (.inl (5 : Int)), .inr (.inl x)] σ = _
  have e1 : zx d 239 [.inl (some 57), .inr (.inl n), .inr (.inl (3 : Int)), .inr (.inl x)] σ = zri r.1 (yns 80 57 37 r.2 σ) := c d hd' x r σ s1 s2 s3 h
  rw [e_X12_sulksBy, if_neg (show ¬ (5 : Int) = 0 by decide), if_neg (show ¬ (5 : Int) = 1 by decide), if_neg (show ¬ (5 : Int) = 2 by decide), if_neg (show ¬ (5 : Int) = 3 by decide), if_neg (show ¬ (5 : Int) = 4 by decide), k_above (by omega), zCI_ri]
  show zCI LAY (zx d 239 [.inl (some 57), .inr (.inl n), .inr (.inl (3 : Int)), .inr (.inl x)] σ) _ = _
  rw [e1, zCI_ri]
theorem m_2_6 {D : Nat} {n : Int} {K f : Nat} (c : yMc D n K (f + 1) 0 2) (hD : 1 ≤ D) : yMc (D + 1) n K (f + 1) 6 2 := by
  intro d hd x r σ s1 s2 s3 h
  obtain ⟨d, rfl, hd'⟩ := y_d (k := D) hd
  rw [yrn_up (k' := 0) (by decide)] at h
  show zx (d + 1) 239 [.inl (some 57), .inr (.inl n), .inr (.inl (6 : Int)), .inr (.inl x)] σ = _
  have e1 : zx d 239 [.inl (some 57), .inr (.inl n), .inr (.inl (0 : Int)), .inr (.inl x)] σ = zri r.1 (yns 80 57 37 r.2 σ) := c d hd' x r σ s1 s2 s3 h
  rw [e_X12_sulksBy, if_neg (show ¬ (6 : Int) = 0 by decide), if_neg (show ¬ (6 : Int) = 1 by decide), if_neg (show ¬ (6 : Int) = 2 by decide), if_neg (show ¬ (6 : Int) = 3 by decide), if_neg (show ¬ (6 : Int) = 4 by decide), k_above (by omega), zCI_ri]
  show zCI LAY (zx d 239 [.inl (some 57), .inr (.inl n), .inr (.inl (0 : Int)), .inr (.inl x)] σ) _ = _
  rw [e1, zCI_ri]
theorem m_2_7 {D : Nat} {n : Int} {K f : Nat} (c : yMc D n K (f + 1) 4 2) (hD : 1 ≤ D) : yMc (D + 1) n K (f + 1) 7 2 := by
  intro d hd x r σ s1 s2 s3 h
  obtain ⟨d, rfl, hd'⟩ := y_d (k := D) hd
  rw [yrn_up (k' := 4) (by decide)] at h
  show zx (d + 1) 239 [.inl (some 57), .inr (.inl n), .inr (.inl (7 : Int)), .inr (.inl x)] σ = _
  have e1 : zx d 239 [.inl (some 57), .inr (.inl n), .inr (.inl (4 : Int)), .inr (.inl x)] σ = zri r.1 (yns 80 57 37 r.2 σ) := c d hd' x r σ s1 s2 s3 h
  rw [e_X12_sulksBy, if_neg (show ¬ (7 : Int) = 0 by decide), if_neg (show ¬ (7 : Int) = 1 by decide), if_neg (show ¬ (7 : Int) = 2 by decide), if_neg (show ¬ (7 : Int) = 3 by decide), if_neg (show ¬ (7 : Int) = 4 by decide), k_above (by omega), zCI_ri]
  show zCI LAY (zx d 239 [.inl (some 57), .inr (.inl n), .inr (.inl (4 : Int)), .inr (.inl x)] σ) _ = _
  rw [e1, zCI_ri]
theorem m_3_0 {D : Nat} {n : Int} {K f : Nat} (hn : 0 ≤ n ∧ n < 50) (hK : K < 8) (c : ∀ k a, k < 8 → a < 4 → yMc D n K f k a) (hD : 1 ≤ D) : yMc (D + 1) n K (f + 1) 0 3 := by
  intro d hd x r σ s1 s2 s3 h
  obtain ⟨d, rfl, hd'⟩ := y_d (k := D) hd
  rw [yrn_2 (by decide)] at h
  show zx (d + 1) 240 [.inl (some 57), .inr (.inl n), .inr (.inl (0 : Int)), .inr (.inl x)] σ = _
  rw [e_X12_tells, if_pos rfl, k_mran (by omega) _ s2 (by omega), zCV_rv]
  have hx := yn1_f (A := 80) (C := 57) (S := 37) (by decide) 2 σ
  have t3 : yn1 80 57 37 2 σ 57 37 = σ 57 37 + 1 := hx.1
  have t4 : yn1 80 57 37 2 σ 79 n = K := (hx.2 79 n (by decide) (fun z => absurd z.1 (by decide))).trans s1
  generalize hs : yn1 80 57 37 2 σ = s at t3 t4 ⊢
  rw [if_pos hn, t4]
  cases hr : yrn n K f K 1 x with
  | none => rw [hr] at h; cases h
  | some r1 =>
    cases hr2 : yrn n K f K 2 1 with
    | none => rw [hr] at h; simp only [Option.bind, hr2] at h; cases h
    | some r2 =>
      rw [hr] at h; simp only [Option.bind, hr2] at h; cases h
      simp only [List.length_cons, List.length_append] at s3
      have e1 : zx d 238 [.inl (some 57), .inr (.inl n), .inr (.inl (K : Int)), .inr (.inl x)] s = zri r1.1 (yns 80 57 37 r1.2 s) := c K 1 (by omega) (by omega) d hd' x r1 _ t4 (by omega) (by omega) hr
      have hy := yns_f (A := 80) (C := 57) (S := 37) (by decide) r1.2 s
      have u3 : yns 80 57 37 r1.2 s 57 37 = s 57 37 + r1.2.length := hy.1
      have u4 : yns 80 57 37 r1.2 s 79 n = K := (hy.2 79 n (by decide) (fun z => absurd z.1 (by decide))).trans t4
      have e2 : zx d 239 [.inl (some 57), .inr (.inl n), .inr (.inl (K : Int)), .inr (.inl 1)] (yns 80 57 37 r1.2 s) = zri r2.1 (yns 80 57 37 r2.2 (yns 80 57 37 r1.2 s)) := c K 2 (by omega) (by omega) d hd' 1 r2 _ u4 (by omega) (by omega) hr2
      rw [e1, zCI_ri, if_pos hn, u4, e2, zCI_ri, ← yns_app, ← hs]; rfl
theorem m_3_1 {D : Nat} {n : Int} {K f : Nat} (c : yMc D n K (f + 1) 0 3) (hD : 1 ≤ D) : yMc (D + 1) n K (f + 1) 1 3 := by
  intro d hd x r σ s1 s2 s3 h
  obtain ⟨d, rfl, hd'⟩ := y_d (k := D) hd
  rw [yrn_up (k' := 0) (by decide)] at h
  show zx (d + 1) 240 [.inl (some 57), .inr (.inl n), .inr (.inl (1 : Int)), .inr (.inl x)] σ = _
  have e1 : zx d 240 [.inl (some 57), .inr (.inl n), .inr (.inl (0 : Int)), .inr (.inl x)] σ = zri r.1 (yns 80 57 37 r.2 σ) := c d hd' x r σ s1 s2 s3 h
  rw [e_X12_tells, if_neg (show ¬ (1 : Int) = 0 by decide), if_neg (show ¬ (1 : Int) = 5 by decide), if_neg (show ¬ (1 : Int) = 7 by decide), k_above (by omega), zCI_ri]
  show zCI LAY (zx d 240 [.inl (some 57), .inr (.inl n), .inr (.inl (0 : Int)), .inr (.inl x)] σ) _ = _
  rw [e1, zCI_ri]
theorem m_3_2 {D : Nat} {n : Int} {K f : Nat} (c : yMc D n K (f + 1) 0 3) (hD : 1 ≤ D) : yMc (D + 1) n K (f + 1) 2 3 := by
  intro d hd x r σ s1 s2 s3 h
  obtain ⟨d, rfl, hd'⟩ := y_d (k := D) hd
  rw [yrn_up (k' := 0) (by decide)] at h
  show zx (d + 1) 240 [.inl (some 57), .inr (.inl n), .inr (.inl (2 : Int)), .inr (.inl x)] σ = _
  have e1 : zx d 240 [.inl (some 57), .inr (.inl n), .inr (.inl (0 : Int)), .inr (.inl x)] σ = zri r.1 (yns 80 57 37 r.2 σ) := c d hd' x r σ s1 s2 s3 h
  rw [e_X12_tells, if_neg (show ¬ (2 : Int) = 0 by decide), if_neg (show ¬ (2 : Int) = 5 by decide), if_neg (show ¬ (2 : Int) = 7 by decide), k_above (by omega), zCI_ri]
  show zCI LAY (zx d 240 [.inl (some 57), .inr (.inl n), .inr (.inl (0 : Int)), .inr (.inl x)] σ) _ = _
  rw [e1, zCI_ri]
theorem m_3_3 {D : Nat} {n : Int} {K f : Nat} (c : yMc D n K (f + 1) 2 3) (hD : 1 ≤ D) : yMc (D + 1) n K (f + 1) 3 3 := by
  intro d hd x r σ s1 s2 s3 h
  obtain ⟨d, rfl, hd'⟩ := y_d (k := D) hd
  rw [yrn_up (k' := 2) (by decide)] at h
  show zx (d + 1) 240 [.inl (some 57), .inr (.inl n), .inr (.inl (3 : Int)), .inr (.inl x)] σ = _
  have e1 : zx d 240 [.inl (some 57), .inr (.inl n), .inr (.inl (2 : Int)), .inr (.inl x)] σ = zri r.1 (yns 80 57 37 r.2 σ) := c d hd' x r σ s1 s2 s3 h
  rw [e_X12_tells, if_neg (show ¬ (3 : Int) = 0 by decide), if_neg (show ¬ (3 : Int) = 5 by decide), if_neg (show ¬ (3 : Int) = 7 by decide), k_above (by omega), zCI_ri]
  show zCI LAY (zx d 240 [.inl (some 57), .inr (.inl n), .inr (.inl (2 : Int)), .inr (.inl x)] σ) _ = _
  rw [e1, zCI_ri]
theorem m_3_4 {D : Nat} {n : Int} {K f : Nat} (c : yMc D n K (f + 1) 1 3) (hD : 1 ≤ D) : yMc (D + 1) n K (f + 1) 4 3 := by
  intro d hd x r σ s1 s2 s3 h
  obtain ⟨d, rfl, hd'⟩ := y_d (k := D) hd
  rw [yrn_up (k' := 1) (by decide)] at h
  show zx (d + 1) 240 [.inl (some 57), .inr (.inl n), .inr (.inl (4 : Int)), .inr (.inl x)] σ = _
  have e1 : zx d 240 [.inl (some 57), .inr (.inl n), .inr (.inl (1 : Int)), .inr (.inl x)] σ = zri r.1 (yns 80 57 37 r.2 σ) := c d hd' x r σ s1 s2 s3 h
  rw [e_X12_tells, if_neg (show ¬ (4 : Int) = 0 by decide), if_neg (show ¬ (4 : Int) = 5 by decide), if_neg (show ¬ (4 : Int) = 7 by decide), k_above (by omega), zCI_ri]
  show zCI LAY (zx d 240 [.inl (some 57), .inr (.inl n), .inr (.inl (1 : Int)), .inr (.inl x)] σ) _ = _
  rw [e1, zCI_ri]
theorem m_3_5 {D : Nat} {n : Int} {K f : Nat} (hn : 0 ≤ n ∧ n < 50) (hK : K < 8) (c : ∀ k a, k < 8 → a < 4 → yMc D n K f k a) (hD : 1 ≤ D) : yMc (D + 1) n K (f + 1) 5 3 := by
  intro d hd x r σ s1 s2 s3 h
  obtain ⟨d, rfl, hd'⟩ := y_d (k := D) hd
  rw [yrn_60 (by decide)] at h
  show zx (d + 1) 240 [.inl (some 57), .inr (.inl n), .inr (.inl (5 : Int)), .inr (.inl x)] σ = _
  rw [e_X12_tells, if_neg (show ¬ (5 : Int) = 0 by decide), if_pos rfl, k_mran (by omega) _ s2 (by omega), zCV_rv]
  have hx := yn1_f (A := 80) (C := 57) (S := 37) (by decide) 60 σ
  have t3 : yn1 80 57 37 60 σ 57 37 = σ 57 37 + 1 := hx.1
  have t4 : yn1 80 57 37 60 σ 79 n = K := (hx.2 79 n (by decide) (fun z => absurd z.1 (by decide))).trans s1
  generalize hs : yn1 80 57 37 60 σ = s at t3 t4 ⊢
  cases hr : yrn n K f 3 3 x with
  | none => rw [hr] at h; cases h
  | some r1 =>
    rw [hr] at h; cases h
    simp only [List.length_cons] at s3
    have e1 : zx d 240 [.inl (some 57), .inr (.inl n), .inr (.inl (3 : Int)), .inr (.inl x)] s = zri r1.1 (yns 80 57 37 r1.2 s) := c 3 3 (by omega) (by omega) d hd' x r1 _ t4 (by omega) (by omega) hr
    rw [e1, zCI_ri, ← hs]; rfl
theorem m_3_6 {D : Nat} {n : Int} {K f : Nat} (c : yMc D n K (f + 1) 0 3) (hD : 1 ≤ D) : yMc (D + 1) n K (f + 1) 6 3 := by
  intro d hd x r σ s1 s2 s3 h
  obtain ⟨d, rfl, hd'⟩ := y_d (k := D) hd
  rw [yrn_up (k' := 0) (by decide)] at h
  show zx (d + 1) 240 [.inl (some 57), .inr (.inl n), .inr (.inl (6 : Int)), .inr (.inl x)] σ = _
  have e1 : zx d 240 [.inl (some 57), .inr (.inl n), .inr (.inl (0 : Int)), .inr (.inl x)] σ = zri r.1 (yns 80 57 37 r.2 σ) := c d hd' x r σ s1 s2 s3 h
  rw [e_X12_tells, if_neg (show ¬ (6 : Int) = 0 by decide), if_neg (show ¬ (6 : Int) = 5 by decide), if_neg (show ¬ (6 : Int) = 7 by decide), k_above (by omega), zCI_ri]
  show zCI LAY (zx d 240 [.inl (some 57), .inr (.inl n), .inr (.inl (0 : Int)), .inr (.inl x)] σ) _ = _
  rw [e1, zCI_ri]
theorem m_3_7 {D : Nat} {n : Int} {K f : Nat} (hn : 0 ≤ n ∧ n < 50) (hK : K < 8) (c : ∀ k a, k < 8 → a < 4 → yMc D n K f k a) (hD : 1 ≤ D) : yMc (D + 1) n K (f + 1) 7 3 := by
  intro d hd x r σ s1 s2 s3 h
  obtain ⟨d, rfl, hd'⟩ := y_d (k := D) hd
  rw [yrn_81 (by decide)] at h
  show zx (d + 1) 240 [.inl (some 57), .inr (.inl n), .inr (.inl (7 : Int)), .inr (.inl x)] σ = _
  rw [e_X12_tells, if_neg (show ¬ (7 : Int) = 0 by decide), if_neg (show ¬ (7 : Int) = 5 by decide), if_pos rfl, k_mran (by omega) _ s2 (by omega), zCV_rv]
  have hx := yn1_f (A := 80) (C := 57) (S := 37) (by decide) 81 σ
  have t3 : yn1 80 57 37 81 σ 57 37 = σ 57 37 + 1 := hx.1
  have t4 : yn1 80 57 37 81 σ 79 n = K := (hx.2 79 n (by decide) (fun z => absurd z.1 (by decide))).trans s1
  generalize hs : yn1 80 57 37 81 σ = s at t3 t4 ⊢
  cases hr : yrn n K f 4 3 x with
  | none => rw [hr] at h; cases h
  | some r1 =>
    rw [hr] at h; cases h
    simp only [List.length_cons] at s3
    have e1 : zx d 240 [.inl (some 57), .inr (.inl n), .inr (.inl (4 : Int)), .inr (.inl x)] s = zri r1.1 (yns 80 57 37 r1.2 s) := c 4 3 (by omega) (by omega) d hd' x r1 _ t4 (by omega) (by omega) hr
    rw [e1, zCI_ri, ← hs]; rfl
theorem m_run {n : Int} {K : Nat} (hn : 0 ≤ n ∧ n < 50) (hK : K < 8) : ∀ (f k a : Nat), k < 8 → a < 4 → yMc (8 * f + 1) n K f k a
  | 0, k, a, _, _ => fun _ _ _ _ _ _ _ _ h => nomatch h
  | f + 1, k, a, hk, ha => by
    have IH : ∀ k a, k < 8 → a < 4 → yMc (8 * f + 1) n K f k a := m_run hn hK f
    have c_0_0 : yMc (8 * f + 2) n K (f + 1) 0 0 := m_0_0 hn hK IH (by omega)
    have c_0_1 : yMc (8 * f + 2) n K (f + 1) 1 0 := m_0_1 hn hK IH (by omega)
    have c_0_2 : yMc (8 * f + 3) n K (f + 1) 2 0 := m_0_2 c_0_0 (by omega)
    have c_0_6 : yMc (8 * f + 2) n K (f + 1) 6 0 := m_0_6 hn hK IH (by omega)
    have c_0_3 : yMc (8 * f + 4) n K (f + 1) 3 0 := m_0_3 c_0_2 (by omega)
    have c_0_4 : yMc (8 * f + 3) n K (f + 1) 4 0 := m_0_4 c_0_1 (by omega)
    have c_0_5 : yMc (8 * f + 5) n K (f + 1) 5 0 := m_0_5 c_0_3 (by omega)
    have c_0_7 : yMc (8 * f + 4) n K (f + 1) 7 0 := m_0_7 c_0_4 (by omega)
    have c_1_0 : yMc (8 * f + 2) n K (f + 1) 0 1 := m_1_0 hn hK IH (by omega)
    have c_1_1 : yMc (8 * f + 3) n K (f + 1) 1 1 := m_1_1 c_1_0 (by omega)
    have c_1_2 : yMc (8 * f + 2) n K (f + 1) 2 1 := m_1_2 hn hK IH (by omega)
    have c_1_6 : yMc (8 * f + 3) n K (f + 1) 6 1 := m_1_6 c_1_0 (by omega)
    have c_1_3 : yMc (8 * f + 2) n K (f + 1) 3 1 := m_1_3 hn hK IH (by omega)
    have c_1_4 : yMc (8 * f + 4) n K (f + 1) 4 1 := m_1_4 c_1_1 (by omega)
    have c_1_5 : yMc (8 * f + 3) n K (f + 1) 5 1 := m_1_5 c_1_3 (by omega)
    have c_1_7 : yMc (8 * f + 2) n K (f + 1) 7 1 := m_1_7 hn hK IH (by omega)
    have c_2_0 : yMc (8 * f + 2) n K (f + 1) 0 2 := m_2_0 hn hK IH (by omega)
    have c_2_1 : yMc (8 * f + 3) n K (f + 1) 1 2 := m_2_1 c_2_0 (by omega)
    have c_2_2 : yMc (8 * f + 3) n K (f + 1) 2 2 := m_2_2 c_2_0 (by omega)
    have c_2_6 : yMc (8 * f + 3) n K (f + 1) 6 2 := m_2_6 c_2_0 (by omega)
    have c_2_3 : yMc (8 * f + 2) n K (f + 1) 3 2 := m_2_3 hn hK IH (by omega)
    have c_2_4 : yMc (8 * f + 2) n K (f + 1) 4 2 := m_2_4 hn hK IH (by omega)
    have c_2_5 : yMc (8 * f + 3) n K (f + 1) 5 2 := m_2_5 c_2_3 (by omega)
    have c_2_7 : yMc (8 * f + 3) n K (f + 1) 7 2 := m_2_7 c_2_4 (by omega)
    have c_3_0 : yMc (8 * f + 2) n K (f + 1) 0 3 := m_3_0 hn hK IH (by omega)
    have c_3_1 : yMc (8 * f + 3) n K (f + 1) 1 3 := m_3_1 c_3_0 (by omega)
    have c_3_2 : yMc (8 * f + 3) n K (f + 1) 2 3 := m_3_2 c_3_0 (by omega)
    have c_3_6 : yMc (8 * f + 3) n K (f + 1) 6 3 := m_3_6 c_3_0 (by omega)
    have c_3_3 : yMc (8 * f + 4) n K (f + 1) 3 3 := m_3_3 c_3_2 (by omega)
    have c_3_4 : yMc (8 * f + 4) n K (f + 1) 4 3 := m_3_4 c_3_1 (by omega)
    have c_3_5 : yMc (8 * f + 2) n K (f + 1) 5 3 := m_3_5 hn hK IH (by omega)
    have c_3_7 : yMc (8 * f + 2) n K (f + 1) 7 3 := m_3_7 hn hK IH (by omega)
    rcases (by omega : a = 0 ∨ a = 1 ∨ a = 2 ∨ a = 3) with rfl | rfl | rfl | rfl
    · rcases (by omega : k = 0 ∨ k = 1 ∨ k = 2 ∨ k = 3 ∨ k = 4 ∨ k = 5 ∨ k = 6 ∨ k = 7) with rfl | rfl | rfl | rfl | rfl | rfl | rfl | rfl
      · exact yMc_le (by omega) c_0_0
      · exact yMc_le (by omega) c_0_1
      · exact yMc_le (by omega) c_0_2
      · exact yMc_le (by omega) c_0_3
      · exact yMc_le (by omega) c_0_4
      · exact yMc_le (by omega) c_0_5
      · exact yMc_le (by omega) c_0_6
      · exact yMc_le (by omega) c_0_7
    · rcases (by omega : k = 0 ∨ k = 1 ∨ k = 2 ∨ k = 3 ∨ k = 4 ∨ k = 5 ∨ k = 6 ∨ k = 7) with rfl | rfl | rfl | rfl | rfl | rfl | rfl | rfl
      · exact yMc_le (by omega) c_1_0
      · exact yMc_le (by omega) c_1_1
      · exact yMc_le (by omega) c_1_2
      · exact yMc_le (by omega) c_1_3
      · exact yMc_le (by omega) c_1_4
      · exact yMc_le (by omega) c_1_5
      · exact yMc_le (by omega) c_1_6
      · exact yMc_le (by omega) c_1_7
    · rcases (by omega : k = 0 ∨ k = 1 ∨ k = 2 ∨ k = 3 ∨ k = 4 ∨ k = 5 ∨ k = 6 ∨ k = 7) with rfl | rfl | rfl | rfl | rfl | rfl | rfl | rfl
      · exact yMc_le (by omega) c_2_0
      · exact yMc_le (by omega) c_2_1
      · exact yMc_le (by omega) c_2_2
      · exact yMc_le (by omega) c_2_3
      · exact yMc_le (by omega) c_2_4
      · exact yMc_le (by omega) c_2_5
      · exact yMc_le (by omega) c_2_6
      · exact yMc_le (by omega) c_2_7
    · rcases (by omega : k = 0 ∨ k = 1 ∨ k = 2 ∨ k = 3 ∨ k = 4 ∨ k = 5 ∨ k = 6 ∨ k = 7) with rfl | rfl | rfl | rfl | rfl | rfl | rfl | rfl
      · exact yMc_le (by omega) c_3_0
      · exact yMc_le (by omega) c_3_1
      · exact yMc_le (by omega) c_3_2
      · exact yMc_le (by omega) c_3_3
      · exact yMc_le (by omega) c_3_4
      · exact yMc_le (by omega) c_3_5
      · exact yMc_le (by omega) c_3_6
      · exact yMc_le (by omega) c_3_7
