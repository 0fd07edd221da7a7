/-! between calls: component and model alike -/
def yTr (σ : zF) : Prop := σ 1 1 = σ 57 4 ∧ 0 ≤ σ 1 1 ∧ σ 1 1 ≤ 4 ∧ ∀ i, 0 ≤ i → i < 4 → σ 8 i = σ 61 i ∧ σ 9 i = σ 62 i ∧ (i < σ 1 1 → 0 ≤ σ 8 i ∧ σ 8 i < 8 ∧ 0 ≤ σ 9 i ∧ σ 9 i ≤ 12)
def yLd (σ : zF) : Prop := ∀ i, 0 ≤ i → i < 5 → σ 10 i = σ 74 i
def yTp (σ : zF) : Prop := σ 11 1 = σ 57 7 ∧ 0 ≤ σ 11 1 ∧ σ 11 1 ≤ 120 ∧ ∀ i, 0 ≤ i → i < 120 → σ 12 i = σ 63 i ∧ (i < σ 11 1 → 0 ≤ σ 12 i ∧ σ 12 i ≤ 255)
def yfit (n q k a v : Int) : Prop := a = 0 ∧ 0 ≤ k ∧ k < n ∧ 1 ≤ v ∧ v ≤ 99 ∨ a = 1 ∧ 0 ≤ k ∧ k < n ∧ -9 ≤ v ∧ v ≤ 9 ∨ a = 2 ∧ 0 ≤ k ∧ k < n ∧ (v = -1 ∨ 0 ≤ v ∧ v < n ∧ ¬ v = k) ∨ a = 3 ∧ 0 ≤ k ∧ k < n ∧ (v = 0 ∨ v = 1) ∨ a = 4 ∧ 0 ≤ k ∧ k < q ∧ 0 ≤ v ∧ v < 8 ∨ a = 5 ∧ 0 ≤ k ∧ k < q ∧ 0 ≤ v ∧ v ≤ 12
def yHs (σ : zF) : Prop := σ 32 5 = σ 57 33 ∧ σ 32 6 = σ 57 32 ∧ 0 ≤ σ 32 5 ∧ σ 32 5 ≤ σ 32 6 ∧ σ 32 6 ≤ 40 ∧ ∀ i, 0 ≤ i → i < σ 32 6 → σ 33 i = σ 78 (4 * i) ∧ σ 34 i = σ 78 (4 * i + 1) ∧ σ 35 i = σ 78 (4 * i + 2) ∧ σ 36 i = σ 78 (4 * i + 3) ∧ yfit (σ 1 0) (σ 1 1) (σ 33 i) (σ 34 i) (σ 35 i) ∧ yfit (σ 1 0) (σ 1 1) (σ 33 i) (σ 34 i) (σ 36 i)
def yIm (σ : zF) : Prop := σ 37 1 = σ 57 26 ∧ σ 37 2 = σ 57 27 ∧ σ 37 3 = σ 57 28 ∧ 0 ≤ σ 37 2 ∧ σ 37 2 ≤ σ 1 0 ∧ 0 ≤ σ 37 3 ∧ σ 37 3 ≤ σ 1 1 ∧ (∀ i, 0 ≤ i → i < σ 37 2 → σ 38 i = σ 75 i ∧ -9 ≤ σ 38 i ∧ σ 38 i ≤ 9) ∧ (∀ i, 0 ≤ i → i < σ 37 3 → σ 39 i = σ 76 i ∧ 0 ≤ σ 39 i ∧ σ 39 i < 8) ∧ ∀ i, 0 ≤ i → i < 5 → σ 40 i = σ 77 i
def ySt (σ : zF) : Prop := σ 41 0 = σ 57 35 ∧ 0 ≤ σ 41 0 ∧ σ 41 0 ≤ 50 ∧ σ 41 3 = σ 57 37 ∧ 0 ≤ σ 41 3 ∧ σ 41 3 ≤ 100000 ∧ (∀ i, 0 ≤ i → i < 50 → σ 42 i = σ 79 i ∧ (i < σ 41 0 → 0 ≤ σ 42 i ∧ σ 42 i < 8)) ∧ ∀ i, 0 ≤ i → i < 24 → i < σ 41 3 → σ 43 i = σ 80 i
def ySh1 (σ : zF) (s : Int) : Prop := 0 ≤ σ (ysh s) 1 ∧ σ (ysh s) 1 ≤ 60 ∧ σ (ysh s) 1 = σ 82 s ∧ (σ (ysh s) 0 = -1 ∧ σ (ysh s) 2 = -1 ∧ σ 81 s = -1 ∨ σ (ysh s) 0 = -1 ∧ 0 ≤ σ (ysh s) 2 ∧ σ (ysh s) 2 < σ 41 0 ∧ σ 81 s = 10 + σ (ysh s) 2 ∨ 0 ≤ σ (ysh s) 0 ∧ σ (ysh s) 0 ≤ 4 ∧ σ 81 s = σ (ysh s) 0 ∧ σ (ysh s) 2 = -1) ∧ ∀ i, 0 ≤ i → i < 60 → σ (ysr s) i = σ 83 (60 * s + i) ∧ (σ (ysh s) 0 = 1 → -32768 ≤ σ (ysr s) i ∧ σ (ysr s) i < 32768)
def ySh (σ : zF) : Prop := ∀ s, 0 ≤ s → s < 6 → ySh1 σ s
def yRs (σ : zF) : Prop := yTr σ ∧ yLd σ ∧ yTp σ ∧ yHs σ ∧ yIm σ ∧ ySt σ ∧ ySh σ
abbrev yDTr : List Nat × List (Nat × Int) := ([8, 9, 61, 62], [(1, 1), (57, 4)])
abbrev yDLd : List Nat × List (Nat × Int) := ([10, 74], [])
abbrev yDTp : List Nat × List (Nat × Int) := ([12, 63], [(11, 1), (57, 7)])
abbrev yDHs : List Nat × List (Nat × Int) := ([33, 34, 35, 36, 78], [(32, 5), (32, 6), (57, 32), (57, 33), (1, 0), (1, 1)])
abbrev yDIm : List Nat × List (Nat × Int) := ([38, 39, 40, 75, 76, 77], [(37, 1), (37, 2), (37, 3), (57, 26), (57, 27), (57, 28), (1, 0), (1, 1)])
abbrev yDSt : List Nat × List (Nat × Int) := ([42, 43, 79, 80], [(41, 0), (41, 3), (57, 35), (57, 37)])
abbrev yDSh : List Nat × List (Nat × Int) := ([45, 46, 47, 48, 49, 50, 51, 52, 53, 54, 55, 56, 81, 82, 83], [(41, 0)])
abbrev yDRs : List Nat × List (Nat × Int) := ([8, 9, 61, 62, 10, 74, 12, 63, 33, 34, 35, 36, 78, 38, 39, 40, 75, 76, 77, 42, 43, 79, 80, 45, 46, 47, 48, 49, 50, 51, 52, 53, 54, 55, 56, 81, 82, 83], [(1, 1), (57, 4), (11, 1), (57, 7), (32, 5), (32, 6), (57, 32), (57, 33), (1, 0), (37, 1), (37, 2), (37, 3), (57, 26), (57, 27), (57, 28), (41, 0), (41, 3), (57, 35), (57, 37)])
theorem yTr_g {σ σ' : zF} (g : yg yDTr σ σ') (h : yTr σ) : yTr σ' := by
  unfold yTr at h ⊢
  rw [g 1 1 rfl, g 57 4 rfl]
  refine ⟨h.1, h.2.1, h.2.2.1, fun i a b => ?_⟩
  rw [g 8 i rfl, g 9 i rfl, g 61 i rfl, g 62 i rfl]
  exact h.2.2.2 i a b
theorem yLd_g {σ σ' : zF} (g : yg yDLd σ σ') (h : yLd σ) : yLd σ' := by
  intro i a b
  rw [g 10 i rfl, g 74 i rfl]
  exact h i a b
theorem yTp_g {σ σ' : zF} (g : yg yDTp σ σ') (h : yTp σ) : yTp σ' := by
  unfold yTp at h ⊢
  rw [g 11 1 rfl, g 57 7 rfl]
  refine ⟨h.1, h.2.1, h.2.2.1, fun i a b => ?_⟩
  rw [g 12 i rfl, g 63 i rfl]
  exact h.2.2.2 i a b
theorem yHs_g {σ σ' : zF} (g : yg yDHs σ σ') (h : yHs σ) : yHs σ' := by
  unfold yHs at h ⊢
  rw [g 32 5 rfl, g 32 6 rfl, g 57 32 rfl, g 57 33 rfl, g 1 0 rfl, g 1 1 rfl]
  refine ⟨h.1, h.2.1, h.2.2.1, h.2.2.2.1, h.2.2.2.2.1, fun i a b => ?_⟩
  rw [g 33 i rfl, g 34 i rfl, g 35 i rfl, g 36 i rfl, g 78 (4 * i) rfl, g 78 (4 * i + 1) rfl, g 78 (4 * i + 2) rfl, g 78 (4 * i + 3) rfl]
  exact h.2.2.2.2.2 i a b
theorem yIm_g {σ σ' : zF} (g : yg yDIm σ σ') (h : yIm σ) : yIm σ' := by
  unfold yIm at h ⊢
  rw [g 37 1 rfl, g 37 2 rfl, g 37 3 rfl, g 57 26 rfl, g 57 27 rfl, g 57 28 rfl, g 1 0 rfl, g 1 1 rfl]
  obtain ⟨h1, h2, h3, h4, h5, h6, h7, h8, h9, h10⟩ := h
  refine ⟨h1, h2, h3, h4, h5, h6, h7, fun i a b => ?_, fun i a b => ?_, fun i a b => ?_⟩
  · rw [g 38 i rfl, g 75 i rfl]
    exact h8 i a b
  · rw [g 39 i rfl, g 76 i rfl]
    exact h9 i a b
  · rw [g 40 i rfl, g 77 i rfl]
    exact h10 i a b
theorem ySt_g {σ σ' : zF} (g : yg yDSt σ σ') (h : ySt σ) : ySt σ' := by
  unfold ySt at h ⊢
  rw [g 41 0 rfl, g 41 3 rfl, g 57 35 rfl, g 57 37 rfl]
  obtain ⟨h1, h2, h3, h4, h5, h6, h7, h8⟩ := h
  refine ⟨h1, h2, h3, h4, h5, h6, fun i a b => ?_, fun i a b => ?_⟩
  · rw [g 42 i rfl, g 79 i rfl]
    exact h7 i a b
  · rw [g 43 i rfl, g 80 i rfl]
    exact h8 i a b
theorem ySh_cells {s : Int} (h0 : 0 ≤ s) (h1 : s < 6) (i : Int) : yin yDSh (ysh s) i = true ∧ yin yDSh (ysr s) i = true := by
  rcases y_s6 h0 h1 with rfl | rfl | rfl | rfl | rfl | rfl <;> exact ⟨rfl, rfl⟩
theorem ySh1_g {σ σ' : zF} {s : Int} (h0 : 0 ≤ s) (h1 : s < 6) (g : yg yDSh σ σ') (h : ySh1 σ s) : ySh1 σ' s := by
  have e := fun i => ySh_cells h0 h1 i
  unfold ySh1 at h ⊢
  rw [g (ysh s) 1 (e 1).1, g (ysh s) 0 (e 0).1, g (ysh s) 2 (e 2).1, g 81 s rfl, g 82 s rfl, g 41 0 rfl]
  refine ⟨h.1, h.2.1, h.2.2.1, h.2.2.2.1, fun i a b => ?_⟩
  rw [g (ysr s) i (e i).2, g 83 (60 * s + i) rfl]
  exact h.2.2.2.2 i a b
theorem ySh_g {σ σ' : zF} (g : yg yDSh σ σ') (h : ySh σ) : ySh σ' := fun s h0 h1 => ySh1_g h0 h1 g (h s h0 h1)
theorem yRs_g {σ σ' : zF} (g : yg yDRs σ σ') (h : yRs σ) : yRs σ' := by
  obtain ⟨h1, h2, h3, h4, h5, h6, h7⟩ := h
  exact ⟨yTr_g (yg_le g (by decide)) h1, yLd_g (yg_le g (by decide)) h2, yTp_g (yg_le g (by decide)) h3, yHs_g (yg_le g (by decide)) h4, yIm_g (yg_le g (by decide)) h5, ySt_g (yg_le g (by decide)) h6, ySh_g (yg_le g (by decide)) h7⟩
/-- after c calls -/
def yInv (c : Int) (N : zF) (G : yG) (σ : zF) : Prop := yP N G σ ∧ yY N G (N 5) (N 6) σ ∧ σ 17 5 ≤ 2 * c ∧ yRs σ
abbrev ySC : List Nat × List (Nat × Int) := ([16, 18, 19, 20, 21, 22, 23, 25, 26, 28, 29, 30], [(14, 3), (17, 5), (17, 9), (24, 4), (24, 5), (27, 4), (27, 5), (31, 2), (31, 3), (31, 4)])
abbrev ySM : List Nat × List (Nat × Int) := ([60, 72, 73, 84, 85, 86, 87, 88, 89, 90, 91, 92], [(57, 46), (57, 47), (57, 48), (57, 50), (57, 54)])
/-- what thought alone has changed -/
theorem yInv_th {c : Int} {N : zF} {G : yG} {σ s t : zF} (h : yInv c N G σ) (h1 : yP N G s) (ht : s 17 5 ≤ σ 17 5 + 2) (f1 : yf ySC σ s) (h2 : yM N (N 5) (N 6) t) (f2 : yf ySM s t) : yInv (c + 1) N G t := by
  obtain ⟨a1, a2, a3, a4⟩ := h
  obtain ⟨b1, b2, b3, b4, b5⟩ := a2
  refine ⟨yP_f h1 f2 (by decide), ⟨b1, b2, b3, h2, yLM_f (yLM_f b5 f1 (by decide)) f2 (by decide)⟩, ?_, yRs_g (yf_g f2 (by decide)) (yRs_g (yf_g f1 (by decide)) a4)⟩
  rw [f2 17 5 rfl]
  omega
/-- one call of both -/
def yStep (ic im : Nat) (vs : List zV) : Prop := ∀ d : Nat, 150 ≤ d → ∀ (c : Int) (N : zF) (G : yG) (σ : zF), yInv c N G σ → 0 ≤ c → c < 600 → yT (zx d ic (.inl (some 0) :: vs) σ) (yI fun v s => yT (zx d im (.inl (some 57) :: vs) s) (yI fun w t => w = v ∧ ∃ N' G', yInv (c + 1) N' G' t))
def yStepJ (ic im : Nat) (vs : List zV) : Prop := ∀ d : Nat, 150 ≤ d → ∀ (c : Int) (N : zF) (G : yG) (σ : zF), yInv c N G σ → 0 ≤ c → c < 600 → yT (zx d ic (.inl (some 0) :: vs) σ) (yJ fun v s => yT (zx d im (.inl (some 57) :: vs) s) (yJ fun w t => w = v ∧ ∃ N' G', yInv (c + 1) N' G' t))
theorem yInv_id {c : Int} {N : zF} {G : yG} {σ : zF} (h : yInv c N G σ) : yInv (c + 1) N G σ := ⟨h.1, h.2.1, by have := h.2.2.1; omega, h.2.2.2⟩
theorem yI_n {c : Int} {N : zF} {G : yG} {σ : zF} (h : yInv c N G σ) : σ 1 0 = N 0 0 ∧ σ 57 0 = N 0 0 ∧ 0 ≤ N 0 0 ∧ N 0 0 ≤ 12 := ⟨h.1.2.1.1, h.2.1.2.2.2.1.1, h.1.1.1, h.1.1.2.1⟩
