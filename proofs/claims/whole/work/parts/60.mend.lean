/-! mend -/
theorem k_fits {d : Nat} (hd : 2 ≤ d) {x a v : Int} {σ : zF} (hx : yhas (σ 1 0) (σ 1 1) x a) (ha : a ≤ 5) (b : Int) (h1 : yfit (σ 1 0) (σ 1 1) x a v → b = 1) (h0 : ¬ yfit (σ 1 0) (σ 1 1) x a v → b = 0) : zx d 22 [.inl (some 1), .inr (.inl x), .inr (.inl a), .inr (.inl v)] σ = zri b σ := by
  obtain ⟨d, rfl, hd'⟩ := y_d hd
  have a0 : 0 ≤ a := by unfold yhas at hx; omega
  rw [e_X3_fits]
  unfold yhas at hx
  rcases y_a6 a0 ha with rfl | rfl | rfl | rfl | rfl | rfl
  · rw [yfit_0] at h1 h0
    rw [if_pos rfl, k_isLen hd', zCI_ri, y01o]
    by_cases q : 1 ≤ v ∧ v ≤ 99
    · rw [if_pos q, h1 ⟨by omega, by omega, q⟩]
    · rw [if_neg q, h0 (fun w => q w.2.2)]
  · rw [yfit_1] at h1 h0
    rw [if_neg (by decide), if_pos rfl, y_rg]
    by_cases q : -9 ≤ v ∧ v ≤ 9
    · rw [if_pos q, h1 ⟨by omega, by omega, q⟩]
    · rw [if_neg q, h0 (fun w => q w.2.2)]
  · rw [yfit_2] at h1 h0
    rw [if_neg (by decide), if_neg (by decide), if_pos rfl]
    by_cases q : v = -1
    · rw [if_pos q, h1 ⟨by omega, by omega, Or.inl q⟩]
    · rw [if_neg q, k_isRoad hd', zCI_ri, y01]
      by_cases p : 0 ≤ v ∧ v < σ 1 0
      · rw [if_pos p]
        by_cases e : v = x
        · rw [if_pos e, h0 (fun w => by rcases w.2.2 with u | u; exact q u; exact u.2.2 e)]
        · rw [if_neg e, h1 ⟨by omega, by omega, Or.inr ⟨p.1, p.2, e⟩⟩]
      · rw [if_neg p, h0 (fun w => by rcases w.2.2 with u | u; exact q u; exact p ⟨u.1, u.2.1⟩)]
  · rw [yfit_3] at h1 h0
    rw [if_neg (by decide), if_neg (by decide), if_neg (by decide), if_pos rfl]
    by_cases q : v = 0
    · rw [if_pos q, h1 ⟨by omega, by omega, Or.inl q⟩]
    · rw [if_neg q]
      by_cases p : v = 1
      · rw [if_pos p, h1 ⟨by omega, by omega, Or.inr p⟩]
      · rw [if_neg p, h0 (fun w => by rcases w.2.2 with u | u; exact q u; exact p u)]
  · rw [yfit_4] at h1 h0
    rw [if_neg (by decide), if_neg (by decide), if_neg (by decide), if_neg (by decide), if_pos rfl, k_isPlace hd', zCI_ri, y01o]
    by_cases q : 0 ≤ v ∧ v < 8
    · rw [if_pos q, h1 ⟨by omega, by omega, q⟩]
    · rw [if_neg q, h0 (fun w => q w.2.2)]
  · rw [yfit_5] at h1 h0
    rw [if_neg (by decide), if_neg (by decide), if_neg (by decide), if_neg (by decide), if_neg (by decide), if_pos rfl, y_rg]
    by_cases q : 0 ≤ v ∧ v ≤ 12
    · rw [if_pos q, h1 ⟨by omega, by omega, q⟩]
    · rw [if_neg q, h0 (fun w => q w.2.2)]
theorem k_mFit {d : Nat} (hd : 3 ≤ d) {x a v n q : Int} {σ : zF} (hn : 0 ≤ σ 57 0 ∧ σ 57 0 ≤ 12) (hm : n = σ 57 0) (hx : yhas n q x a) (ha : a ≤ 5) (b : Int) (h1 : yfit n q x a v → b = 1) (h0 : ¬ yfit n q x a v → b = 0) : zx d 165 [.inl (some 57), .inr (.inl x), .inr (.inl a), .inr (.inl v)] σ = zri b σ := by
  obtain ⟨d, rfl, hd'⟩ := y_d hd
  have a0 : 0 ≤ a := by unfold yhas at hx; omega
  rw [e_X12_isFit]
  unfold yhas at hx
  subst hm
  rcases y_a6 a0 ha with rfl | rfl | rfl | rfl | rfl | rfl
  · rw [yfit_0] at h1 h0
    rw [if_pos rfl, k_within (by omega), zCI_ri, y01o]
    by_cases q : 1 ≤ v ∧ v ≤ 99
    · rw [if_pos q, h1 ⟨by omega, by omega, q⟩]
    · rw [if_neg q, h0 (fun w => q w.2.2)]
  · rw [yfit_1] at h1 h0
    rw [if_neg (by decide), if_pos rfl, k_within (by omega), zCI_ri, y01o]
    by_cases q : -9 ≤ v ∧ v ≤ 9
    · rw [if_pos q, h1 ⟨by omega, by omega, q⟩]
    · rw [if_neg q, h0 (fun w => q w.2.2)]
  · rw [yfit_2] at h1 h0
    rw [if_neg (by decide), if_neg (by decide), if_pos rfl]
    by_cases q : v = -1
    · rw [if_pos q, h1 ⟨by omega, by omega, Or.inl q⟩]
    · rw [if_neg q, k_mRoad hd' v hn, zCI_ri, y01]
      by_cases p : 0 ≤ v ∧ v < σ 57 0
      · rw [if_pos p]
        by_cases e : v = x
        · rw [if_pos e, h0 (fun w => by rcases w.2.2 with u | u; exact q u; exact u.2.2 e)]
        · rw [if_neg e, h1 ⟨by omega, by omega, Or.inr ⟨p.1, p.2, e⟩⟩]
      · rw [if_neg p, h0 (fun w => by rcases w.2.2 with u | u; exact q u; exact p ⟨u.1, u.2.1⟩)]
  · rw [yfit_3] at h1 h0
    rw [if_neg (by decide), if_neg (by decide), if_neg (by decide), if_pos rfl, k_within (by omega), zCI_ri, y01o]
    by_cases q : 0 ≤ v ∧ v ≤ 1
    · rw [if_pos q, h1 ⟨by omega, by omega, by omega⟩]
    · rw [if_neg q, h0 (fun w => q (by omega))]
  · rw [yfit_4] at h1 h0
    rw [if_neg (by decide), if_neg (by decide), if_neg (by decide), if_neg (by decide), if_pos rfl, k_mPlace hd', zCI_ri, y01o]
    by_cases q : 0 ≤ v ∧ v < 8
    · rw [if_pos q, h1 ⟨by omega, by omega, q⟩]
    · rw [if_neg q, h0 (fun w => q w.2.2)]
  · rw [yfit_5] at h1 h0
    rw [if_neg (by decide), if_neg (by decide), if_neg (by decide), if_neg (by decide), if_neg (by decide), k_within (by omega), zCI_ri, y01o]
    by_cases q : 0 ≤ v ∧ v ≤ 12
    · rw [if_pos q, h1 ⟨by omega, by omega, q⟩]
    · rw [if_neg q, h0 (fun w => q w.2.2)]
theorem y_six (σ : zF) (i x a o v p : Int) : (zset (zset (zset (zset (zset (zset σ 33 i x) 34 i a) 35 i o) 36 i v) 32 5 p) 32 6 p) 32 5 = p ∧ (zset (zset (zset (zset (zset (zset σ 33 i x) 34 i a) 35 i o) 36 i v) 32 5 p) 32 6 p) 32 6 = p ∧ (zset (zset (zset (zset (zset (zset σ 33 i x) 34 i a) 35 i o) 36 i v) 32 5 p) 32 6 p) 33 i = x ∧ (zset (zset (zset (zset (zset (zset σ 33 i x) 34 i a) 35 i o) 36 i v) 32 5 p) 32 6 p) 34 i = a ∧ (zset (zset (zset (zset (zset (zset σ 33 i x) 34 i a) 35 i o) 36 i v) 32 5 p) 32 6 p) 35 i = o ∧ (zset (zset (zset (zset (zset (zset σ 33 i x) 34 i a) 35 i o) 36 i v) 32 5 p) 32 6 p) 36 i = v ∧ ∀ j, ¬ j = i → (zset (zset (zset (zset (zset (zset σ 33 i x) 34 i a) 35 i o) 36 i v) 32 5 p) 32 6 p) 33 j = σ 33 j ∧ (zset (zset (zset (zset (zset (zset σ 33 i x) 34 i a) 35 i o) 36 i v) 32 5 p) 32 6 p) 34 j = σ 34 j ∧ (zset (zset (zset (zset (zset (zset σ 33 i x) 34 i a) 35 i o) 36 i v) 32 5 p) 32 6 p) 35 j = σ 35 j ∧ (zset (zset (zset (zset (zset (zset σ 33 i x) 34 i a) 35 i o) 36 i v) 32 5 p) 32 6 p) 36 j = σ 36 j := by
  refine ⟨rfl, rfl, ?_, ?_, ?_, ?_, fun j e => ⟨?_, ?_, ?_, ?_⟩⟩
  · show (if 33 = 33 ∧ i = i then x else σ 33 i) = x
    exact if_pos ⟨rfl, rfl⟩
  · show (if 34 = 34 ∧ i = i then a else σ 34 i) = a
    exact if_pos ⟨rfl, rfl⟩
  · show (if 35 = 35 ∧ i = i then o else σ 35 i) = o
    exact if_pos ⟨rfl, rfl⟩
  · show (if 36 = 36 ∧ i = i then v else σ 36 i) = v
    exact if_pos ⟨rfl, rfl⟩
  · show (if 33 = 33 ∧ j = i then x else σ 33 j) = σ 33 j
    exact if_neg (fun z => e z.2)
  · show (if 34 = 34 ∧ j = i then a else σ 34 j) = σ 34 j
    exact if_neg (fun z => e z.2)
  · show (if 35 = 35 ∧ j = i then o else σ 35 j) = σ 35 j
    exact if_neg (fun z => e z.2)
  · show (if 36 = 36 ∧ j = i then v else σ 36 j) = σ 36 j
    exact if_neg (fun z => e z.2)
/-- the component's book of changes: one more, the oldest forgotten -/
theorem k_rem {d : Nat} (hd : 2 ≤ d) {σ : zF} (x a o v : Int) (h : 0 ≤ σ 32 5 ∧ σ 32 5 ≤ 40) : ∃ s i e, zx d 1 [.inl (some 32), .inr (.inl x), .inr (.inl a), .inr (.inl o), .inr (.inl v)] σ = zrv s ∧ yf ([33, 34, 35, 36], [(32, 5), (32, 6)]) σ s ∧ (σ 32 5 < 40 ∧ i = σ 32 5 ∧ e = 0 ∨ σ 32 5 = 40 ∧ i = 39 ∧ e = 1) ∧ s 32 5 = i + 1 ∧ s 32 6 = i + 1 ∧ s 33 i = x ∧ s 34 i = a ∧ s 35 i = o ∧ s 36 i = v ∧ ∀ j, 0 ≤ j → j < i → s 33 j = σ 33 (j + e) ∧ s 34 j = σ 34 (j + e) ∧ s 35 j = σ 35 (j + e) ∧ s 36 j = σ 36 (j + e) := by
  obtain ⟨d, rfl, hd'⟩ := y_d hd
  rw [e_X0_remember]
  by_cases q : σ 32 5 < 40
  · have r : 0 ≤ σ 32 5 ∧ σ 32 5 < 40 := ⟨h.1, q⟩
    rw [if_pos q, if_pos r, if_pos r, if_pos r, if_pos r, zw_i (by omega) (by omega)]
    have z := y_six σ (σ 32 5) x a o v (σ 32 5 + 1)
    refine ⟨_, σ 32 5, 0, rfl, yf_set (yf_set (yf_set (yf_set (yf_set (yf_set yf_rf rfl) rfl) rfl) rfl) rfl) rfl, Or.inl ⟨q, rfl, rfl⟩, z.1, z.2.1, z.2.2.1, z.2.2.2.1, z.2.2.2.2.1, z.2.2.2.2.2.1, fun j j0 j1 => ?_⟩
    rw [Int.add_zero]
    exact z.2.2.2.2.2.2 j (by omega)
  · obtain ⟨d, rfl, -⟩ := y_d (k := 0) hd'
    have g : 0 ≤ (39 : Int) ∧ 0 ≤ (1 : Int) ∧ 0 ≤ (0 : Int) ∧ (1 : Int) + 39 ≤ 40 ∧ (0 : Int) + 39 ≤ 40 := by decide
    rw [if_neg q, e_X0_forgetOldest, if_pos g, if_pos g, if_pos g, if_pos g, zCV_rv]
    have f : yf ([33, 34, 35, 36], [(32, 5), (32, 6)]) σ (zset (zcpy (zcpy (zcpy (zcpy σ 33 1 33 0 39) 34 1 34 0 39) 35 1 35 0 39) 36 1 36 0 39) 32 5 39) := yf_set (yf_cpy (yf_cpy (yf_cpy (yf_cpy yf_rf rfl) rfl) rfl) rfl) rfl
    have e5 : (zset (zcpy (zcpy (zcpy (zcpy σ 33 1 33 0 39) 34 1 34 0 39) 35 1 35 0 39) 36 1 36 0 39) 32 5 39) 32 5 = 39 := rfl
    have c1 : ∀ j, 0 ≤ j → j < 39 → (zset (zcpy (zcpy (zcpy (zcpy σ 33 1 33 0 39) 34 1 34 0 39) 35 1 35 0 39) 36 1 36 0 39) 32 5 39) 33 j = σ 33 (j + 1) := fun j j0 j1 => by
      show (if 33 = 33 ∧ 0 ≤ j ∧ j < 0 + 39 then σ 33 (1 + (j - 0)) else σ 33 j) = _
      rw [if_pos ⟨rfl, j0, by omega⟩]
      exact congrArg (σ 33) (by omega)
    have c2 : ∀ j, 0 ≤ j → j < 39 → (zset (zcpy (zcpy (zcpy (zcpy σ 33 1 33 0 39) 34 1 34 0 39) 35 1 35 0 39) 36 1 36 0 39) 32 5 39) 34 j = σ 34 (j + 1) := fun j j0 j1 => by
      show (if 34 = 34 ∧ 0 ≤ j ∧ j < 0 + 39 then σ 34 (1 + (j - 0)) else σ 34 j) = _
      rw [if_pos ⟨rfl, j0, by omega⟩]
      exact congrArg (σ 34) (by omega)
    have c3 : ∀ j, 0 ≤ j → j < 39 → (zset (zcpy (zcpy (zcpy (zcpy σ 33 1 33 0 39) 34 1 34 0 39) 35 1 35 0 39) 36 1 36 0 39) 32 5 39) 35 j = σ 35 (j + 1) := fun j j0 j1 => by
      show (if 35 = 35 ∧ 0 ≤ j ∧ j < 0 + 39 then σ 35 (1 + (j - 0)) else σ 35 j) = _
      rw [if_pos ⟨rfl, j0, by omega⟩]
      exact congrArg (σ 35) (by omega)
    have c4 : ∀ j, 0 ≤ j → j < 39 → (zset (zcpy (zcpy (zcpy (zcpy σ 33 1 33 0 39) 34 1 34 0 39) 35 1 35 0 39) 36 1 36 0 39) 32 5 39) 36 j = σ 36 (j + 1) := fun j j0 j1 => by
      show (if 36 = 36 ∧ 0 ≤ j ∧ j < 0 + 39 then σ 36 (1 + (j - 0)) else σ 36 j) = _
      rw [if_pos ⟨rfl, j0, by omega⟩]
      exact congrArg (σ 36) (by omega)
    generalize (zset (zcpy (zcpy (zcpy (zcpy σ 33 1 33 0 39) 34 1 34 0 39) 35 1 35 0 39) 36 1 36 0 39) 32 5 39) = s at f e5 c1 c2 c3 c4
    have r : 0 ≤ s 32 5 ∧ s 32 5 < 40 := by omega
    rw [if_pos r, if_pos r, if_pos r, if_pos r, e5, zw_i (by omega) (by omega)]
    have z := y_six s 39 x a o v (39 + 1)
    refine ⟨_, 39, 1, rfl, yf_set (yf_set (yf_set (yf_set (yf_set (yf_set f rfl) rfl) rfl) rfl) rfl) rfl, Or.inr ⟨by omega, rfl, rfl⟩, z.1, z.2.1, z.2.2.1, z.2.2.2.1, z.2.2.2.2.1, z.2.2.2.2.2.1, fun j j0 j1 => ?_⟩
    have w := z.2.2.2.2.2.2 j (by omega)
    exact ⟨w.1.trans (c1 j j0 j1), w.2.1.trans (c2 j j0 j1), w.2.2.1.trans (c3 j j0 j1), w.2.2.2.trans (c4 j j0 j1)⟩
