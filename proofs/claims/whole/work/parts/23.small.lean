/-! small methods: answers of 0 and 1 -/
theorem y_rl {x a b : Int} {A B : Option zR} : (if x < a then A else (if x < b then B else A)) = if a ≤ x ∧ x < b then B else A := by
  by_cases h1 : x < a
  · rw [if_pos h1, if_neg (by omega)]
  · by_cases h2 : x < b
    · rw [if_neg h1, if_pos h2, if_pos (by omega)]
    · rw [if_neg h1, if_neg h2, if_neg (by omega)]
theorem y_rg {x a b : Int} {A B : Option zR} : (if x < a then A else (if b < x then A else B)) = if a ≤ x ∧ x ≤ b then B else A := by
  by_cases h1 : x < a
  · rw [if_pos h1, if_neg (by omega)]
  · by_cases h2 : b < x
    · rw [if_neg h1, if_pos h2, if_neg (by omega)]
    · rw [if_neg h1, if_neg h2, if_pos (by omega)]
theorem y_ri {c : Prop} [Decidable c] {σ : zF} : (if c then zri 1 σ else zri 0 σ) = zri (if c then 1 else 0) σ := by
  by_cases h : c
  · rw [if_pos h, if_pos h]
  · rw [if_neg h, if_neg h]
theorem y_if2 {α : Type} {c e : Prop} [Decidable c] [Decidable e] {A B : α} : (if c then (if e then A else B) else B) = if c ∧ e then A else B := by
  by_cases h : c <;> by_cases h2 : e <;> simp [h, h2]
theorem y_cc {α : Type} {c e : Prop} [Decidable c] [Decidable e] {A B : α} (h : c ↔ e) : (if c then A else B) = if e then A else B := by
  by_cases h1 : c
  · rw [if_pos h1, if_pos (h.mp h1)]
  · rw [if_neg h1, if_neg (fun q => h1 (h.mpr q))]
theorem k_isRoad {d : Nat} (hd : 1 ≤ d) (x : Int) (σ : zF) : zx d 16 [.inl (some 1), .inr (.inl x)] σ = zri (if 0 ≤ x ∧ x < σ 1 0 then 1 else 0) σ := by
  obtain ⟨d, rfl, -⟩ := y_d hd
  rw [e_X3_isRoad, y_rl, y_ri]
theorem k_isTrav {d : Nat} (hd : 1 ≤ d) (x : Int) (σ : zF) : zx d 17 [.inl (some 1), .inr (.inl x)] σ = zri (if 0 ≤ x ∧ x < σ 1 1 then 1 else 0) σ := by
  obtain ⟨d, rfl, -⟩ := y_d hd
  rw [e_X3_isTraveller, y_rl, y_ri]
theorem k_isThere {d : Nat} (hd : 1 ≤ d) (x : Int) (σ : zF) : zx d 79 [.inl (some 41), .inr (.inl x)] σ = zri (if 0 ≤ x ∧ x < σ 41 0 then 1 else 0) σ := by
  obtain ⟨d, rfl, -⟩ := y_d hd
  rw [e_X8_isThere, y_rl, y_ri]
theorem k_isPlace {d : Nat} (hd : 1 ≤ d) (x : Int) (σ : zF) : zx d 146 [.inr (.inl x)] σ = zri (if 0 ≤ x ∧ x < 8 then 1 else 0) σ := by
  obtain ⟨d, rfl, -⟩ := y_d hd
  rw [e_X11_isPlace, y_rl, y_ri]
theorem k_isLen {d : Nat} (hd : 1 ≤ d) (x : Int) (σ : zF) : zx d 148 [.inr (.inl x)] σ = zri (if 1 ≤ x ∧ x ≤ 99 then 1 else 0) σ := by
  obtain ⟨d, rfl, -⟩ := y_d hd
  rw [e_X11_isLength, y_rg, y_ri]
theorem k_isTime {d : Nat} (hd : 1 ≤ d) (x : Int) (σ : zF) : zx d 149 [.inr (.inl x)] σ = zri (if 0 ≤ x ∧ x ≤ 999 then 1 else 0) σ := by
  obtain ⟨d, rfl, -⟩ := y_d hd
  rw [e_X11_isTime, y_rg, y_ri]
theorem k_isShelf {d : Nat} (hd : 1 ≤ d) (x : Int) (σ : zF) : zx d 150 [.inr (.inl x)] σ = zri (if 0 ≤ x ∧ x < 6 then 1 else 0) σ := by
  obtain ⟨d, rfl, -⟩ := y_d hd
  rw [e_X11_isShelf, y_rl, y_ri]
theorem k_isKind {d : Nat} (hd : 1 ≤ d) (x : Int) (σ : zF) : zx d 151 [.inr (.inl x)] σ = zri (if 0 ≤ x ∧ x < 8 then 1 else 0) σ := by
  obtain ⟨d, rfl, -⟩ := y_d hd
  rw [e_X11_isKind, y_rl, y_ri]
theorem k_within {d : Nat} (hd : 1 ≤ d) (x a b : Int) (σ : zF) : zx d 153 [.inr (.inl x), .inr (.inl a), .inr (.inl b)] σ = zri (if a ≤ x ∧ x ≤ b then 1 else 0) σ := by
  obtain ⟨d, rfl, -⟩ := y_d hd
  rw [e_X12_within, y_rg, y_ri]
theorem k_mPlace {d : Nat} (hd : 2 ≤ d) (x : Int) (σ : zF) : zx d 156 [.inr (.inl x)] σ = zri (if 0 ≤ x ∧ x < 8 then 1 else 0) σ := by
  obtain ⟨d, rfl, hd'⟩ := y_d hd; have hd := hd'
  rw [e_X12_isPlace, k_within hd, zCI_ri, y01o]
  exact congrArg (fun z => zri z σ) (y_cc (by omega))
theorem k_mShelf {d : Nat} (hd : 2 ≤ d) (x : Int) (σ : zF) : zx d 158 [.inr (.inl x)] σ = zri (if 0 ≤ x ∧ x < 6 then 1 else 0) σ := by
  obtain ⟨d, rfl, hd'⟩ := y_d hd; have hd := hd'
  rw [e_X12_isShelf, k_within hd, zCI_ri, y01o]
  exact congrArg (fun z => zri z σ) (y_cc (by omega))
theorem k_mRoad {d : Nat} (hd : 2 ≤ d) (x : Int) {σ : zF} (hn : 0 ≤ σ 57 0 ∧ σ 57 0 ≤ 12) : zx d 154 [.inl (some 57), .inr (.inl x)] σ = zri (if 0 ≤ x ∧ x < σ 57 0 then 1 else 0) σ := by
  obtain ⟨d, rfl, hd'⟩ := y_d hd; have hd := hd'
  rw [e_X12_isRoad, k_within hd, zCI_ri, y01o, zw_i (by omega) (by omega)]
  exact congrArg (fun z => zri z σ) (y_cc (by omega))
theorem k_mOne {d : Nat} (hd : 2 ≤ d) (x : Int) {σ : zF} (hn : 0 ≤ σ 57 4 ∧ σ 57 4 ≤ 4) : zx d 155 [.inl (some 57), .inr (.inl x)] σ = zri (if 0 ≤ x ∧ x < σ 57 4 then 1 else 0) σ := by
  obtain ⟨d, rfl, hd'⟩ := y_d hd; have hd := hd'
  rw [e_X12_isOne, k_within hd, zCI_ri, y01o, zw_i (by omega) (by omega)]
  exact congrArg (fun z => zri z σ) (y_cc (by omega))
/-! two places told as one number -/
def yPair (x : Int) : Prop := 0 ≤ x ∧ x / 10 < 8 ∧ x % 10 < 8 ∧ ¬ x / 10 = x % 10
theorem k_isPair1 {d : Nat} (hd : 2 ≤ d) {x : Int} (hx : zin x) (h : yPair x) (σ : zF) : zx d 147 [.inr (.inl x)] σ = zri 1 σ := by
  obtain ⟨d, rfl, hd'⟩ := y_d hd; have hd := hd'
  unfold yPair at h
  unfold zin at hx
  rw [e_X11_isPair, if_neg (by omega), if_neg (by decide), k_isPlace hd, zCI_ri, y01, zdiv_p h.1 hx.2 (by decide), zrem_p h.1, if_pos (by omega), if_neg (by decide), k_isPlace hd, zCI_ri, y01, if_pos (by omega), if_neg (by decide), if_neg (by decide), if_neg h.2.2.2]
theorem k_isPair0 {d : Nat} (hd : 2 ≤ d) {x : Int} (hx : zin x) (h : ¬ yPair x) (σ : zF) : zx d 147 [.inr (.inl x)] σ = zri 0 σ := by
  obtain ⟨d, rfl, hd'⟩ := y_d hd; have hd := hd'
  unfold yPair at h
  unfold zin at hx
  rw [e_X11_isPair]
  by_cases h0 : x < 0
  · rw [if_pos h0]
  · rw [if_neg h0, if_neg (by decide), k_isPlace hd, zCI_ri, y01, zdiv_p (by omega) hx.2 (by decide), zrem_p (by omega)]
    by_cases h1 : x / 10 < 8
    · rw [if_pos (by omega), if_neg (by decide), k_isPlace hd, zCI_ri, y01]
      by_cases h2 : x % 10 < 8
      · rw [if_pos (by omega), if_neg (by decide), if_neg (by decide), if_pos (by omega)]
      · rw [if_neg (by omega)]
    · rw [if_neg (by omega)]
theorem k_mTwo1 {d : Nat} (hd : 3 ≤ d) {x : Int} (hx : zin x) (h : yPair x) (σ : zF) : zx d 157 [.inr (.inl x)] σ = zri 1 σ := by
  obtain ⟨d, rfl, hd'⟩ := y_d hd; have hd := hd'
  unfold yPair at h
  unfold zin at hx
  rw [e_X12_areTwo, if_neg (by omega), if_neg (by decide), k_mPlace hd, zCI_ri, y01, zdiv_p h.1 hx.2 (by decide), zrem_p h.1, if_pos (by omega), if_neg (by decide), k_mPlace hd, zCI_ri, y01, if_pos (by omega), if_neg (by decide), if_neg (by decide), if_neg h.2.2.2]
theorem k_mTwo0 {d : Nat} (hd : 3 ≤ d) {x : Int} (hx : zin x) (h : ¬ yPair x) (σ : zF) : zx d 157 [.inr (.inl x)] σ = zri 0 σ := by
  obtain ⟨d, rfl, hd'⟩ := y_d hd; have hd := hd'
  unfold yPair at h
  unfold zin at hx
  rw [e_X12_areTwo]
  by_cases h0 : x < 0
  · rw [if_pos h0]
  · rw [if_neg h0, if_neg (by decide), k_mPlace hd, zCI_ri, y01, zdiv_p (by omega) hx.2 (by decide), zrem_p (by omega)]
    by_cases h1 : x / 10 < 8
    · rw [if_pos (by omega), if_neg (by decide), k_mPlace hd, zCI_ri, y01]
      by_cases h2 : x % 10 < 8
      · rw [if_pos (by omega), if_neg (by decide), if_neg (by decide), if_pos (by omega)]
      · rw [if_neg (by omega)]
    · rw [if_neg (by omega)]
/-! shelves: their cells -/
theorem y_s6 {s : Int} (h0 : 0 ≤ s) (h1 : s < 6) : s = 0 ∨ s = 1 ∨ s = 2 ∨ s = 3 ∨ s = 4 ∨ s = 5 := by omega
def ysh (s : Int) : Nat := 45 + 2 * s.toNat
def ysr (s : Int) : Nat := 46 + 2 * s.toNat
theorem k_zaa {s : Int} (h0 : 0 ≤ s) (h1 : s < 6) (k : Nat → Option zR) : zaa LAY 44 s k = k (ysh s) := by
  rcases y_s6 h0 h1 with rfl | rfl | rfl | rfl | rfl | rfl <;> rfl
theorem k_cls {s : Int} (h0 : 0 ≤ s) (h1 : s < 6) : zcls LAY (ysh s) 7 = true := by
  rcases y_s6 h0 h1 with rfl | rfl | rfl | rfl | rfl | rfl <;> rfl
theorem k_fld0 {s : Int} (h0 : 0 ≤ s) (h1 : s < 6) (A : Option zR) (B : Nat → Option zR) : zfld LAY (ysh s) 7 0 A B = A := by
  rcases y_s6 h0 h1 with rfl | rfl | rfl | rfl | rfl | rfl <;> rfl
theorem k_fld1 {s : Int} (h0 : 0 ≤ s) (h1 : s < 6) (A : Option zR) (B : Nat → Option zR) : zfld LAY (ysh s) 7 1 A B = A := by
  rcases y_s6 h0 h1 with rfl | rfl | rfl | rfl | rfl | rfl <;> rfl
theorem k_fld2 {s : Int} (h0 : 0 ≤ s) (h1 : s < 6) (A : Option zR) (B : Nat → Option zR) : zfld LAY (ysh s) 7 2 A B = A := by
  rcases y_s6 h0 h1 with rfl | rfl | rfl | rfl | rfl | rfl <;> rfl
theorem k_fld3 {s : Int} (h0 : 0 ≤ s) (h1 : s < 6) (A : Option zR) (B : Nat → Option zR) : zfld LAY (ysh s) 7 3 A B = B (ysr s) := by
  rcases y_s6 h0 h1 with rfl | rfl | rfl | rfl | rfl | rfl <;> rfl
theorem k_put0 {s : Int} (h0 : 0 ≤ s) (h1 : s < 6) (x : Int) (A : Option zR) : zputK LAY (ysh s) 7 0 0 x A = A := by
  rcases y_s6 h0 h1 with rfl | rfl | rfl | rfl | rfl | rfl <;> rfl
theorem k_put1 {s : Int} (h0 : 0 ≤ s) (h1 : s < 6) (x : Int) (A : Option zR) : zputK LAY (ysh s) 7 1 0 x A = A := by
  rcases y_s6 h0 h1 with rfl | rfl | rfl | rfl | rfl | rfl <;> rfl
theorem k_put2 {s : Int} (h0 : 0 ≤ s) (h1 : s < 6) (x : Int) (A : Option zR) : zputK LAY (ysh s) 7 2 0 x A = A := by
  rcases y_s6 h0 h1 with rfl | rfl | rfl | rfl | rfl | rfl <;> rfl
theorem k_zar {s : Int} (h0 : 0 ≤ s) (h1 : s < 6) {i : Int} (hi : 0 ≤ i ∧ i < 60) (A : Option zR) : zar LAY 1 (ysr s) i A = A := by
  have h : ∀ o, LAY[o]? = some (.inl (1, 60, [])) → zar LAY 1 o i A = A := by
    intro o ho
    unfold zar
    rw [ho]
    show (if 0 ≤ i ∧ i < ((60 : Nat) : Int) then A else none) = A
    exact if_pos (by omega)
  apply h
  rcases y_s6 h0 h1 with rfl | rfl | rfl | rfl | rfl | rfl <;> rfl
theorem k_zlen {s : Int} (h0 : 0 ≤ s) (h1 : s < 6) (k : Nat → Option zR) : zlen zX2 LAY (ysr s) k = k 60 := by
  rcases y_s6 h0 h1 with rfl | rfl | rfl | rfl | rfl | rfl <;> rfl
theorem k_zarcK {s t : Int} (h0 : 0 ≤ s) (h1 : s < 6) (g0 : 0 ≤ t) (g1 : t < 6) {n sp dp : Int} (h : 0 ≤ n ∧ 0 ≤ sp ∧ 0 ≤ dp ∧ sp + n ≤ 60 ∧ dp + n ≤ 60) (A : Option zR) : zarcK LAY (ysr s) (ysr t) n sp dp A = A := by
  have key : ∀ o p, LAY[o]? = some (.inl (1, 60, [])) → LAY[p]? = some (.inl (1, 60, [])) → zarcK LAY o p n sp dp A = A := by
    intro o p ho hp
    unfold zarcK
    rw [ho, hp]
    exact if_pos h
  apply key
  · rcases y_s6 h0 h1 with rfl | rfl | rfl | rfl | rfl | rfl <;> rfl
  · rcases y_s6 g0 g1 with rfl | rfl | rfl | rfl | rfl | rfl <;> rfl
/-- what a shelf is: sort, size, stone -/
theorem k_isRow {d : Nat} (hd : 1 ≤ d) {s : Int} (h0 : 0 ≤ s) (h1 : s < 6) (σ : zF) : zx d 68 [.inl (some (ysh s))] σ = zri (if σ (ysh s) 0 = -1 then 0 else 1) σ := by
  obtain ⟨d, rfl, hd'⟩ := y_d hd; have hd := hd'
  rw [e_X7_isRow, k_fld0 h0 h1]
  split <;> rfl
theorem k_isRowOf {d : Nat} (hd : 2 ≤ d) {s : Int} (h0 : 0 ≤ s) (h1 : s < 6) (x : Int) (σ : zF) : zx d 69 [.inl (some (ysh s)), .inr (.inl x)] σ = zri (if ¬ σ (ysh s) 0 = -1 ∧ σ (ysh s) 0 = x then 1 else 0) σ := by
  obtain ⟨d, rfl, hd'⟩ := y_d hd; have hd := hd'
  rw [e_X7_isRowOf, k_cls h0 h1, k_isRow hd h0 h1, zCI_ri, k_fld0 h0 h1]
  by_cases h : σ (ysh s) 0 = -1 <;> by_cases h2 : σ (ysh s) 0 = x <;> simp_all
theorem k_isEmpty {d : Nat} (hd : 2 ≤ d) {s : Int} (h0 : 0 ≤ s) (h1 : s < 6) (σ : zF) : zx d 70 [.inl (some (ysh s))] σ = zri (if σ (ysh s) 0 = -1 ∧ σ (ysh s) 2 = -1 then 1 else 0) σ := by
  obtain ⟨d, rfl, hd'⟩ := y_d hd; have hd := hd'
  rw [e_X7_isEmpty, k_cls h0 h1, k_isRow hd h0 h1, zCI_ri, k_fld2 h0 h1]
  by_cases h : σ (ysh s) 0 = -1 <;> by_cases h2 : σ (ysh s) 2 = -1 <;> simp_all
theorem k_refusalOf {d : Nat} (hd : 3 ≤ d) {s : Int} (h0 : 0 ≤ s) (h1 : s < 6) (x : Int) (σ : zF) : zx d 73 [.inl (some (ysh s)), .inr (.inl x)] σ = zri (if σ (ysh s) 0 = -1 ∧ σ (ysh s) 2 = -1 then -11 else if ¬ σ (ysh s) 0 = -1 ∧ σ (ysh s) 0 = x then 0 else -12) σ := by
  obtain ⟨d, rfl, hd'⟩ := y_d hd; have hd := hd'
  rw [e_X7_refusalOf, k_cls h0 h1, k_isEmpty hd h0 h1, zCI_ri, y01, k_isRowOf hd h0 h1, zCI_ri, y01]
  by_cases h : σ (ysh s) 0 = -1 <;> by_cases h2 : σ (ysh s) 2 = -1 <;> by_cases h3 : σ (ysh s) 0 = x <;> simp_all
theorem k_refusalAt {d : Nat} (hd : 3 ≤ d) {s : Int} (h0 : 0 ≤ s) (h1 : s < 6) (x : Int) (σ : zF) : zx d 74 [.inl (some (ysh s)), .inr (.inl x)] σ = zri (if σ (ysh s) 0 = -1 ∧ σ (ysh s) 2 = -1 then -11 else if σ (ysh s) 0 = -1 then -12 else if 0 ≤ x ∧ x < σ (ysh s) 1 then 0 else -13) σ := by
  obtain ⟨d, rfl, hd'⟩ := y_d hd; have hd := hd'
  rw [e_X7_refusalAt, k_cls h0 h1, k_isEmpty hd h0 h1, zCI_ri, y01, k_isRow (by omega) h0 h1, zCI_ri, k_fld1 h0 h1]
  by_cases h : σ (ysh s) 0 = -1
  · by_cases h2 : σ (ysh s) 2 = -1 <;> simp_all
  · simp only [h, false_and, if_false, Bool.true_and, cond_true]
    rw [if_neg (by decide)]
    by_cases g : x < 0
    · rw [if_pos g, if_neg (by omega)]
    · rw [if_neg g]
      by_cases g2 : x < σ (ysh s) 1
      · rw [if_pos g2, if_pos (by omega)]
      · rw [if_neg g2, if_neg (by omega)]
