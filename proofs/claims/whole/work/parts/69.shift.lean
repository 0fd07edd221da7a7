/-! shift -/
theorem k_hasSpan {d : Nat} (hd : 1 ≤ d) {s x n : Int} (h0 : 0 ≤ s) (h1 : s < 6) (hn : zin n) {σ : zF} (hb : 0 ≤ σ (ysh s) 1 ∧ σ (ysh s) 1 ≤ 60) : zx d 75 [.inl (some (ysh s)), .inr (.inl x), .inr (.inl n)] σ = zri (if 0 ≤ x ∧ 0 ≤ n ∧ x + n ≤ σ (ysh s) 1 then 1 else 0) σ := by
  obtain ⟨d, rfl, -⟩ := y_d (k := 0) hd
  unfold zin at hn
  rw [e_X7_hasSpan, k_fld1 h0 h1]
  by_cases q1 : x < 0
  · rw [if_pos q1, if_neg (by omega)]
  · rw [if_neg q1]
    by_cases q2 : n < 0
    · rw [if_pos q2, if_neg (by omega)]
    · rw [if_neg q2, zw_i (x := σ (ysh s) 1 - n) (by omega) (by omega)]
      by_cases q3 : σ (ysh s) 1 - n < x
      · rw [if_pos q3, if_neg (by omega)]
      · rw [if_neg q3, if_pos (by omega)]
theorem zcpy_up {σ : zF} {A B : Int} {k n : Int} (hk : 0 ≤ k ∧ k < n) (h : B ≤ A ∨ A + n ≤ B) : zset (zcpy σ 83 A 83 B k) 83 (B + k) (zcpy σ 83 A 83 B k 83 (A + k)) = zcpy σ 83 A 83 B (k + 1) := by
  funext q i
  rw [zset_eq, zcpy_eq, zcpy_eq, zcpy_eq]
  by_cases hq : q = 83 ∧ i = B + k
  · rw [if_pos hq, if_neg (by omega), if_pos (by omega)]
    rw [show A + (i - B) = A + k by omega]
  · rw [if_neg hq]
    exact y_cc (by omega)
theorem zcpy_dn {σ : zF} {A B : Int} {k n : Int} (hk : 0 ≤ k ∧ k < n) (h : A ≤ B) : zset (zcpy σ 83 (A + (k + 1)) 83 (B + (k + 1)) (n - (k + 1))) 83 (B + k) (zcpy σ 83 (A + (k + 1)) 83 (B + (k + 1)) (n - (k + 1)) 83 (A + k)) = zcpy σ 83 (A + k) 83 (B + k) (n - k) := by
  funext q i
  rw [zset_eq, zcpy_eq, zcpy_eq, zcpy_eq]
  by_cases hq : q = 83 ∧ i = B + k
  · rw [if_pos hq, if_neg (by omega), if_pos (by omega)]
    rw [show A + k + (i - (B + k)) = A + k by omega]
  · rw [if_neg hq, show A + (k + 1) + (i - (B + (k + 1))) = A + k + (i - (B + k)) by omega]
    exact y_cc (by omega)
theorem m_shUp {d : Nat} {y1 y2 y3 y4 n : Int} {σ : zF} (a1 : 0 ≤ y1 ∧ y1 < 6) (a3 : 0 ≤ y3 ∧ y3 < 6) (a2 : 0 ≤ y2 ∧ y2 + n ≤ 60) (a4 : 0 ≤ y4 ∧ y4 + n ≤ 60) (h : 60 * y3 + y4 ≤ 60 * y1 + y2 ∨ 60 * y1 + y2 + n ≤ 60 * y3 + y4) : ∀ (j : Nat) (k : Int), 0 ≤ k → k + j = n → P_X12_shift_188 d y1 y2 y3 y4 n k (zcpy σ 83 (60 * y1 + y2) 83 (60 * y3 + y4) k) = zri n (zcpy σ 83 (60 * y1 + y2) 83 (60 * y3 + y4) n) := by
  intro j
  induction j with
  | zero =>
    intro k k0 kj
    rw [e_X12_shift_188, if_neg (by omega), show k = n by omega]
  | succ j ih =>
    intro k k0 kj
    rw [e_X12_shift_188, if_pos (by omega), zw_i (x := 60 * y1) (by omega) (by omega), zw_i (x := 60 * y3) (by omega) (by omega), zw_i (x := 60 * y1 + y2) (by omega) (by omega), zw_i (x := 60 * y3 + y4) (by omega) (by omega), zw_i (x := 60 * y1 + y2 + k) (by omega) (by omega), zw_i (x := 60 * y3 + y4 + k) (by omega) (by omega), zw_i (x := k + 1) (by omega) (by omega), if_pos (by omega), if_pos (by omega), zcpy_up (n := n) (by omega) h]
    exact ih (k + 1) (by omega) (by omega)
theorem m_shDn {d : Nat} {y1 y2 y3 y4 n : Int} {σ : zF} (a1 : 0 ≤ y1 ∧ y1 < 6) (a3 : 0 ≤ y3 ∧ y3 < 6) (a2 : 0 ≤ y2 ∧ y2 + n ≤ 60) (a4 : 0 ≤ y4 ∧ y4 + n ≤ 60) (h : 60 * y1 + y2 ≤ 60 * y3 + y4) : ∀ (j : Nat) (k : Int), k + 1 = j → k < n → P_X12_shift_142 d y1 y2 y3 y4 n k (zcpy σ 83 (60 * y1 + y2 + (k + 1)) 83 (60 * y3 + y4 + (k + 1)) (n - (k + 1))) = zri n (zcpy σ 83 (60 * y1 + y2) 83 (60 * y3 + y4) n) := by
  intro j
  induction j with
  | zero =>
    intro k kj kn
    rw [e_X12_shift_142, if_pos (by omega), show k + 1 = 0 by omega, show 60 * y1 + y2 + 0 = 60 * y1 + y2 by omega, show 60 * y3 + y4 + 0 = 60 * y3 + y4 by omega, show n - 0 = n by omega]
  | succ j ih =>
    intro k kj kn
    rw [e_X12_shift_142, if_neg (by omega), zw_i (x := 60 * y1) (by omega) (by omega), zw_i (x := 60 * y3) (by omega) (by omega), zw_i (x := 60 * y1 + y2) (by omega) (by omega), zw_i (x := 60 * y3 + y4) (by omega) (by omega), zw_i (x := 60 * y1 + y2 + k) (by omega) (by omega), zw_i (x := 60 * y3 + y4 + k) (by omega) (by omega), zw_i (x := k + (-1)) (by omega) (by omega), if_pos (by omega), if_pos (by omega), zcpy_dn (n := n) (by omega) h]
    have := ih (k + (-1)) (by omega) (by omega)
    rw [show k + -1 + 1 = k by omega] at this
    exact this
theorem y_shift {c : Int} {N : zF} {G : yG} {σ : zF} {x i y j n : Int} (hI : yInv c N G σ) (g0 : 0 ≤ x) (g1 : x < 6) (k0 : 0 ≤ y) (k1 : y < 6) (hi : 0 ≤ i ∧ i + n ≤ 60) (hj : 0 ≤ j ∧ j + n ≤ 60) (hv : σ (ysh x) 0 = σ (ysh y) 0) : yInv (c + 1) N G (zcpy (zcpy σ (ysr x) i (ysr y) j n) 83 (60 * x + i) 83 (60 * y + j) n) := by
  have hSh := hI.2.2.2.2.2.2.2.2.2
  have kb := ysh_b k0 k1
  have o : ∀ k a, ¬ k = ysr y → ¬ k = 83 → (zcpy (zcpy σ (ysr x) i (ysr y) j n) 83 (60 * x + i) 83 (60 * y + j) n) k a = σ k a := fun k a e1 e2 => by rw [zcpy_eq, if_neg (fun h => e2 h.1), zcpy_eq, if_neg (fun h => e1 h.1)]
  have e83 : ∀ a, (zcpy (zcpy σ (ysr x) i (ysr y) j n) 83 (60 * x + i) 83 (60 * y + j) n) 83 a = if 60 * y + j ≤ a ∧ a < 60 * y + j + n then σ 83 (60 * x + i + (a - (60 * y + j))) else σ 83 a := fun a => by
    rw [zcpy_eq, zcpy_eq, zcpy_eq, if_neg (show ¬ (83 = ysr y ∧ _) by omega), if_neg (show ¬ (83 = ysr y ∧ _) by omega)]
    exact y_cc ⟨fun h => h.2, fun h => ⟨rfl, h⟩⟩
  have er : ∀ a, (zcpy (zcpy σ (ysr x) i (ysr y) j n) 83 (60 * x + i) 83 (60 * y + j) n) (ysr y) a = if j ≤ a ∧ a < j + n then σ (ysr x) (i + (a - j)) else σ (ysr y) a := fun a => by
    rw [zcpy_eq, if_neg (show ¬ (ysr y = 83 ∧ _) by omega), zcpy_eq]
    exact y_cc ⟨fun h => h.2, fun h => ⟨rfl, h⟩⟩
  generalize (zcpy (zcpy σ (ysr x) i (ysr y) j n) 83 (60 * x + i) 83 (60 * y + j) n) = t at o e83 er
  have f : yf yAsv σ t := fun q a hq => by
    refine o q a (fun e => ?_) (fun e => ?_)
    · rw [e, yin_sr k0 k1] at hq; exact absurd hq (by decide)
    · subst e; exact absurd (show yin yAsv 83 a = true from rfl) (by rw [hq]; decide)
  refine yInv_sv hI f (fun s h0 h1 => ?_)
  have sb := ysh_b h0 h1
  have z := hSh s h0 h1
  have q4 : ¬ ysh s = ysr y := fun e => ysr_sh k0 k1 h0 h1 e.symm
  have tj : ∀ a, t (ysh s) a = σ (ysh s) a := fun a => o _ _ q4 (by omega)
  unfold ySh1 at z ⊢
  rw [tj, tj, tj, o 81 s (by omega) (by decide), o 82 s (by omega) (by decide), o 41 0 (by omega) (by decide)]
  refine ⟨z.1, z.2.1, z.2.2.1, z.2.2.2.1, fun a a0 a1 => ?_⟩
  have w := z.2.2.2.2 a a0 a1
  rw [e83]
  by_cases e : s = y
  · subst e
    rw [er]
    by_cases p : j ≤ a ∧ a < j + n
    · have zx' := hSh x g0 g1
      unfold ySh1 at zx'
      have w2 := zx'.2.2.2.2 (i + (a - j)) (by omega) (by omega)
      rw [if_pos p, if_pos (by omega), show 60 * x + i + (60 * s + a - (60 * s + j)) = 60 * x + (i + (a - j)) by omega, ← hv]
      exact w2
    · rw [if_neg p, if_neg (by omega)]
      exact w
  · rw [if_neg (by omega), o _ _ (show ¬ ysr s = ysr y by unfold ysr; omega) (by omega)]
    exact w
theorem zwl_i {x : Int} (h1 : -9223372036854775808 ≤ x) (h2 : x < 9223372036854775808) : zwl x = x := by unfold zwl; omega
theorem zcmpl_p {x y : Int} {α : Type} {A B : α} : (if (0 : Int) < zcmpl x y then A else B) = if y < x then A else B := by
  unfold zcmpl
  by_cases h : y < x
  · rw [if_pos h, if_pos h, if_pos (by decide)]
  · rw [if_neg h, if_neg h]
    by_cases e : x = y
    · rw [if_pos e, if_neg (by decide)]
    · rw [if_neg e, if_neg (by decide)]
theorem zcpy_0 {σ : zF} {k k2 : Nat} {a b : Int} : zcpy σ k a k2 b 0 = σ := by
  funext q i
  rw [zcpy_eq, if_neg (by omega)]
