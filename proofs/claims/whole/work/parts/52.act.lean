/-! an act: the bodies that run and what they answer -/
def yup (k : Nat) : Nat := ([0, 0, 0, 2, 1, 3, 0, 4] : List Nat).getD k 0
def yhf : Nat → Nat → Nat → Nat
  | 0, k, _ => k
  | f + 1, k, a => if k = 0 then 0 else if zOWN (k * 4 + a) = 0 then yhf f (yup k) a else k
def yOb (k a : Nat) : Int := zOWN (yhf 8 k a * 4 + a)
def yn1 (A C S : Nat) (b : Int) (σ : zF) : zF := if σ C S < 24 then zset (zset σ A (σ C S) b) C S (σ C S + 1) else zset σ C S (σ C S + 1)
def yns (A C S : Nat) : List Int → zF → zF
  | [], σ => σ
  | b :: l, σ => yns A C S l (yn1 A C S b σ)
theorem yns_app (A C S : Nat) : ∀ (l m : List Int) (σ : zF), yns A C S (l ++ m) σ = yns A C S m (yns A C S l σ)
  | [], _, _ => rfl
  | b :: l, m, σ => yns_app A C S l m (yn1 A C S b σ)
theorem yn1_f {A C S : Nat} (hAC : C ≠ A) (b : Int) (σ : zF) : yn1 A C S b σ C S = σ C S + 1 ∧ ∀ k i, k ≠ A → ¬ (k = C ∧ i = (S : Int)) → yn1 A C S b σ k i = σ k i := by
  unfold yn1
  by_cases h : σ C S < 24
  · rw [if_pos h]
    refine ⟨if_pos ⟨rfl, rfl⟩, fun k i h1 h2 => ?_⟩
    exact (if_neg h2).trans (if_neg (fun z => h1 z.1))
  · rw [if_neg h]
    refine ⟨if_pos ⟨rfl, rfl⟩, fun k i h1 h2 => ?_⟩
    exact if_neg h2
theorem yns_f {A C S : Nat} (hAC : C ≠ A) : ∀ (l : List Int) (σ : zF), yns A C S l σ C S = σ C S + l.length ∧ ∀ k i, k ≠ A → ¬ (k = C ∧ i = (S : Int)) → yns A C S l σ k i = σ k i
  | [], σ => ⟨(Int.add_zero _).symm, fun _ _ _ _ => rfl⟩
  | b :: l, σ => by
    have h1 := yn1_f (S := S) hAC b σ
    have h2 := yns_f (S := S) hAC l (yn1 A C S b σ)
    refine ⟨?_, fun k i a1 a2 => (h2.2 k i a1 a2).trans (h1.2 k i a1 a2)⟩
    show yns A C S l (yn1 A C S b σ) C S = _
    rw [h2.1, h1.1, List.length_cons]; omega
def yrn (n : Int) (K : Nat) : Nat → Nat → Nat → Int → Option (Int × List Int)
  | 0, _, _, _ => none
  | f + 1, k, a, x =>
    if yOb k a = 1 then some (zw (x + n), [1])
    else if yOb k a = 2 then (yrn n K f K 1 x).bind fun r => (yrn n K f K 2 1).bind fun q => some (zw (r.1 - q.1), 2 :: (r.2 ++ q.2))
    else if yOb k a = 10 then (yrn n K f K 0 x).bind fun r => some (zw (r.1 * 2), 10 :: r.2)
    else if yOb k a = 11 then some (zxor x n, [11])
    else if yOb k a = 20 then (yrn n K f 0 0 x).bind fun r => some (zw (r.1 + 3), 20 :: r.2)
    else if yOb k a = 30 then (yrn n K f 0 1 x).bind fun r => some (zw (-r.1), 30 :: r.2)
    else if yOb k a = 40 then (yrn n K f 2 2 x).bind fun r => some (zw (r.1 * 3), 40 :: r.2)
    else if yOb k a = 41 then (yrn n K f 2 1 (zw (x + 1))).bind fun r => some (r.1, 41 :: r.2)
    else if yOb k a = 50 then (yrn n K f 1 2 x).bind fun r => (yrn n K f K 0 2).bind fun q => some (zw (r.1 - q.1), 50 :: (r.2 ++ q.2))
    else if yOb k a = 60 then (yrn n K f 3 3 x).bind fun r => some (zxor r.1 5, 60 :: r.2)
    else if yOb k a = 70 then (yrn n K f 0 0 x).bind fun r => some (zw (r.1 * 2), 70 :: r.2)
    else if yOb k a = 80 then (yrn n K f 4 1 x).bind fun r => (yrn n K f K 2 2).bind fun q => some (zw (r.1 + q.1), 80 :: (r.2 ++ q.2))
    else if yOb k a = 81 then (yrn n K f 4 3 x).bind fun r => some (zw (r.1 - 1), 81 :: r.2)
    else some (0, [yOb k a])
theorem yup_b : ∀ k, k < 8 → yup k < 8 ∧ (0 < k → zABV k = ((yup k : Nat) : Int)) := by decide
theorem yhf_b : ∀ f k a, k < 8 → yhf f k a < 8
  | 0, _, _, h => h
  | f + 1, k, a, h => by
    unfold yhf
    split
    · omega
    split
    · exact yhf_b f (yup k) a (yup_b k h).1
    · exact h
theorem k_hol {d a : Nat} (ha : a < 4) (σ : zF) : ∀ m k : Nat, m ≤ 8 → k < 8 → P_X8_holderOf_4 d (a : Int) (k : Int) (8 - (m : Int)) σ = zri ((yhf m k a : Nat) : Int) σ
  | 0, k, _, hk => by
    rw [e_X8_holderOf_4, if_neg (by omega), zmax_eq]
    show zri _ σ = zri (k : Int) σ
    rw [show max (0 : Int) (k : Int) = k by omega]
  | m + 1, k, hm, hk => by
    rw [e_X8_holderOf_4, if_pos (by omega), zw_i (x := (k : Int) * 4) (by omega) (by omega), zw_i (x := (k : Int) * 4 + a) (by omega) (by omega), zmax_eq]
    unfold yhf
    by_cases q : k = 0
    · subst q
      rw [if_neg (by omega), if_pos rfl]; rfl
    · rw [if_pos (by omega), if_pos (by omega), if_neg q, show ((k : Int) * 4 + (a : Int)).toNat = k * 4 + a by omega]
      by_cases z : zOWN (k * 4 + a) = 0
      · rw [if_pos z, if_pos z, if_pos (by omega), show ((k : Int)).toNat = k by omega, (yup_b k hk).2 (by omega), show zw (8 - ((m + 1 : Nat) : Int) + 1) = 8 - (m : Int) by rw [zw_i (by omega) (by omega)]; omega]
        exact k_hol ha σ m (yup k) (by omega) (yup_b k hk).1
      · rw [if_neg z, if_neg z, show max (0 : Int) (k : Int) = k by omega]
theorem k_holder {d k a : Nat} (hd : 1 ≤ d) (hk : k < 8) (ha : a < 4) (σ : zF) : zx d 83 [.inr (.inl (k : Int)), .inr (.inl (a : Int))] σ = zri ((yhf 8 k a : Nat) : Int) σ := by
  obtain ⟨d, rfl, -⟩ := y_d (k := 0) hd
  rw [e_X8_holderOf]
  exact k_hol ha σ 8 k (by omega) hk
theorem k_note {d : Nat} (hd : 1 ≤ d) (b : Int) {σ : zF} (h : 0 ≤ σ 41 3) (h' : σ 41 3 < 100000) : zx d 84 [.inl (some 41), .inr (.inl b)] σ = zrv (yn1 43 41 3 b σ) := by
  obtain ⟨d, rfl, -⟩ := y_d (k := 0) hd
  rw [e_X8_note]
  unfold yn1
  have g : zw (σ 41 3 + 1) = σ 41 3 + 1 := zw_i (by omega) (by omega)
  by_cases q : σ 41 3 < 24
  · have q' : σ 41 ((3 : Nat) : Int) < 24 := q
    rw [if_pos q, if_pos ⟨h, q⟩, if_pos q', g]; rfl
  · have q' : ¬ σ 41 ((3 : Nat) : Int) < 24 := q
    rw [if_neg q, if_neg q', g]; rfl
theorem k_mran {d : Nat} (hd : 1 ≤ d) (b : Int) {σ : zF} (h : 0 ≤ σ 57 37) (h' : σ 57 37 < 100000) : zx d 236 [.inl (some 57), .inr (.inl b)] σ = zrv (yn1 80 57 37 b σ) := by
  obtain ⟨d, rfl, -⟩ := y_d (k := 0) hd
  rw [e_X12_ran]
  unfold yn1
  have g : zw (σ 57 37 + 1) = σ 57 37 + 1 := zw_i (by omega) (by omega)
  by_cases q : σ 57 37 < 24
  · have q' : σ 57 ((37 : Nat) : Int) < 24 := q
    rw [if_pos q, if_pos ⟨h, q⟩, if_pos q', g]; rfl
  · have q' : ¬ σ 57 ((37 : Nat) : Int) < 24 := q
    rw [if_neg q, if_neg q', g]; rfl
theorem yOb_1 : ∀ k, k < 8 → ∀ a, a < 4 → yhf 8 k a = 1 → zABV (yhf 8 k a) = 0 := by decide
