/-! fewest hours: rounds of drawing nearer, pure -/
def yrx (A B H p d : Int → Int) (r c : Int) : Int := if p r = 0 ∧ c = B r ∧ d (A r) + H r < d (B r) then d (A r) + H r else if p r = 0 ∧ c = A r ∧ d (B r) + H r < d (A r) then d (B r) + H r else d c
def yrk (A B H p d : Int → Int) : Nat → Int → Int
  | 0 => d
  | k + 1 => yrx A B H p (yrk A B H p d k) (k : Int)
def yrd (n : Int) (A B H p d : Int → Int) : Int → Int := yrk A B H p d n.toNat
def yrs (n : Int) (A B H p d : Int → Int) : Nat → Int → Int
  | 0 => d
  | k + 1 => yrd n A B H p (yrs n A B H p d k)
def yd0 (s c : Int) : Int := if c = s then 0 else 1000000
def yOK (n : Int) (A B H p : Int → Int) : Prop := ∀ r, 0 ≤ r → r < n → 0 ≤ A r ∧ A r < 8 ∧ 0 ≤ B r ∧ B r < 8 ∧ A r ≠ B r ∧ 1 ≤ H r ∧ H r ≤ 99
/-- from s: what holds all along -/
def yjd (n : Int) (A B H p : Int → Int) (s : Int) (d : Int → Int) : Prop := d s = 0 ∧ (∀ c, ¬ c = s → 1 ≤ d c ∧ d c ≤ 1000000) ∧ ∀ c, ¬ c = s → d c < 1000000 → ∃ r q, 0 ≤ r ∧ r < n ∧ p r = 0 ∧ (A r = c ∧ B r = q ∨ B r = c ∧ A r = q) ∧ d q + H r ≤ d c
section
variable {n : Int} {A B H p : Int → Int}
theorem yrx_le (d : Int → Int) (r c : Int) : yrx A B H p d r c ≤ d c := by
  unfold yrx
  split
  · next h => rw [h.2.1]; omega
  · split
    · next h => rw [h.2.1]; omega
    · exact Int.le_refl _
theorem yrx_j {s : Int} {d : Int → Int} {r : Int} (ok : yOK n A B H p) (h0 : 0 ≤ r) (h1 : r < n) (hj : yjd n A B H p s d) : yjd n A B H p s (yrx A B H p d r) := by
  obtain ⟨a1, a2, a3, a4, a5, a6, a7⟩ := ok r h0 h1
  obtain ⟨j1, j2, j3⟩ := hj
  have hp : ∀ c, 0 ≤ d c ∧ d c ≤ 1000000 := by
    intro c
    by_cases h : c = s
    · rw [h]; omega
    · have := j2 c h; omega
  refine ⟨?_, ?_, ?_⟩
  · have hA := hp (A r)
    have hB := hp (B r)
    unfold yrx
    rw [if_neg, if_neg]
    · exact j1
    · rintro ⟨-, e, h⟩
      rw [← e] at h
      omega
    · rintro ⟨-, e, h⟩
      rw [← e] at h
      omega
  · intro c hc
    have hA := hp (A r)
    have hB := hp (B r)
    have := j2 c hc
    unfold yrx
    split
    · omega
    · split <;> omega
  · intro c hc hlt
    by_cases e1 : p r = 0 ∧ c = B r ∧ d (A r) + H r < d (B r)
    · refine ⟨r, A r, h0, h1, e1.1, Or.inr ⟨e1.2.1.symm, rfl⟩, ?_⟩
      have := yrx_le (A := A) (B := B) (H := H) (p := p) d r (A r)
      rw [show yrx A B H p d r c = d (A r) + H r from if_pos e1]
      omega
    · by_cases e2 : p r = 0 ∧ c = A r ∧ d (B r) + H r < d (A r)
      · refine ⟨r, B r, h0, h1, e2.1, Or.inl ⟨e2.2.1.symm, rfl⟩, ?_⟩
        have := yrx_le (A := A) (B := B) (H := H) (p := p) d r (B r)
        rw [show yrx A B H p d r c = d (B r) + H r from (if_neg e1).trans (if_pos e2)]
        omega
      · have e : yrx A B H p d r c = d c := (if_neg e1).trans (if_neg e2)
        rw [e] at hlt ⊢
        obtain ⟨r', q, g1, g2, g3, g4, g5⟩ := j3 c hc hlt
        have := yrx_le (A := A) (B := B) (H := H) (p := p) d r q
        exact ⟨r', q, g1, g2, g3, g4, by omega⟩
theorem yrx_rel {d : Int → Int} {r : Int} (hp : p r = 0) (hH : 1 ≤ H r) : yrx A B H p d r (B r) ≤ d (A r) + H r ∧ yrx A B H p d r (A r) ≤ d (B r) + H r := by
  unfold yrx
  constructor
  · split
    · omega
    · next h =>
      have : ¬ d (A r) + H r < d (B r) := fun q => h ⟨hp, rfl, q⟩
      split
      · next h2 => rw [← h2.2.1] at h2; omega
      · omega
  · split
    · next h => rw [← h.2.1] at h; omega
    · split
      · omega
      · next h =>
        have : ¬ d (B r) + H r < d (A r) := fun q => h ⟨hp, rfl, q⟩
        omega
theorem yrk_le (d : Int → Int) : ∀ (k : Nat) (c : Int), yrk A B H p d k c ≤ d c
  | 0, _ => Int.le_refl _
  | k + 1, c => Int.le_trans (yrx_le _ _ _) (yrk_le d k c)
theorem yrk_mono (d : Int → Int) (k : Nat) (c : Int) : ∀ j, yrk A B H p d (k + j) c ≤ yrk A B H p d k c
  | 0 => Int.le_refl _
  | j + 1 => Int.le_trans (yrx_le _ _ _) (yrk_mono d k c j)
theorem yrk_j {s : Int} {d : Int → Int} (ok : yOK n A B H p) (hj : yjd n A B H p s d) : ∀ k : Nat, (k : Int) ≤ n → yjd n A B H p s (yrk A B H p d k)
  | 0, _ => hj
  | k + 1, h => yrx_j ok (by omega) (by omega) (yrk_j ok hj k (by omega))
theorem yrd_le (d : Int → Int) (c : Int) : yrd n A B H p d c ≤ d c := yrk_le _ _ _
theorem yrd_j {s : Int} {d : Int → Int} (h0 : 0 ≤ n) (ok : yOK n A B H p) (hj : yjd n A B H p s d) : yjd n A B H p s (yrd n A B H p d) := yrk_j ok hj _ (by omega)
theorem yrd_rel {d : Int → Int} {r : Int} (ok : yOK n A B H p) (h0 : 0 ≤ r) (h1 : r < n) (hp : p r = 0) : yrd n A B H p d (B r) ≤ d (A r) + H r ∧ yrd n A B H p d (A r) ≤ d (B r) + H r := by
  obtain ⟨a1, a2, a3, a4, a5, a6, a7⟩ := ok r h0 h1
  obtain ⟨k, rfl⟩ := Int.eq_ofNat_of_zero_le h0
  have e : n.toNat = (k + 1) + (n.toNat - (k + 1)) := by omega
  have g := yrx_rel (A := A) (B := B) (H := H) (p := p) (d := yrk A B H p d k) hp a6
  have m1 := yrk_mono (A := A) (B := B) (H := H) (p := p) d (k + 1) (B (k : Int)) (n.toNat - (k + 1))
  have m2 := yrk_mono (A := A) (B := B) (H := H) (p := p) d (k + 1) (A (k : Int)) (n.toNat - (k + 1))
  rw [← e] at m1 m2
  have l1 := yrk_le (A := A) (B := B) (H := H) (p := p) d k (A (k : Int))
  have l2 := yrk_le (A := A) (B := B) (H := H) (p := p) d k (B (k : Int))
  unfold yrd
  have s1 : yrk A B H p d (k + 1) = yrx A B H p (yrk A B H p d k) (k : Int) := rfl
  rw [s1] at m1 m2
  omega
theorem yd0_j (s : Int) : yjd n A B H p s (yd0 s) := by
  refine ⟨if_pos rfl, fun c hc => ?_, fun c hc h => ?_⟩
  · rw [show yd0 s c = 1000000 from if_neg hc]
    omega
  · rw [show yd0 s c = 1000000 from if_neg hc] at h
    omega
theorem yrs_j {s : Int} (h0 : 0 ≤ n) (ok : yOK n A B H p) : ∀ k, yjd n A B H p s (yrs n A B H p (yd0 s) k)
  | 0 => yd0_j s
  | k + 1 => yrd_j h0 ok (yrs_j h0 ok k)
theorem yrs_mono (d : Int → Int) (k : Nat) (c : Int) : ∀ j, yrs n A B H p d (k + j) c ≤ yrs n A B H p d k c
  | 0 => Int.le_refl _
  | j + 1 => Int.le_trans (yrd_le _ _) (yrs_mono d k c j)
theorem yjd_b {s : Int} {d : Int → Int} (h : yjd n A B H p s d) (c : Int) : 0 ≤ d c ∧ d c ≤ 1000000 := by
  by_cases e : c = s
  · rw [e, h.1]; omega
  · have := h.2.1 c e; omega
/-- outside nothing changes -/
theorem yrx_out {d : Int → Int} {r c : Int} (ok : yOK n A B H p) (h0 : 0 ≤ r) (h1 : r < n) (hc : ¬ (0 ≤ c ∧ c < 8)) : yrx A B H p d r c = d c := by
  obtain ⟨a1, a2, a3, a4, a5, a6, a7⟩ := ok r h0 h1
  unfold yrx
  rw [if_neg (by rintro ⟨-, h, -⟩; omega), if_neg (by rintro ⟨-, h, -⟩; omega)]
theorem yrk_out {d : Int → Int} {c : Int} (ok : yOK n A B H p) (hc : ¬ (0 ≤ c ∧ c < 8)) : ∀ k : Nat, (k : Int) ≤ n → yrk A B H p d k c = d c
  | 0, _ => rfl
  | k + 1, h => (yrx_out ok (by omega) (by omega) hc).trans (yrk_out ok hc k (by omega))
theorem yrd_out {d : Int → Int} {c : Int} (h0 : 0 ≤ n) (ok : yOK n A B H p) (hc : ¬ (0 ≤ c ∧ c < 8)) : yrd n A B H p d c = d c := yrk_out ok hc _ (by omega)
def yS (d : Int → Int) : Int := d 0 + d 1 + d 2 + d 3 + d 4 + d 5 + d 6 + d 7
theorem y8 {c : Int} (h : 0 ≤ c ∧ c < 8) : c = 0 ∨ c = 1 ∨ c = 2 ∨ c = 3 ∨ c = 4 ∨ c = 5 ∨ c = 6 ∨ c = 7 := by omega
theorem yS_eq {d e : Int → Int} (hle : ∀ c, e c ≤ d c) (hs : yS d ≤ yS e) {c : Int} (hc : 0 ≤ c ∧ c < 8) : e c = d c := by
  have h0 := hle 0
  have h1 := hle 1
  have h2 := hle 2
  have h3 := hle 3
  have h4 := hle 4
  have h5 := hle 5
  have h6 := hle 6
  have h7 := hle 7
  unfold yS at hs
  rcases y8 hc with rfl | rfl | rfl | rfl | rfl | rfl | rfl | rfl <;> omega
theorem yfix_ex {s : Int} (h0 : 0 ≤ n) (ok : yOK n A B H p) : ∀ (m : Nat) (j : Nat), yS (yrs n A B H p (yd0 s) j) ≤ (m : Int) → ∃ k, yrd n A B H p (yrs n A B H p (yd0 s) k) = yrs n A B H p (yd0 s) k := by
  intro m
  induction m with
  | zero =>
    intro j hj
    refine ⟨j, funext fun c => ?_⟩
    by_cases hc : 0 ≤ c ∧ c < 8
    · refine yS_eq (d := yrs n A B H p (yd0 s) j) (e := yrd n A B H p (yrs n A B H p (yd0 s) j)) (fun c => yrd_le _ _) ?_ hc
      have := fun c => (yjd_b (yrs_j (s := s) h0 ok (j + 1)) c).1
      have q0 := this 0
      have q1 := this 1
      have q2 := this 2
      have q3 := this 3
      have q4 := this 4
      have q5 := this 5
      have q6 := this 6
      have q7 := this 7
      have e : yrs n A B H p (yd0 s) (j + 1) = yrd n A B H p (yrs n A B H p (yd0 s) j) := rfl
      rw [e] at q0 q1 q2 q3 q4 q5 q6 q7
      have : 0 ≤ yS (yrd n A B H p (yrs n A B H p (yd0 s) j)) := by unfold yS; omega
      omega
    · exact yrd_out h0 ok hc
  | succ m ih =>
    intro j hj
    by_cases h : yS (yrs n A B H p (yd0 s) j) ≤ yS (yrd n A B H p (yrs n A B H p (yd0 s) j))
    · refine ⟨j, funext fun c => ?_⟩
      by_cases hc : 0 ≤ c ∧ c < 8
      · exact yS_eq (d := yrs n A B H p (yd0 s) j) (e := yrd n A B H p (yrs n A B H p (yd0 s) j)) (fun c => yrd_le _ _) h hc
      · exact yrd_out h0 ok hc
    · refine ih (j + 1) ?_
      show yS (yrd n A B H p (yrs n A B H p (yd0 s) j)) ≤ (m : Int)
      omega
theorem yfix_all {s : Int} {k : Nat} (h : yrd n A B H p (yrs n A B H p (yd0 s) k) = yrs n A B H p (yd0 s) k) : ∀ j, yrs n A B H p (yd0 s) (k + j) = yrs n A B H p (yd0 s) k
  | 0 => rfl
  | j + 1 => by
    show yrd n A B H p (yrs n A B H p (yd0 s) (k + j)) = _
    rw [yfix_all h j]
    exact h
/-- how many places are nearer -/
def yon (d : Int → Int) (x c : Int) : Int := if d c < x then 1 else 0
def yrank (d : Int → Int) (x : Int) : Int := yon d x 0 + yon d x 1 + yon d x 2 + yon d x 3 + yon d x 4 + yon d x 5 + yon d x 6 + yon d x 7
theorem yon_b (d : Int → Int) (x c : Int) : 0 ≤ yon d x c ∧ yon d x c ≤ 1 := by unfold yon; split <;> omega
theorem yon_m (d : Int → Int) {x y : Int} (h : x ≤ y) (c : Int) : yon d x c ≤ yon d y c := by unfold yon; split <;> split <;> omega
theorem yrank_lt {d : Int → Int} {c : Int} (hc : 0 ≤ c ∧ c < 8) {y : Int} (h : d c < y) : yrank d (d c) < yrank d y := by
  have m := yon_m d (Int.le_of_lt h)
  have m0 := m 0
  have m1 := m 1
  have m2 := m 2
  have m3 := m 3
  have m4 := m 4
  have m5 := m 5
  have m6 := m 6
  have m7 := m 7
  have z1 : yon d (d c) c = 0 := if_neg (by omega)
  have z2 : yon d y c = 1 := if_pos h
  unfold yrank
  rcases y8 hc with rfl | rfl | rfl | rfl | rfl | rfl | rfl | rfl <;> omega
theorem yrank_7 {d : Int → Int} {c : Int} (hc : 0 ≤ c ∧ c < 8) : 0 ≤ yrank d (d c) ∧ yrank d (d c) ≤ 7 := by
  have m := yon_b d (d c)
  have m0 := m 0
  have m1 := m 1
  have m2 := m 2
  have m3 := m 3
  have m4 := m 4
  have m5 := m 5
  have m6 := m 6
  have m7 := m 7
  have z1 : yon d (d c) c = 0 := if_neg (by omega)
  unfold yrank
  rcases y8 hc with rfl | rfl | rfl | rfl | rfl | rfl | rfl | rfl <;> omega
theorem yends {r c q : Int} (ok : yOK n A B H p) (h0 : 0 ≤ r) (h1 : r < n) (h : A r = c ∧ B r = q ∨ B r = c ∧ A r = q) : (0 ≤ c ∧ c < 8) ∧ (0 ≤ q ∧ q < 8) ∧ 1 ≤ H r ∧ H r ≤ 99 ∧ ¬ c = q := by
  obtain ⟨a1, a2, a3, a4, a5, a6, a7⟩ := ok r h0 h1
  rcases h with ⟨rfl, rfl⟩ | ⟨rfl, rfl⟩
  · exact ⟨⟨a1, a2⟩, ⟨a3, a4⟩, a6, a7, a5⟩
  · exact ⟨⟨a3, a4⟩, ⟨a1, a2⟩, a6, a7, fun h => a5 h.symm⟩
theorem yrd_rel2 {d : Int → Int} {r c q : Int} (ok : yOK n A B H p) (h0 : 0 ≤ r) (h1 : r < n) (hp : p r = 0) (h : A r = c ∧ B r = q ∨ B r = c ∧ A r = q) : yrd n A B H p d c ≤ d q + H r := by
  have := yrd_rel (d := d) ok h0 h1 hp
  rcases h with ⟨rfl, rfl⟩ | ⟨rfl, rfl⟩
  · exact this.2
  · exact this.1
theorem yrs7 {s : Int} (hs : 0 ≤ s ∧ s < 8) (h0 : 0 ≤ n) (ok : yOK n A B H p) : yrd n A B H p (yrs n A B H p (yd0 s) 7) = yrs n A B H p (yd0 s) 7 := by
  obtain ⟨K, hK⟩ := yfix_ex (s := s) h0 ok (yS (yrs n A B H p (yd0 s) 0)).toNat 0 (by omega)
  have hall := yfix_all hK
  have jD := yrs_j (s := s) h0 ok K
  have hge : ∀ i c, yrs n A B H p (yd0 s) K c ≤ yrs n A B H p (yd0 s) i c := by
    intro i c
    rcases Nat.le_total i K with h | h
    · obtain ⟨j, rfl⟩ := Nat.le.dest h
      exact yrs_mono _ _ _ _
    · obtain ⟨j, rfl⟩ := Nat.le.dest h
      rw [hall j]
      exact Int.le_refl _
  have key : ∀ i : Nat, ∀ c, 0 ≤ c ∧ c < 8 → yrank (yrs n A B H p (yd0 s) K) (yrs n A B H p (yd0 s) K c) ≤ (i : Int) → yrs n A B H p (yd0 s) i c ≤ yrs n A B H p (yd0 s) K c := by
    intro i
    induction i with
    | zero =>
      intro c hc hr
      by_cases e : c = s
      · have := (yrs_j (s := s) h0 ok 0).1
        rw [e, this, jD.1]
        exact Int.le_refl _
      · exfalso
        have h1 := (jD.2.1 c e).1
        have h2 := yrank_lt (d := yrs n A B H p (yd0 s) K) hs (y := yrs n A B H p (yd0 s) K c) (by rw [jD.1]; omega)
        have h3 := (yrank_7 (d := yrs n A B H p (yd0 s) K) hs).1
        omega
    | succ i ih =>
      intro c hc hr
      by_cases e : c = s
      · have := (yrs_j (s := s) h0 ok (i + 1)).1
        rw [e, this, jD.1]
        exact Int.le_refl _
      · by_cases hf : yrs n A B H p (yd0 s) K c < 1000000
        · obtain ⟨r, q, g1, g2, g3, g4, g5⟩ := jD.2.2 c e hf
          obtain ⟨-, hq, hH, -, -⟩ := yends ok g1 g2 g4
          have h2 := yrank_lt (d := yrs n A B H p (yd0 s) K) hq (y := yrs n A B H p (yd0 s) K c) (by omega)
          have h3 := ih q hq (by omega)
          have h4 := yrd_rel2 (d := yrs n A B H p (yd0 s) i) ok g1 g2 g3 g4
          have h5 : yrs n A B H p (yd0 s) (i + 1) c = yrd n A B H p (yrs n A B H p (yd0 s) i) c := rfl
          omega
        · have := (yjd_b (yrs_j (s := s) h0 ok (i + 1)) c).2
          omega
  have e7 : yrs n A B H p (yd0 s) 7 = yrs n A B H p (yd0 s) K := by
    funext c
    by_cases hc : 0 ≤ c ∧ c < 8
    · have a := key 7 c hc (by have := (yrank_7 (d := yrs n A B H p (yd0 s) K) hc).2; omega)
      have b := hge 7 c
      omega
    · have out : ∀ k, yrs n A B H p (yd0 s) k c = yd0 s c := by
        intro k
        induction k with
        | zero => rfl
        | succ k ih => exact (yrd_out h0 ok hc).trans ih
      rw [out, out]
  rw [e7]
  exact hK
end
/-! the fewest hours themselves -/
def yD (n : Int) (A B H p : Int → Int) (s : Int) : Int → Int := yrs n A B H p (yd0 s) 8
section
variable {n : Int} {A B H p : Int → Int}
theorem yD7 {s : Int} (hs : 0 ≤ s ∧ s < 8) (h0 : 0 ≤ n) (ok : yOK n A B H p) : yD n A B H p s = yrs n A B H p (yd0 s) 7 := yrs7 hs h0 ok
theorem yD_fix {s : Int} (hs : 0 ≤ s ∧ s < 8) (h0 : 0 ≤ n) (ok : yOK n A B H p) : yrd n A B H p (yD n A B H p s) = yD n A B H p s := by rw [yD7 hs h0 ok]; exact yrs7 hs h0 ok
theorem yD_j {s : Int} (h0 : 0 ≤ n) (ok : yOK n A B H p) : yjd n A B H p s (yD n A B H p s) := yrs_j h0 ok 8
/-- no road is a shorter one -/
theorem yD_rel {s r c q : Int} (hs : 0 ≤ s ∧ s < 8) (h0 : 0 ≤ n) (ok : yOK n A B H p) (g1 : 0 ≤ r) (g2 : r < n) (g3 : p r = 0) (g4 : A r = c ∧ B r = q ∨ B r = c ∧ A r = q) : yD n A B H p s c ≤ yD n A B H p s q + H r := by
  have := yrd_rel2 (d := yD n A B H p s) ok g1 g2 g3 g4
  rw [yD_fix hs h0 ok] at this
  exact this
theorem yD_pred {s c : Int} (hs : 0 ≤ s ∧ s < 8) (h0 : 0 ≤ n) (ok : yOK n A B H p) (hc : ¬ c = s) (hf : yD n A B H p s c < 1000000) : ∃ r q, 0 ≤ r ∧ r < n ∧ p r = 0 ∧ (A r = c ∧ B r = q ∨ B r = c ∧ A r = q) ∧ yD n A B H p s q + H r = yD n A B H p s c := by
  obtain ⟨r, q, g1, g2, g3, g4, g5⟩ := (yD_j h0 ok).2.2 c hc hf
  exact ⟨r, q, g1, g2, g3, g4, by have := yD_rel hs h0 ok g1 g2 g3 g4; omega⟩
theorem yD_rank {s : Int} (hs : 0 ≤ s ∧ s < 8) (h0 : 0 ≤ n) (ok : yOK n A B H p) : ∀ (m : Nat) (c : Int), 0 ≤ c ∧ c < 8 → yrank (yD n A B H p s) (yD n A B H p s c) ≤ (m : Int) → yD n A B H p s c < 1000000 → yD n A B H p s c ≤ 99 * (m : Int) := by
  intro m
  induction m with
  | zero =>
    intro c hc hr hf
    by_cases e : c = s
    · rw [e, (yD_j h0 ok).1]; omega
    · exfalso
      obtain ⟨r, q, g1, g2, g3, g4, g5⟩ := yD_pred hs h0 ok e hf
      obtain ⟨-, hq, hH, -, -⟩ := yends ok g1 g2 g4
      have h2 := yrank_lt (d := yD n A B H p s) hq (y := yD n A B H p s c) (by omega)
      have := (yrank_7 (d := yD n A B H p s) hq).1
      omega
  | succ m ih =>
    intro c hc hr hf
    by_cases e : c = s
    · rw [e, (yD_j h0 ok).1]; omega
    · obtain ⟨r, q, g1, g2, g3, g4, g5⟩ := yD_pred hs h0 ok e hf
      obtain ⟨-, hq, hH, hH2, -⟩ := yends ok g1 g2 g4
      have h2 := yrank_lt (d := yD n A B H p s) hq (y := yD n A B H p s c) (by omega)
      have := ih q hq (by omega) (by omega)
      omega
theorem yD_693 {s c : Int} (hs : 0 ≤ s ∧ s < 8) (h0 : 0 ≤ n) (ok : yOK n A B H p) (hc : 0 ≤ c ∧ c < 8) (hf : yD n A B H p s c < 1000000) : yD n A B H p s c ≤ 693 := by
  have := yD_rank hs h0 ok 7 c hc (by have := (yrank_7 (d := yD n A B H p s) hc).2; omega) hf
  omega
theorem yD_b {s : Int} (h0 : 0 ≤ n) (ok : yOK n A B H p) (c : Int) : 0 ≤ yD n A B H p s c ∧ yD n A B H p s c ≤ 1000000 := yjd_b (yD_j h0 ok) c
/-- there and back: the way from t is no longer than that to it -/
theorem yD_sym1 {s t : Int} (hs : 0 ≤ s ∧ s < 8) (ht : 0 ≤ t ∧ t < 8) (h0 : 0 ≤ n) (ok : yOK n A B H p) : yD n A B H p s t ≤ yD n A B H p t s := by
  by_cases hf : yD n A B H p t s < 1000000
  · have key : ∀ (m : Nat) (c : Int), 0 ≤ c ∧ c < 8 → yD n A B H p t c ≤ (m : Int) → yD n A B H p s c + yD n A B H p t c ≤ yD n A B H p t s → yD n A B H p s t ≤ yD n A B H p t s := by
      intro m
      induction m with
      | zero =>
        intro c hc hm hle
        by_cases e : c = t
        · subst e
          have := (yD_j (s := c) h0 ok).1
          omega
        · have := ((yD_j (s := t) h0 ok).2.1 c e).1
          omega
      | succ m ih =>
        intro c hc hm hle
        by_cases e : c = t
        · subst e
          have := (yD_j (s := c) h0 ok).1
          omega
        · have hb := (yD_b (s := s) h0 ok c).1
          obtain ⟨r, q, g1, g2, g3, g4, g5⟩ := yD_pred ht h0 ok e (by omega)
          obtain ⟨-, hq, hH, -, -⟩ := yends ok g1 g2 g4
          have := yD_rel hs h0 ok g1 g2 g3 (c := q) (q := c) (by rcases g4 with ⟨a, b⟩ | ⟨a, b⟩; exact Or.inr ⟨b, a⟩; exact Or.inl ⟨b, a⟩)
          exact ih q hq (by omega) (by omega)
    refine key (yD n A B H p t s).toNat s hs (by have := (yD_b (s := t) h0 ok s).1; omega) ?_
    rw [(yD_j (s := s) h0 ok).1]
    omega
  · have := (yD_b (s := s) h0 ok t).2
    omega
theorem yD_sym {s t : Int} (hs : 0 ≤ s ∧ s < 8) (ht : 0 ≤ t ∧ t < 8) (h0 : 0 ≤ n) (ok : yOK n A B H p) : yD n A B H p s t = yD n A B H p t s :=
  Int.le_antisymm (yD_sym1 hs ht h0 ok) (yD_sym1 ht hs h0 ok)
end
