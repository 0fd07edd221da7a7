/-! the net as numbers: N 0 0 how many roads, N 1 from, N 2 to, N 3 length, N 4 jealous of, N 5 ploughed up, N 6 moods now, N 9 4 nights; G: what the law gives -/
abbrev yG : Type := Int → Int → Int → Int → Int → Int → Int
def yBn (N : zF) : Prop := 0 ≤ N 0 0 ∧ N 0 0 ≤ 12 ∧ (∀ r, 0 ≤ r → r < N 0 0 → 0 ≤ N 1 r ∧ N 1 r < 8 ∧ 0 ≤ N 2 r ∧ N 2 r < 8 ∧ ¬ N 1 r = N 2 r ∧ 1 ≤ N 3 r ∧ N 3 r ≤ 99 ∧ (N 4 r = -1 ∨ 0 ≤ N 4 r ∧ N 4 r < N 0 0 ∧ ¬ N 4 r = r) ∧ (N 5 r = 0 ∨ N 5 r = 1)) ∧ (∀ r, 0 ≤ r → r < 12 → -9 ≤ N 6 r ∧ N 6 r ≤ 9) ∧ (∀ r, N 0 0 ≤ r → r < 12 → N 6 r = 0 ∧ N 5 r = 0)
def yBm (m : Int → Int) : Prop := ∀ r, 0 ≤ r → r < 12 → -9 ≤ m r ∧ m r ≤ 9
def yBp (N : zF) (p : Int → Int) : Prop := ∀ r, 0 ≤ r → r < N 0 0 → p r = 0 ∨ p r = 1
/-- the component's net -/
def yC (N σ : zF) : Prop := σ 1 0 = N 0 0 ∧ σ 10 4 = N 9 4 ∧ ∀ r, 0 ≤ r → r < 12 → σ 2 r = N 1 r ∧ σ 3 r = N 2 r ∧ σ 4 r = N 3 r ∧ σ 6 r = N 4 r ∧ σ 7 r = N 5 r ∧ σ 5 r = N 6 r
/-- the model's, ploughed p, moods m -/
def yM (N : zF) (p m : Int → Int) (σ : zF) : Prop := σ 57 0 = N 0 0 ∧ σ 74 4 = N 9 4 ∧ ∀ r, 0 ≤ r → r < 12 → σ 58 r = N 1 r ∧ σ 59 r = N 2 r ∧ σ 60 r = N 3 r ∧ σ 60 (24 + r) = N 4 r ∧ σ 60 (36 + r) = p r ∧ σ 60 (12 + r) = m r
/-- what the law gives: the component's way to it, the model's -/
def yLC (G : yG) (σ : zF) : Prop := ∀ d, 3 ≤ d → ∀ σ' : zF, σ' 14 1 = σ 14 1 → σ' 15 = σ 15 → ∀ l m j n r k : Int, yT (zx d 10 [.inl (some 14), .inr (.inl l), .inr (.inl m), .inr (.inl j), .inr (.inl n), .inr (.inl r), .inr (.inl k)] σ') (yI fun v s => v = G l m j n r k ∧ yf ([16], [(14, 3)]) σ' s)
def yLM (G : yG) (σ : zF) : Prop := (σ 57 9 = 0 → ∀ l m j n r k, G l m j n r k = zw (l - m)) ∧ (¬ σ 57 9 = 0 → ∀ d, 3 ≤ d → ∀ σ' : zF, σ' 57 10 = σ 57 10 → σ' 64 = σ 64 → σ' 65 = σ 65 → σ' 66 = σ 66 → σ' 67 = σ 67 → yT (P_X12_byLaw_103 d 0 σ') (yI fun v s => v = G (σ' 73 0) (σ' 73 1) (σ' 73 2) (σ' 73 3) (σ' 73 4) (σ' 73 5) ∧ yf ([72], []) σ' s))
/-! hours -/
def ykn (N : zF) (p : Int → Int) (r : Int) : Nat → Int
  | 0 => 0
  | k + 1 => ykn N p r k + if ¬ (k : Int) = r ∧ p k = 0 ∧ (N 1 k = N 1 r ∨ N 1 k = N 2 r ∨ N 2 k = N 1 r ∨ N 2 k = N 2 r) then 1 else 0
def yKN (N : zF) (p : Int → Int) (r : Int) : Int := ykn N p r (N 0 0).toNat
def yHV (N : zF) (G : yG) (p : Int → Int) (r x y : Int) : Int := zmax 1 (zmin 99 (G (N 3 r) x y (zmin 99 (N 9 4)) r (yKN N p r)))
def yj0 (N : zF) (m : Int → Int) (r : Int) : Int := if N 4 r < 0 then 0 else m (N 4 r)
def yHR (N : zF) (G : yG) (p m : Int → Int) (r : Int) : Int := yHV N G p r (m r) (yj0 N m r)
/-- one more road thought to be ploughed up -/
def ypw (N : zF) (w q : Int) : Int := if q = w then 1 else N 5 q
theorem yHV_b (N : zF) (G : yG) (p : Int → Int) (r x y : Int) : 1 ≤ yHV N G p r x y ∧ yHV N G p r x y ≤ 99 := by
  unfold yHV zmax zmin
  split <;> split <;> omega
theorem yHR_b (N : zF) (G : yG) (p m : Int → Int) (r : Int) : 1 ≤ yHR N G p m r ∧ yHR N G p m r ≤ 99 := yHV_b _ _ _ _ _ _
theorem ykn_b (N : zF) (p : Int → Int) (r : Int) : ∀ k, 0 ≤ ykn N p r k ∧ ykn N p r k ≤ k
  | 0 => by unfold ykn; omega
  | k + 1 => by
    have := ykn_b N p r k
    unfold ykn
    split <;> omega
/-- the component's thought: its number T, the road w left out, moods m -/
def yTH (N : zF) (G : yG) (T w : Int) (m : Int → Int) (σ : zF) : Prop := σ 17 5 = T ∧ σ 17 9 = w ∧ (∀ r, 0 ≤ r → r < 12 → σ 18 r = m r) ∧ (∀ r, 0 ≤ r → r < 12 → σ 21 r = -1 ∨ σ 21 r = yKN N (ypw N w) r) ∧ ∀ i, 0 ≤ i → i < 192 → σ 20 i < T * 361 ∨ ∃ x y, -9 ≤ x ∧ x ≤ 9 ∧ -9 ≤ y ∧ y ≤ 9 ∧ σ 20 i = (T * 19 + x + 9) * 19 + y + 9 ∧ σ 19 i = yHV N G (ypw N w) (i / 16) x y
def yX (N : zF) (G : yG) (T w : Int) (m : Int → Int) (σ : zF) : Prop := yBn N ∧ yBm m ∧ 0 ≤ T ∧ T ≤ 5000000 ∧ yC N σ ∧ yLC G σ ∧ yTH N G T w m σ
abbrev yDC : List Nat × List (Nat × Int) := ([2, 3, 4, 5, 6, 7], [(1, 0), (10, 4)])
abbrev yDM : List Nat × List (Nat × Int) := ([58, 59, 60], [(57, 0), (74, 4)])
abbrev yDLC : List Nat × List (Nat × Int) := ([15], [(14, 1)])
abbrev yDLM : List Nat × List (Nat × Int) := ([64, 65, 66, 67], [(57, 9), (57, 10)])
abbrev yDTH : List Nat × List (Nat × Int) := ([18, 19, 20, 21], [(17, 5), (17, 9)])
abbrev yDX : List Nat × List (Nat × Int) := ([2, 3, 4, 5, 6, 7, 15, 18, 19, 20, 21], [(1, 0), (10, 4), (14, 1), (17, 5), (17, 9)])
theorem yC_g {N σ σ' : zF} (g : yg yDC σ σ') (h : yC N σ) : yC N σ' := by
  obtain ⟨h1, h2, h3⟩ := h
  refine ⟨(g 1 0 rfl).trans h1, (g 10 4 rfl).trans h2, fun r a b => ?_⟩
  rw [g 2 r rfl, g 3 r rfl, g 4 r rfl, g 5 r rfl, g 6 r rfl, g 7 r rfl]
  exact h3 r a b
theorem yM_g {N : zF} {p m : Int → Int} {σ σ' : zF} (g : yg yDM σ σ') (h : yM N p m σ) : yM N p m σ' := by
  obtain ⟨h1, h2, h3⟩ := h
  refine ⟨(g 57 0 rfl).trans h1, (g 74 4 rfl).trans h2, fun r a b => ?_⟩
  rw [g 58 r rfl, g 59 r rfl, g 60 r rfl, g 60 (24 + r) rfl, g 60 (36 + r) rfl, g 60 (12 + r) rfl]
  exact h3 r a b
theorem yLC_g {G : yG} {σ σ' : zF} (g : yg yDLC σ σ') (h : yLC G σ) : yLC G σ' := by
  intro d hd s e1 e2
  exact h d hd s (e1.trans (g 14 1 rfl)) (e2.trans (funext fun i => g 15 i rfl))
theorem yLM_g {G : yG} {σ σ' : zF} (g : yg yDLM σ σ') (h : yLM G σ) : yLM G σ' := by
  obtain ⟨h1, h2⟩ := h
  refine ⟨fun e => h1 ((g 57 9 rfl).symm.trans e), fun e d hd s e1 e2 e3 e4 e5 => ?_⟩
  exact h2 (fun q => e ((g 57 9 rfl).trans q)) d hd s (e1.trans (g 57 10 rfl)) (e2.trans (funext fun i => g 64 i rfl)) (e3.trans (funext fun i => g 65 i rfl)) (e4.trans (funext fun i => g 66 i rfl)) (e5.trans (funext fun i => g 67 i rfl))
theorem yTH_g {N : zF} {G : yG} {T w : Int} {m : Int → Int} {σ σ' : zF} (g : yg yDTH σ σ') (h : yTH N G T w m σ) : yTH N G T w m σ' := by
  obtain ⟨h1, h2, h3, h4, h5⟩ := h
  refine ⟨(g 17 5 rfl).trans h1, (g 17 9 rfl).trans h2, fun r a b => (g 18 r rfl).trans (h3 r a b), fun r a b => ?_, fun i a b => ?_⟩
  · rw [g 21 r rfl]
    exact h4 r a b
  · rw [g 20 i rfl, g 19 i rfl]
    exact h5 i a b
theorem yX_g {N : zF} {G : yG} {T w : Int} {m : Int → Int} {σ σ' : zF} (g : yg yDX σ σ') (h : yX N G T w m σ) : yX N G T w m σ' := by
  obtain ⟨h1, h2, h3, h4, h5, h6, h7⟩ := h
  exact ⟨h1, h2, h3, h4, yC_g (yg_le g (by decide)) h5, yLC_g (yg_le g (by decide)) h6, yTH_g (yg_le g (by decide)) h7⟩
theorem yX_f {A : List Nat × List (Nat × Int)} {N : zF} {G : yG} {T w : Int} {m : Int → Int} {σ σ' : zF} (h : yX N G T w m σ) (f : yf A σ σ') (ha : yds A yDX = true) : yX N G T w m σ' := yX_g (yf_g f ha) h
theorem yM_f {A : List Nat × List (Nat × Int)} {N : zF} {p m : Int → Int} {σ σ' : zF} (h : yM N p m σ) (f : yf A σ σ') (ha : yds A yDM = true) : yM N p m σ' := yM_g (yf_g f ha) h
theorem yLM_f {A : List Nat × List (Nat × Int)} {G : yG} {σ σ' : zF} (h : yLM G σ) (f : yf A σ σ') (ha : yds A yDLM = true) : yLM G σ' := yLM_g (yf_g f ha) h
