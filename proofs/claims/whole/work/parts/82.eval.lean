/-! the law's end in the model: lines and code are laid down -/
abbrev yAlw : List Nat × List (Nat × Int) := ([64, 65, 66, 67, 68, 69, 70, 71], [(57, 7), (57, 9), (57, 10), (57, 15), (57, 16), (57, 17), (57, 18)])
theorem m_c151 {d : Nat} {n : Int} {F : Int → Int} {σ0 : zF} {Q : zF → Prop} (hn : 0 ≤ n ∧ n ≤ 120) (hQ : ∀ s : zF, (∀ i, 0 ≤ i → i < n → s 67 i = F i) → yf ([67], []) σ0 s → Q s) : ∀ (j : Nat) (i : Int) (σ : zF), 0 ≤ i → i + j = n → σ 57 17 = n → (∀ i, 0 ≤ i → i < n → σ 71 i = F i) → (∀ k, 0 ≤ k → k < i → σ 67 k = F k) → yf ([67], []) σ0 σ → yT (P_X12_law_151 d i σ) (yI fun v s => v = 1 ∧ Q s) := by
  intro j
  induction j with
  | zero =>
    intro i σ i0 ij h1 h2 h3 f
    rw [e_X12_law_151, h1, if_neg (by omega)]
    exact y_i ⟨rfl, hQ σ (fun k k0 k1 => h3 k k0 (by omega)) f⟩
  | succ j ih =>
    intro i σ i0 ij h1 h2 h3 f
    rw [e_X12_law_151, h1, if_pos (by omega), if_pos (by omega), if_pos (by omega), zw_i (x := i + 1) (by omega) (by omega), h2 i i0 (by omega)]
    refine ih (i + 1) _ (by omega) (by omega) ((zset_k (by decide)).trans h1) (fun k k0 k1 => (zset_k (by decide)).trans (h2 k k0 k1)) (fun k k0 k1 => ?_) (yf_set f rfl)
    by_cases e : k = i
    · rw [zset_hit e, e]
    · rw [zset_off e]; exact h3 k k0 (by omega)
theorem m_c99 {d : Nat} {n k : Int} {A S E F : Int → Int} {σ0 : zF} {Q : zF → Prop} (hn : 0 ≤ n ∧ n ≤ 60) (hk : 0 ≤ k ∧ k ≤ 120) (hQ : ∀ s : zF, (∀ i, 0 ≤ i → i < n → s 64 i = A i ∧ s 65 i = S i ∧ s 66 i = E i) → (∀ i, 0 ≤ i → i < k → s 67 i = F i) → yf ([64, 65, 66, 67], []) σ0 s → Q s) : ∀ (j : Nat) (i : Int) (σ : zF), 0 ≤ i → i + j = n → σ 57 10 = n → σ 57 17 = k → (∀ i, 0 ≤ i → i < n → σ 68 i = A i ∧ σ 69 i = S i ∧ σ 70 i = E i) → (∀ i, 0 ≤ i → i < k → σ 71 i = F i) → (∀ q, 0 ≤ q → q < i → σ 64 q = A q ∧ σ 65 q = S q ∧ σ 66 q = E q) → yf ([64, 65, 66, 67], []) σ0 σ → yT (P_X12_law_99 d i σ) (yI fun v s => v = 1 ∧ Q s) := by
  intro j
  induction j with
  | zero =>
    intro i σ i0 ij h1 h2 h3 h4 h5 f
    rw [e_X12_law_99, h1, if_neg (by omega)]
    refine m_c151 (σ0 := σ) hk (fun s s1 s2 => hQ s (fun q q0 q1 => ?_) s1 (yf_tr f (yf_le s2 (by decide)))) k.toNat 0 σ (by omega) (by omega) h2 h4 (fun q q0 q1 => by omega) yf_rf
    rw [s2 64 q rfl, s2 65 q rfl, s2 66 q rfl]
    exact h5 q q0 (by omega)
  | succ j ih =>
    intro i σ i0 ij h1 h2 h3 h4 h5 f
    obtain ⟨a1, a2, a3⟩ := h3 i i0 (by omega)
    have b1 : 0 ≤ i ∧ i < 61 := by omega
    have b2 : 0 ≤ i ∧ i < 60 := by omega
    rw [e_X12_law_99, h1, if_pos (by omega), if_pos b1, if_pos b2, if_pos b1, if_pos b2, if_pos b1, if_pos b2, zw_i (x := i + 1) (by omega) (by omega), a1]
    have e69 : (zset σ 64 i (A i)) 69 i = S i := (zset_k (by decide)).trans a2
    have e70 : (zset (zset σ 64 i (A i)) 65 i (S i)) 70 i = E i := ((zset_k (by decide)).trans (zset_k (by decide))).trans a3
    have o : ∀ c q, ¬ c = 64 → ¬ c = 65 → ¬ c = 66 → (zset (zset (zset σ 64 i (A i)) 65 i (S i)) 66 i (E i)) c q = σ c q := fun c q n1 n2 n3 => by rw [zset_k n3, zset_k n2, zset_k n1]
    have r : (zset (zset (zset σ 64 i (A i)) 65 i (σ 69 i)) 66 i (σ 70 i)) = zset (zset (zset σ 64 i (A i)) 65 i (S i)) 66 i (E i) := by rw [a2, a3]
    rw [r]
    refine ih (i + 1) _ (by omega) (by omega) ((o 57 10 (by decide) (by decide) (by decide)).trans h1) ((o 57 17 (by decide) (by decide) (by decide)).trans h2) (fun q q0 q1 => ?_) (fun q q0 q1 => (o 71 q (by decide) (by decide) (by decide)).trans (h4 q q0 q1)) (fun q q0 q1 => ?_) (yf_set (yf_set (yf_set f rfl) rfl) rfl)
    · rw [o 68 q (by decide) (by decide) (by decide), o 69 q (by decide) (by decide) (by decide), o 70 q (by decide) (by decide) (by decide)]
      exact h3 q q0 q1
    · by_cases e : q = i
      · subst e
        refine ⟨?_, ?_, zset_hit rfl⟩
        · rw [zset_k (by decide), zset_k (by decide), zset_hit rfl]
        · rw [zset_k (by decide), zset_hit rfl]
      · have := h5 q q0 (by omega)
        refine ⟨?_, ?_, ?_⟩
        · rw [zset_k (by decide), zset_k (by decide), zset_off e]; exact this.1
        · rw [zset_k (by decide), zset_off e, zset_k (by decide)]; exact this.2.1
        · rw [zset_off e, zset_k (by decide), zset_k (by decide)]; exact this.2.2
/-! a stack in a cell -/
def ySk (f : Int → Int) : List Int → Prop
  | [] => True
  | v :: R => f (R.length : Int) = v ∧ ySk f R
theorem ySk_cg {f f' : Int → Int} : ∀ (S : List Int), (∀ i, 0 ≤ i → i < (S.length : Int) → f' i = f i) → ySk f S → ySk f' S
  | [], _, _ => trivial
  | v :: R, h, g => by
    rw [List.length_cons] at h
    exact ⟨(h _ (by omega) (by omega)).trans g.1, ySk_cg R (fun i a b => h i a (by omega)) g.2⟩
theorem c_push {d : Nat} (hd : 1 ≤ d) {n v : Int} {σ : zF} (h : σ 14 3 = n) (hn : 0 ≤ n ∧ n < 121) : zx d 13 [.inl (some 14), .inr (.inl v)] σ = zrv (zset (zset σ 16 n v) 14 3 (n + 1)) := by
  obtain ⟨d, rfl, -⟩ := y_d (k := 0) hd
  rw [e_X2_push, h, if_pos hn.2, if_pos hn, zw_i (x := n + 1) (by omega) (by omega)]
theorem c_pop {d : Nat} (hd : 1 ≤ d) {n : Int} {σ : zF} (h : σ 14 3 = n) (hn : 0 < n ∧ n ≤ 121) : zx d 14 [.inl (some 14)] σ = zri (σ 16 (n - 1)) (zset σ 14 3 (n - 1)) := by
  obtain ⟨d, rfl, -⟩ := y_d (k := 0) hd
  rw [e_X2_pop, h, if_pos hn.1, zw_i (x := n - 1) (by omega) (by omega), if_pos (by omega)]
theorem c_join {d : Nat} (hd : 1 ≤ d) {s : Int} (hs : s = -124 ∨ s = -38 ∨ s = -60 ∨ s = -61 ∨ s = -62 ∨ s = -43 ∨ s = -45 ∨ s = -42 ∨ s = -47 ∨ s = -37) (x y : Int) (σ : zF) : zx d 12 [.inr (.inl (-s)), .inr (.inl x), .inr (.inl y)] σ = zri (ybo (ytrc s) x y) σ := by
  obtain ⟨d, rfl, -⟩ := y_d (k := 0) hd
  rw [e_X2_joined]
  rcases hs with rfl | rfl | rfl | rfl | rfl | rfl | rfl | rfl | rfl | rfl
  · have e : ybo (ytrc (-124)) x y = (if x = 0 then (if y = 0 then 0 else 1) else 1) := rfl
    rw [e, if_neg (show ¬ (-(-124 : Int)) = 37 by decide), if_neg (show ¬ (-(-124 : Int)) = 38 by decide), if_neg (show ¬ (-(-124 : Int)) = 39 by decide), if_neg (show ¬ (-(-124 : Int)) = 40 by decide), if_neg (show ¬ (-(-124 : Int)) = 41 by decide), if_neg (show ¬ (-(-124 : Int)) = 42 by decide), if_neg (show ¬ (-(-124 : Int)) = 43 by decide), if_neg (show ¬ (-(-124 : Int)) = 44 by decide), if_neg (show ¬ (-(-124 : Int)) = 45 by decide), if_neg (show ¬ (-(-124 : Int)) = 46 by decide), if_neg (show ¬ (-(-124 : Int)) = 47 by decide), if_neg (show ¬ (-(-124 : Int)) = 48 by decide), if_neg (show ¬ (-(-124 : Int)) = 49 by decide), if_neg (show ¬ (-(-124 : Int)) = 50 by decide), if_neg (show ¬ (-(-124 : Int)) = 51 by decide), if_neg (show ¬ (-(-124 : Int)) = 52 by decide), if_neg (show ¬ (-(-124 : Int)) = 53 by decide), if_neg (show ¬ (-(-124 : Int)) = 54 by decide), if_neg (show ¬ (-(-124 : Int)) = 55 by decide), if_neg (show ¬ (-(-124 : Int)) = 56 by decide), if_neg (show ¬ (-(-124 : Int)) = 57 by decide), if_neg (show ¬ (-(-124 : Int)) = 58 by decide), if_neg (show ¬ (-(-124 : Int)) = 59 by decide), if_neg (show ¬ (-(-124 : Int)) = 60 by decide), if_neg (show ¬ (-(-124 : Int)) = 61 by decide), if_neg (show ¬ (-(-124 : Int)) = 62 by decide)]
    by_cases h : x = 0 <;> by_cases g : y = 0 <;> simp [h, g, e_X2_joined_211]
  · have e : ybo (ytrc (-38)) x y = (if x = 0 then 0 else if y = 0 then 0 else 1) := rfl
    rw [e, if_neg (show ¬ (-(-38 : Int)) = 37 by decide), if_pos (show (-(-38 : Int)) = 38 by decide)]
    by_cases h : x = 0 <;> by_cases g : y = 0 <;> simp [h, g]
  · have e : ybo (ytrc (-60)) x y = (if x < y then 1 else 0) := rfl
    rw [e, if_neg (show ¬ (-(-60 : Int)) = 37 by decide), if_neg (show ¬ (-(-60 : Int)) = 38 by decide), if_neg (show ¬ (-(-60 : Int)) = 39 by decide), if_neg (show ¬ (-(-60 : Int)) = 40 by decide), if_neg (show ¬ (-(-60 : Int)) = 41 by decide), if_neg (show ¬ (-(-60 : Int)) = 42 by decide), if_neg (show ¬ (-(-60 : Int)) = 43 by decide), if_neg (show ¬ (-(-60 : Int)) = 44 by decide), if_neg (show ¬ (-(-60 : Int)) = 45 by decide), if_neg (show ¬ (-(-60 : Int)) = 46 by decide), if_neg (show ¬ (-(-60 : Int)) = 47 by decide), if_neg (show ¬ (-(-60 : Int)) = 48 by decide), if_neg (show ¬ (-(-60 : Int)) = 49 by decide), if_neg (show ¬ (-(-60 : Int)) = 50 by decide), if_neg (show ¬ (-(-60 : Int)) = 51 by decide), if_neg (show ¬ (-(-60 : Int)) = 52 by decide), if_neg (show ¬ (-(-60 : Int)) = 53 by decide), if_neg (show ¬ (-(-60 : Int)) = 54 by decide), if_neg (show ¬ (-(-60 : Int)) = 55 by decide), if_neg (show ¬ (-(-60 : Int)) = 56 by decide), if_neg (show ¬ (-(-60 : Int)) = 57 by decide), if_neg (show ¬ (-(-60 : Int)) = 58 by decide), if_neg (show ¬ (-(-60 : Int)) = 59 by decide), if_pos (show (-(-60 : Int)) = 60 by decide)]
    exact y_ri
  · have e : ybo (ytrc (-61)) x y = (if x = y then 1 else 0) := rfl
    rw [e, if_neg (show ¬ (-(-61 : Int)) = 37 by decide), if_neg (show ¬ (-(-61 : Int)) = 38 by decide), if_neg (show ¬ (-(-61 : Int)) = 39 by decide), if_neg (show ¬ (-(-61 : Int)) = 40 by decide), if_neg (show ¬ (-(-61 : Int)) = 41 by decide), if_neg (show ¬ (-(-61 : Int)) = 42 by decide), if_neg (show ¬ (-(-61 : Int)) = 43 by decide), if_neg (show ¬ (-(-61 : Int)) = 44 by decide), if_neg (show ¬ (-(-61 : Int)) = 45 by decide), if_neg (show ¬ (-(-61 : Int)) = 46 by decide), if_neg (show ¬ (-(-61 : Int)) = 47 by decide), if_neg (show ¬ (-(-61 : Int)) = 48 by decide), if_neg (show ¬ (-(-61 : Int)) = 49 by decide), if_neg (show ¬ (-(-61 : Int)) = 50 by decide), if_neg (show ¬ (-(-61 : Int)) = 51 by decide), if_neg (show ¬ (-(-61 : Int)) = 52 by decide), if_neg (show ¬ (-(-61 : Int)) = 53 by decide), if_neg (show ¬ (-(-61 : Int)) = 54 by decide), if_neg (show ¬ (-(-61 : Int)) = 55 by decide), if_neg (show ¬ (-(-61 : Int)) = 56 by decide), if_neg (show ¬ (-(-61 : Int)) = 57 by decide), if_neg (show ¬ (-(-61 : Int)) = 58 by decide), if_neg (show ¬ (-(-61 : Int)) = 59 by decide), if_neg (show ¬ (-(-61 : Int)) = 60 by decide), if_pos (show (-(-61 : Int)) = 61 by decide)]
    exact y_ri
  · have e : ybo (ytrc (-62)) x y = (if y < x then 1 else 0) := rfl
    rw [e, if_neg (show ¬ (-(-62 : Int)) = 37 by decide), if_neg (show ¬ (-(-62 : Int)) = 38 by decide), if_neg (show ¬ (-(-62 : Int)) = 39 by decide), if_neg (show ¬ (-(-62 : Int)) = 40 by decide), if_neg (show ¬ (-(-62 : Int)) = 41 by decide), if_neg (show ¬ (-(-62 : Int)) = 42 by decide), if_neg (show ¬ (-(-62 : Int)) = 43 by decide), if_neg (show ¬ (-(-62 : Int)) = 44 by decide), if_neg (show ¬ (-(-62 : Int)) = 45 by decide), if_neg (show ¬ (-(-62 : Int)) = 46 by decide), if_neg (show ¬ (-(-62 : Int)) = 47 by decide), if_neg (show ¬ (-(-62 : Int)) = 48 by decide), if_neg (show ¬ (-(-62 : Int)) = 49 by decide), if_neg (show ¬ (-(-62 : Int)) = 50 by decide), if_neg (show ¬ (-(-62 : Int)) = 51 by decide), if_neg (show ¬ (-(-62 : Int)) = 52 by decide), if_neg (show ¬ (-(-62 : Int)) = 53 by decide), if_neg (show ¬ (-(-62 : Int)) = 54 by decide), if_neg (show ¬ (-(-62 : Int)) = 55 by decide), if_neg (show ¬ (-(-62 : Int)) = 56 by decide), if_neg (show ¬ (-(-62 : Int)) = 57 by decide), if_neg (show ¬ (-(-62 : Int)) = 58 by decide), if_neg (show ¬ (-(-62 : Int)) = 59 by decide), if_neg (show ¬ (-(-62 : Int)) = 60 by decide), if_neg (show ¬ (-(-62 : Int)) = 61 by decide), if_pos (show (-(-62 : Int)) = 62 by decide)]
    exact y_ri
  · have e : ybo (ytrc (-43)) x y = (zw (x + y)) := rfl
    rw [e, if_neg (show ¬ (-(-43 : Int)) = 37 by decide), if_neg (show ¬ (-(-43 : Int)) = 38 by decide), if_neg (show ¬ (-(-43 : Int)) = 39 by decide), if_neg (show ¬ (-(-43 : Int)) = 40 by decide), if_neg (show ¬ (-(-43 : Int)) = 41 by decide), if_neg (show ¬ (-(-43 : Int)) = 42 by decide), if_pos (show (-(-43 : Int)) = 43 by decide)]
  · have e : ybo (ytrc (-45)) x y = (zw (x - y)) := rfl
    rw [e, if_neg (show ¬ (-(-45 : Int)) = 37 by decide), if_neg (show ¬ (-(-45 : Int)) = 38 by decide), if_neg (show ¬ (-(-45 : Int)) = 39 by decide), if_neg (show ¬ (-(-45 : Int)) = 40 by decide), if_neg (show ¬ (-(-45 : Int)) = 41 by decide), if_neg (show ¬ (-(-45 : Int)) = 42 by decide), if_neg (show ¬ (-(-45 : Int)) = 43 by decide), if_neg (show ¬ (-(-45 : Int)) = 44 by decide), if_pos (show (-(-45 : Int)) = 45 by decide)]
  · have e : ybo (ytrc (-42)) x y = (zw (x * y)) := rfl
    rw [e, if_neg (show ¬ (-(-42 : Int)) = 37 by decide), if_neg (show ¬ (-(-42 : Int)) = 38 by decide), if_neg (show ¬ (-(-42 : Int)) = 39 by decide), if_neg (show ¬ (-(-42 : Int)) = 40 by decide), if_neg (show ¬ (-(-42 : Int)) = 41 by decide), if_pos (show (-(-42 : Int)) = 42 by decide)]
  · have e : ybo (ytrc (-47)) x y = (if y = 0 then 0 else zdiv x y) := rfl
    rw [e, if_neg (show ¬ (-(-47 : Int)) = 37 by decide), if_neg (show ¬ (-(-47 : Int)) = 38 by decide), if_neg (show ¬ (-(-47 : Int)) = 39 by decide), if_neg (show ¬ (-(-47 : Int)) = 40 by decide), if_neg (show ¬ (-(-47 : Int)) = 41 by decide), if_neg (show ¬ (-(-47 : Int)) = 42 by decide), if_neg (show ¬ (-(-47 : Int)) = 43 by decide), if_neg (show ¬ (-(-47 : Int)) = 44 by decide), if_neg (show ¬ (-(-47 : Int)) = 45 by decide), if_neg (show ¬ (-(-47 : Int)) = 46 by decide), if_pos (show (-(-47 : Int)) = 47 by decide)]
    by_cases g : y = 0 <;> simp [g]
  · have e : ybo (ytrc (-37)) x y = (if y = 0 then 0 else zrem x y) := rfl
    rw [e, if_pos (show (-(-37 : Int)) = 37 by decide)]
    by_cases g : y = 0 <;> simp [g]
theorem m_both {d : Nat} (hd : 1 ≤ d) (c x y : Int) (σ : zF) : zx d 186 [.inr (.inl c), .inr (.inl x), .inr (.inl y)] σ = zri (ybo c x y) σ := by
  obtain ⟨d, rfl, -⟩ := y_d (k := 0) hd
  rw [e_X12_both]
  unfold ybo
  by_cases c6 : c = 6
  · rw [if_pos c6, if_pos c6]
    by_cases h : x = 0 <;> by_cases g : y = 0 <;> simp [h, g]
  · rw [if_neg c6, if_neg c6]
    by_cases c7 : c = 7
    · rw [if_pos c7, if_pos c7]
      by_cases h : x = 0 <;> by_cases g : y = 0 <;> simp [h, g]
    · rw [if_neg c7, if_neg c7]
      by_cases c8 : c = 8
      · rw [if_pos c8, if_pos c8, y_ri]
      · rw [if_neg c8, if_neg c8]
        by_cases c9 : c = 9
        · rw [if_pos c9, if_pos c9, y_ri]
        · rw [if_neg c9, if_neg c9]
          by_cases c10 : c = 10
          · rw [if_pos c10, if_pos c10, y_ri]
          · rw [if_neg c10, if_neg c10]
            by_cases c11 : c = 11
            · rw [if_pos c11, if_pos c11]
            · rw [if_neg c11, if_neg c11]
              by_cases c12 : c = 12
              · rw [if_pos c12, if_pos c12]
              · rw [if_neg c12, if_neg c12]
                by_cases c13 : c = 13
                · rw [if_pos c13, if_pos c13]
                · rw [if_neg c13, if_neg c13]
                  by_cases c14 : c = 14
                  · rw [if_pos c14, if_pos c14]
                    by_cases g : y = 0 <;> simp [g]
                  · rw [if_neg c14, if_neg c14]
                    by_cases g : y = 0 <;> simp [g]
/-! one step of a code -/
abbrev yAev : List Nat × List (Nat × Int) := ([16], [(14, 3)])
def yNc (l m j n r k : Int) (i : Int) : Int := if i = 0 then l else if i = 1 then m else if i = 2 then j else if i = 3 then n else if i = 4 then r else k
theorem c_st {d : Nat} (hd : 1 ≤ d) {l m j n r k y7 s : Int} {S S' : List Int} {σ : zF} (hl : ylg s) (h15 : σ 15 y7 = s) (hy : 0 ≤ y7 ∧ y7 < σ 14 1 ∧ σ 14 1 ≤ 121) (hn : σ 14 3 = S.length) (hS : (S.length : Int) ≤ y7) (hk : ySk (σ 16) S) (he : yst (yNc l m j n r k) s S = some S') : ∃ t, P_X2_work_19 d l m j n r k y7 σ = P_X2_work_19 d l m j n r k (y7 + 1) t ∧ t 14 3 = S'.length ∧ (S'.length : Int) ≤ y7 + 1 ∧ ySk (t 16) S' ∧ yf yAev σ t := by
  have sl : (0 : Int) ≤ (S.length : Int) ∧ (S.length : Int) < 121 := by omega
  -- a value comes
  have push : ∀ v : Int, S' = v :: S → ∃ t, zx d 13 [.inl (some 14), .inr (.inl v)] σ = zrv t ∧ t 14 3 = S'.length ∧ (S'.length : Int) ≤ y7 + 1 ∧ ySk (t 16) S' ∧ yf yAev σ t := fun v e => by
    rw [e, c_push hd hn sl]
    refine ⟨_, rfl, by rw [zset_hit rfl, List.length_cons]; rfl, by rw [List.length_cons]; omega, ⟨?_, ySk_cg S (fun i i0 i1 => ?_) hk⟩, yf_set (yf_set yf_rf rfl) rfl⟩
    · rw [zset_k (by decide), zset_hit rfl]
    · rw [zset_k (by decide), zset_off (by omega)]
  have z : zw (y7 + 1) = y7 + 1 := zw_i (by omega) (by omega)
  rw [e_X2_work_19, if_pos hy.2.1, if_pos (by omega), h15, z]
  rcases hl with hl | hl | hl | hl
  · have e : S' = s :: S := by
      unfold yst at he
      rw [if_pos hl.1, Option.some.injEq] at he
      exact he.symm
    obtain ⟨t, e1, t1⟩ := push s e
    rw [zw_i (x := -s) (by omega) (by omega), if_neg (by omega), if_neg (by omega), if_neg (by omega), if_neg (by omega), if_neg (by omega), if_neg (by omega), if_neg (by omega), if_neg (by omega), if_neg (by omega), if_neg (by omega), if_neg (by omega), e1, zCV_rv]
    exact ⟨t, rfl, t1⟩
  · have name : ∀ v : Int, some (v :: S) = some S' → ∃ t, (zCV LAY (zx d 13 [.inl (some 14), .inr (.inl v)] σ) fun s119 => P_X2_work_19 d l m j n r k (y7 + 1) s119) = P_X2_work_19 d l m j n r k (y7 + 1) t ∧ t 14 3 = S'.length ∧ (S'.length : Int) ≤ y7 + 1 ∧ ySk (t 16) S' ∧ yf yAev σ t := fun v e => by
      rw [Option.some.injEq] at e
      obtain ⟨t, e1, t1⟩ := push v e.symm
      rw [e1, zCV_rv]
      exact ⟨t, rfl, t1⟩
    rcases hl with rfl | rfl | rfl | rfl | rfl | rfl
    · rw [if_neg (show ¬ zw (-(-108 : Int)) = 33 by decide), if_neg (show ¬ zw (-(-108 : Int)) = 59 by decide), if_neg (show ¬ zw (-(-108 : Int)) = 63 by decide), if_neg (show ¬ zw (-(-108 : Int)) = 106 by decide), if_neg (show ¬ zw (-(-108 : Int)) = 107 by decide), if_pos (show zw (-(-108 : Int)) = 108 by decide)]
      exact name l he
    · rw [if_neg (show ¬ zw (-(-109 : Int)) = 33 by decide), if_neg (show ¬ zw (-(-109 : Int)) = 59 by decide), if_neg (show ¬ zw (-(-109 : Int)) = 63 by decide), if_neg (show ¬ zw (-(-109 : Int)) = 106 by decide), if_neg (show ¬ zw (-(-109 : Int)) = 107 by decide), if_neg (show ¬ zw (-(-109 : Int)) = 108 by decide), if_pos (show zw (-(-109 : Int)) = 109 by decide)]
      exact name m he
    · rw [if_neg (show ¬ zw (-(-106 : Int)) = 33 by decide), if_neg (show ¬ zw (-(-106 : Int)) = 59 by decide), if_neg (show ¬ zw (-(-106 : Int)) = 63 by decide), if_pos (show zw (-(-106 : Int)) = 106 by decide)]
      exact name j he
    · rw [if_neg (show ¬ zw (-(-110 : Int)) = 33 by decide), if_neg (show ¬ zw (-(-110 : Int)) = 59 by decide), if_neg (show ¬ zw (-(-110 : Int)) = 63 by decide), if_neg (show ¬ zw (-(-110 : Int)) = 106 by decide), if_neg (show ¬ zw (-(-110 : Int)) = 107 by decide), if_neg (show ¬ zw (-(-110 : Int)) = 108 by decide), if_neg (show ¬ zw (-(-110 : Int)) = 109 by decide), if_pos (show zw (-(-110 : Int)) = 110 by decide)]
      exact name n he
    · rw [if_neg (show ¬ zw (-(-114 : Int)) = 33 by decide), if_neg (show ¬ zw (-(-114 : Int)) = 59 by decide), if_neg (show ¬ zw (-(-114 : Int)) = 63 by decide), if_neg (show ¬ zw (-(-114 : Int)) = 106 by decide), if_neg (show ¬ zw (-(-114 : Int)) = 107 by decide), if_neg (show ¬ zw (-(-114 : Int)) = 108 by decide), if_neg (show ¬ zw (-(-114 : Int)) = 109 by decide), if_neg (show ¬ zw (-(-114 : Int)) = 110 by decide), if_pos (show zw (-(-114 : Int)) = 114 by decide)]
      exact name r he
    · rw [if_neg (show ¬ zw (-(-107 : Int)) = 33 by decide), if_neg (show ¬ zw (-(-107 : Int)) = 59 by decide), if_neg (show ¬ zw (-(-107 : Int)) = 63 by decide), if_neg (show ¬ zw (-(-107 : Int)) = 106 by decide), if_pos (show zw (-(-107 : Int)) = 107 by decide)]
      exact name k he
  · rcases S with _ | ⟨y, R⟩
    · rcases hl with rfl | rfl <;> exact absurd he (by simp [yst, ytrc])
    · rw [List.length_cons] at hn hS sl
      have pp := c_pop hd hn (by omega)
      rw [show ((R.length + 1 : Nat) : Int) - 1 = (R.length : Int) by omega, hk.1] at pp
      have un : ∀ v : Int, some (v :: R) = some S' → ∃ t, zx d 13 [.inl (some 14), .inr (.inl v)] (zset σ 14 3 (R.length : Int)) = zrv t ∧ t 14 3 = S'.length ∧ (S'.length : Int) ≤ y7 + 1 ∧ ySk (t 16) S' ∧ yf yAev σ t := fun v e => by
        rw [Option.some.injEq] at e
        rw [← e, c_push hd (zset_hit rfl) (by omega)]
        refine ⟨_, rfl, by rw [zset_hit rfl, List.length_cons]; rfl, by rw [List.length_cons]; omega, ⟨?_, ySk_cg R (fun i i0 i1 => ?_) hk.2⟩, yf_set (yf_set (yf_set yf_rf rfl) rfl) rfl⟩
        · rw [zset_k (by decide), zset_hit rfl]
        · rw [zset_k (by decide), zset_off (by omega), zset_k (by decide)]
      rcases hl with rfl | rfl
      · have he' : some ((if y = 0 then 1 else 0) :: R) = some S' := he
        rw [if_pos (show zw (-(-33 : Int)) = 33 from rfl), pp, zCI_ri]
        by_cases q : y = 0
        · rw [if_pos q] at he' ⊢
          obtain ⟨t, e1, t1⟩ := un 1 he'
          rw [e1, zCV_rv]
          exact ⟨t, rfl, t1⟩
        · rw [if_neg q] at he' ⊢
          obtain ⟨t, e1, t1⟩ := un 0 he'
          rw [e1, zCV_rv]
          exact ⟨t, rfl, t1⟩
      · have he' : some (zw (-y) :: R) = some S' := he
        obtain ⟨t, e1, t1⟩ := un _ he'
        refine ⟨t, ?_, t1⟩
        rw [if_neg (show ¬ zw (-(-126 : Int)) = 33 by decide), if_neg (show ¬ zw (-(-126 : Int)) = 59 by decide), if_neg (show ¬ zw (-(-126 : Int)) = 63 by decide), if_neg (show ¬ zw (-(-126 : Int)) = 106 by decide), if_neg (show ¬ zw (-(-126 : Int)) = 107 by decide), if_neg (show ¬ zw (-(-126 : Int)) = 108 by decide), if_neg (show ¬ zw (-(-126 : Int)) = 109 by decide), if_neg (show ¬ zw (-(-126 : Int)) = 110 by decide), if_neg (show ¬ zw (-(-126 : Int)) = 114 by decide), if_pos (show zw (-(-126 : Int)) = 126 by decide), pp, zCI_ri, e1, zCV_rv]
  · rcases S with _ | ⟨y, _ | ⟨x, R⟩⟩
    · rcases hl with rfl | rfl | rfl | rfl | rfl | rfl | rfl | rfl | rfl | rfl <;> exact absurd he (by simp [yst, ytrc])
    · rcases hl with rfl | rfl | rfl | rfl | rfl | rfl | rfl | rfl | rfl | rfl <;> exact absurd he (by simp [yst, ytrc])
    · rw [List.length_cons, List.length_cons] at hn hS sl
      have pp := c_pop hd hn (by omega)
      have p2 := c_pop (σ := zset σ 14 3 ((R.length : Int) + 1)) hd (zset_hit rfl) (by omega)
      have k1 := hk.1
      have k2 := hk.2.1
      rw [List.length_cons] at k1
      rw [show ((R.length + 1 + 1 : Nat) : Int) - 1 = (R.length : Int) + 1 by omega, show (R.length : Int) + 1 = ((R.length + 1 : Nat) : Int) by omega, k1, show ((R.length + 1 : Nat) : Int) = (R.length : Int) + 1 by omega] at pp
      rw [show (R.length : Int) + 1 - 1 = (R.length : Int) by omega, zset_k (by decide), k2] at p2
      have go : some (ybo (ytrc s) x y :: R) = some S' → zw (-s) = -s → ∃ t, (zCI LAY (zx d 14 [.inl (some 14)] σ) fun r102 s101 => zCI LAY (zx d 14 [.inl (some 14)] s101) fun r104 s103 => zCI LAY (zx d 12 [.inr (.inl (zw (-s))), .inr (.inl r104), .inr (.inl r102)] s103) fun r106 s105 => zCV LAY (zx d 13 [.inl (some 14), .inr (.inl r106)] s105) fun s107 => P_X2_work_19 d l m j n r k (y7 + 1) s107) = P_X2_work_19 d l m j n r k (y7 + 1) t ∧ t 14 3 = S'.length ∧ (S'.length : Int) ≤ y7 + 1 ∧ ySk (t 16) S' ∧ yf yAev σ t := fun e ez => by
        rw [Option.some.injEq] at e
        rw [pp, zCI_ri, p2, zCI_ri, ez, c_join hd hl, zCI_ri, c_push hd (zset_hit rfl) (by omega), zCV_rv, ← e]
        refine ⟨_, rfl, by rw [zset_hit rfl, List.length_cons]; rfl, by rw [List.length_cons]; omega, ⟨?_, ySk_cg R (fun i i0 i1 => ?_) hk.2.2⟩, yf_set (yf_set (yf_set (yf_set yf_rf rfl) rfl) rfl) rfl⟩
        · rw [zset_k (by decide), zset_hit rfl]
        · rw [zset_k (by decide), zset_off (by omega), zset_k (by decide), zset_k (by decide)]
      rcases hl with rfl | rfl | rfl | rfl | rfl | rfl | rfl | rfl | rfl | rfl
      · rw [if_neg (show ¬ zw (-(-124 : Int)) = 33 by decide), if_neg (show ¬ zw (-(-124 : Int)) = 59 by decide), if_neg (show ¬ zw (-(-124 : Int)) = 63 by decide), if_neg (show ¬ zw (-(-124 : Int)) = 106 by decide), if_neg (show ¬ zw (-(-124 : Int)) = 107 by decide), if_neg (show ¬ zw (-(-124 : Int)) = 108 by decide), if_neg (show ¬ zw (-(-124 : Int)) = 109 by decide), if_neg (show ¬ zw (-(-124 : Int)) = 110 by decide), if_neg (show ¬ zw (-(-124 : Int)) = 114 by decide), if_neg (show ¬ zw (-(-124 : Int)) = 126 by decide), if_pos (show (-124 : Int) < 0 by decide)]
        exact go he rfl
      · rw [if_neg (show ¬ zw (-(-38 : Int)) = 33 by decide), if_neg (show ¬ zw (-(-38 : Int)) = 59 by decide), if_neg (show ¬ zw (-(-38 : Int)) = 63 by decide), if_neg (show ¬ zw (-(-38 : Int)) = 106 by decide), if_neg (show ¬ zw (-(-38 : Int)) = 107 by decide), if_neg (show ¬ zw (-(-38 : Int)) = 108 by decide), if_neg (show ¬ zw (-(-38 : Int)) = 109 by decide), if_neg (show ¬ zw (-(-38 : Int)) = 110 by decide), if_neg (show ¬ zw (-(-38 : Int)) = 114 by decide), if_neg (show ¬ zw (-(-38 : Int)) = 126 by decide), if_pos (show (-38 : Int) < 0 by decide)]
        exact go he rfl
      · rw [if_neg (show ¬ zw (-(-60 : Int)) = 33 by decide), if_neg (show ¬ zw (-(-60 : Int)) = 59 by decide), if_neg (show ¬ zw (-(-60 : Int)) = 63 by decide), if_neg (show ¬ zw (-(-60 : Int)) = 106 by decide), if_neg (show ¬ zw (-(-60 : Int)) = 107 by decide), if_neg (show ¬ zw (-(-60 : Int)) = 108 by decide), if_neg (show ¬ zw (-(-60 : Int)) = 109 by decide), if_neg (show ¬ zw (-(-60 : Int)) = 110 by decide), if_neg (show ¬ zw (-(-60 : Int)) = 114 by decide), if_neg (show ¬ zw (-(-60 : Int)) = 126 by decide), if_pos (show (-60 : Int) < 0 by decide)]
        exact go he rfl
      · rw [if_neg (show ¬ zw (-(-61 : Int)) = 33 by decide), if_neg (show ¬ zw (-(-61 : Int)) = 59 by decide), if_neg (show ¬ zw (-(-61 : Int)) = 63 by decide), if_neg (show ¬ zw (-(-61 : Int)) = 106 by decide), if_neg (show ¬ zw (-(-61 : Int)) = 107 by decide), if_neg (show ¬ zw (-(-61 : Int)) = 108 by decide), if_neg (show ¬ zw (-(-61 : Int)) = 109 by decide), if_neg (show ¬ zw (-(-61 : Int)) = 110 by decide), if_neg (show ¬ zw (-(-61 : Int)) = 114 by decide), if_neg (show ¬ zw (-(-61 : Int)) = 126 by decide), if_pos (show (-61 : Int) < 0 by decide)]
        exact go he rfl
      · rw [if_neg (show ¬ zw (-(-62 : Int)) = 33 by decide), if_neg (show ¬ zw (-(-62 : Int)) = 59 by decide), if_neg (show ¬ zw (-(-62 : Int)) = 63 by decide), if_neg (show ¬ zw (-(-62 : Int)) = 106 by decide), if_neg (show ¬ zw (-(-62 : Int)) = 107 by decide), if_neg (show ¬ zw (-(-62 : Int)) = 108 by decide), if_neg (show ¬ zw (-(-62 : Int)) = 109 by decide), if_neg (show ¬ zw (-(-62 : Int)) = 110 by decide), if_neg (show ¬ zw (-(-62 : Int)) = 114 by decide), if_neg (show ¬ zw (-(-62 : Int)) = 126 by decide), if_pos (show (-62 : Int) < 0 by decide)]
        exact go he rfl
      · rw [if_neg (show ¬ zw (-(-43 : Int)) = 33 by decide), if_neg (show ¬ zw (-(-43 : Int)) = 59 by decide), if_neg (show ¬ zw (-(-43 : Int)) = 63 by decide), if_neg (show ¬ zw (-(-43 : Int)) = 106 by decide), if_neg (show ¬ zw (-(-43 : Int)) = 107 by decide), if_neg (show ¬ zw (-(-43 : Int)) = 108 by decide), if_neg (show ¬ zw (-(-43 : Int)) = 109 by decide), if_neg (show ¬ zw (-(-43 : Int)) = 110 by decide), if_neg (show ¬ zw (-(-43 : Int)) = 114 by decide), if_neg (show ¬ zw (-(-43 : Int)) = 126 by decide), if_pos (show (-43 : Int) < 0 by decide)]
        exact go he rfl
      · rw [if_neg (show ¬ zw (-(-45 : Int)) = 33 by decide), if_neg (show ¬ zw (-(-45 : Int)) = 59 by decide), if_neg (show ¬ zw (-(-45 : Int)) = 63 by decide), if_neg (show ¬ zw (-(-45 : Int)) = 106 by decide), if_neg (show ¬ zw (-(-45 : Int)) = 107 by decide), if_neg (show ¬ zw (-(-45 : Int)) = 108 by decide), if_neg (show ¬ zw (-(-45 : Int)) = 109 by decide), if_neg (show ¬ zw (-(-45 : Int)) = 110 by decide), if_neg (show ¬ zw (-(-45 : Int)) = 114 by decide), if_neg (show ¬ zw (-(-45 : Int)) = 126 by decide), if_pos (show (-45 : Int) < 0 by decide)]
        exact go he rfl
      · rw [if_neg (show ¬ zw (-(-42 : Int)) = 33 by decide), if_neg (show ¬ zw (-(-42 : Int)) = 59 by decide), if_neg (show ¬ zw (-(-42 : Int)) = 63 by decide), if_neg (show ¬ zw (-(-42 : Int)) = 106 by decide), if_neg (show ¬ zw (-(-42 : Int)) = 107 by decide), if_neg (show ¬ zw (-(-42 : Int)) = 108 by decide), if_neg (show ¬ zw (-(-42 : Int)) = 109 by decide), if_neg (show ¬ zw (-(-42 : Int)) = 110 by decide), if_neg (show ¬ zw (-(-42 : Int)) = 114 by decide), if_neg (show ¬ zw (-(-42 : Int)) = 126 by decide), if_pos (show (-42 : Int) < 0 by decide)]
        exact go he rfl
      · rw [if_neg (show ¬ zw (-(-47 : Int)) = 33 by decide), if_neg (show ¬ zw (-(-47 : Int)) = 59 by decide), if_neg (show ¬ zw (-(-47 : Int)) = 63 by decide), if_neg (show ¬ zw (-(-47 : Int)) = 106 by decide), if_neg (show ¬ zw (-(-47 : Int)) = 107 by decide), if_neg (show ¬ zw (-(-47 : Int)) = 108 by decide), if_neg (show ¬ zw (-(-47 : Int)) = 109 by decide), if_neg (show ¬ zw (-(-47 : Int)) = 110 by decide), if_neg (show ¬ zw (-(-47 : Int)) = 114 by decide), if_neg (show ¬ zw (-(-47 : Int)) = 126 by decide), if_pos (show (-47 : Int) < 0 by decide)]
        exact go he rfl
      · rw [if_neg (show ¬ zw (-(-37 : Int)) = 33 by decide), if_neg (show ¬ zw (-(-37 : Int)) = 59 by decide), if_neg (show ¬ zw (-(-37 : Int)) = 63 by decide), if_neg (show ¬ zw (-(-37 : Int)) = 106 by decide), if_neg (show ¬ zw (-(-37 : Int)) = 107 by decide), if_neg (show ¬ zw (-(-37 : Int)) = 108 by decide), if_neg (show ¬ zw (-(-37 : Int)) = 109 by decide), if_neg (show ¬ zw (-(-37 : Int)) = 110 by decide), if_neg (show ¬ zw (-(-37 : Int)) = 114 by decide), if_neg (show ¬ zw (-(-37 : Int)) = 126 by decide), if_pos (show (-37 : Int) < 0 by decide)]
        exact go he rfl
