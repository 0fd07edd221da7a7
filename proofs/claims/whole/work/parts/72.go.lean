/-! rounds: all orders -/
def yGC (S : Int) (R : Int → Prop) (W : Int → Int → Int) (st b : Int) (ord : Int → Int) (σ : zF) : Prop := σ 27 4 = S ∧ σ 27 5 = b ∧ (∀ a c, R a → 0 ≤ c → c < 8 → σ 28 (a * 8 + c) = W a c) ∧ ∀ j, 0 ≤ j → j < st → σ 30 j = ord j
def yGM (wh : Int → Int) (V : Int → Int → Int) (st b : Int) (ord : Int → Int) (σ : zF) : Prop := σ 57 50 = st ∧ σ 57 54 = b ∧ (∀ k, 0 ≤ k → k < st → σ 89 k = wh k) ∧ (∀ a c, 0 ≤ a → a < 8 → 0 ≤ c → c < 8 → σ 88 (8 * a + c) = V a c) ∧ ∀ j, 0 ≤ j → j < st → σ 91 j = ord j
def yRB (st b : Int) (ord : Int → Int) (b' : Int) (ord' : Int → Int) : Prop := b = 1000000 ∧ b' = 9999 ∨ b = b' ∧ 0 ≤ b ∧ b ≤ 4158 ∧ ∀ j, 0 ≤ j → j < st → ord j = ord' j
abbrev yAgc : List Nat × List (Nat × Int) := ([29, 30], [(27, 5)])
abbrev yAgm : List Nat × List (Nat × Int) := ([90, 91], [(57, 54)])
theorem yGC_29 {S : Int} {R : Int → Prop} {W : Int → Int → Int} {st b i v : Int} {ord : Int → Int} {σ : zF} (h : yGC S R W st b ord σ) : yGC S R W st b ord (zset σ 29 i v) := by
  obtain ⟨h1, h2, h3, h4⟩ := h
  refine ⟨?_, ?_, fun a c ra c0 c1 => ?_, fun j j0 j1 => ?_⟩
  · rw [zset_k (by decide)]; exact h1
  · rw [zset_k (by decide)]; exact h2
  · rw [zset_k (by decide)]; exact h3 a c ra c0 c1
  · rw [zset_k (by decide)]; exact h4 j j0 j1
theorem yGM_90 {wh : Int → Int} {V : Int → Int → Int} {st b i v : Int} {ord : Int → Int} {σ : zF} (h : yGM wh V st b ord σ) : yGM wh V st b ord (zset σ 90 i v) := by
  obtain ⟨h1, h2, h3, h4, h5⟩ := h
  refine ⟨?_, ?_, fun k k0 k1 => ?_, fun a c a0 a1 c0 c1 => ?_, fun j j0 j1 => ?_⟩
  · rw [zset_k (by decide)]; exact h1
  · rw [zset_k (by decide)]; exact h2
  · rw [zset_k (by decide)]; exact h3 k k0 k1
  · rw [zset_k (by decide)]; exact h4 a c a0 a1 c0 c1
  · rw [zset_k (by decide)]; exact h5 j j0 j1
/-- the end of an order, at index a * 8 + S -/
theorem c_fin {d : Nat} (hd : 1 ≤ d) {S : Int} {R : Int → Prop} {W : Int → Int → Int} {st b a h : Int} {ord : Int → Int} {σ : zF} (hS : 0 ≤ S ∧ S < 8) (ra : R a) (ab : 0 ≤ a ∧ a < 8) (w : 0 ≤ W a S ∧ W a S ≤ 1000000) (h0 : 0 ≤ h) (h1 : h ≤ 6000000) (hst : st ≤ 5) (hg : yGC S R W st b ord σ) : yT (if 0 ≤ zw ((zw (a * 8)) + (σ 27 4)) ∧ zw ((zw (a * 8)) + (σ 27 4)) < 64 then (zCV LAY (zx d 51 [.inl (some 27), .inr (.inl (zw (h + (σ 28 (zw ((zw (a * 8)) + (σ 27 4)))))))] σ) fun s1 => zrv s1) else none) (yV fun s => (¬ h + W a S < b → s = σ) ∧ (h + W a S < b → yGC S R W st (h + W a S) (fun j => σ 29 j) s ∧ (∀ j, s 29 j = σ 29 j) ∧ yf yAgc σ s)) := by
  obtain ⟨d, rfl, -⟩ := y_d (k := 0) hd
  obtain ⟨g1, g2, g3, g4⟩ := hg
  rw [g1, zw_i (x := a * 8) (by omega) (by omega), zw_i (x := a * 8 + S) (by omega) (by omega), g3 a S ra hS.1 hS.2, zw_i (x := h + W a S) (by omega) (by omega), e_X5_finish, g2]
  refine y_g (by omega) ?_
  by_cases q : h + W a S < b
  · rw [if_pos q, if_pos (by decide), zCV_rv]
    refine y_v ⟨fun n => absurd q n, fun _ => ⟨⟨?_, ?_, fun a c ra c0 c1 => ?_, fun j j0 j1 => ?_⟩, fun j => ?_, yf_cpy (yf_set yf_rf rfl) rfl⟩⟩
    · rw [zcpy_eq, if_neg (by omega), zset_off (by decide)]; exact g1
    · rw [zcpy_eq, if_neg (by omega), zset_hit rfl]
    · rw [zcpy_eq, if_neg (by omega), zset_k (by decide)]; exact g3 a c ra c0 c1
    · rw [zcpy_eq, if_pos (by omega), zset_k (by decide), show 0 + (j - 0) = j by omega]
    · rw [zcpy_eq, if_neg (by omega), zset_k (by decide)]
  · rw [if_neg q, zCV_rv]
    exact y_v ⟨fun _ => rfl, fun n => absurd n q⟩
theorem yb_not (x : Int) {n p : Nat} (hp : p < 31) (hn : n < 32) : yb (zand x (zxor (zshl 1 (p : Int)) (-1))) n = (yb x n && !decide (n = p)) := by
  rw [yb_and, yb_xor, yb_one p hp n hn]
  have : yb (-1) n = true := (by decide +kernel : ∀ i, i < 32 → yb (-1) i = true) n hn
  rw [this, Bool.xor_true]
theorem yb_not2 (x : Int) {p : Int} {n : Nat} (h0 : 0 ≤ p) (h1 : p < 31) (hn : n < 32) : yb (zand x (zxor (zshl 1 p) (-1))) n = true ↔ yb x n = true ∧ ¬ (n : Int) = p := by
  obtain ⟨k, rfl⟩ := Int.eq_ofNat_of_zero_le h0
  rw [yb_not x (by omega) hn, Bool.and_eq_true, Bool.not_eq_true', decide_eq_false_iff_not]
  exact ⟨fun h => ⟨h.1, by omega⟩, fun h => ⟨h.1, by omega⟩⟩
/-- nothing is found that takes as long as what was found before -/
theorem c_skip {S : Int} {R : Int → Prop} {W : Int → Int → Int} {st b : Int} {ord : Int → Int} (hS : 0 ≤ S ∧ S < 8) (hst : st ≤ 5) (hR : ∀ a, R a → 0 ≤ a ∧ a < 8) (hW : ∀ a c, 0 ≤ a → a < 8 → 0 ≤ c → c < 8 → 0 ≤ W a c ∧ W a c ≤ 1000000) : ∀ (m : Nat) (i a l h : Int) (d : Nat) (σ : zF), 0 ≤ i → i + m = 5 → 2 * m + 2 ≤ d → R a → (∀ p : Int, 0 ≤ p → p < 8 → yb l p.toNat = true → R p) → b ≤ h → 0 ≤ h → h ≤ 1000000 * i + 1000000 → yGC S R W st b ord σ → yT (zx d 50 [.inl (some 27), .inr (.inl a), .inr (.inl l), .inr (.inl h), .inr (.inl i)] σ) (yV fun s => yGC S R W st b ord s ∧ (∀ j, 0 ≤ j → j < i → s 29 j = σ 29 j) ∧ yf yAgc σ s) := by
  intro m
  induction m with
  | zero =>
    intro i a l h d σ i0 im hd ra hl hb h0 h1 hg
    obtain ⟨d, rfl, hd'⟩ := y_d (k := 1) (d := d) (by omega)
    have ab := hR a ra
    have w := hW a S ab.1 ab.2 hS.1 hS.2
    rw [e_X5_goOn]
    refine y_if (fun q => ?_) (fun q => y_n (by omega) (y_v ⟨hg, fun _ _ _ => rfl, yf_rf⟩))
    refine y_mV (c_fin (by omega) hS ra ab w h0 (by omega) hst hg) (fun s hs => ?_)
    rw [hs.1 (by omega)]
    exact ⟨hg, fun _ _ _ => rfl, yf_rf⟩
  | succ m ih =>
    intro i a l h d σ i0 im hd ra hl hb h0 h1 hg
    obtain ⟨d, rfl, hd'⟩ := y_d (k := 2 * m + 3) (d := d) (by omega)
    have ab := hR a ra
    have w := hW a S ab.1 ab.2 hS.1 hS.2
    rw [e_X5_goOn]
    refine y_if (fun q => ?_) (fun q => y_g (by omega) ?_)
    · refine y_mV (c_fin (by omega) hS ra ab w h0 (by omega) hst hg) (fun s hs => ?_)
      rw [hs.1 (by omega)]
      exact ⟨hg, fun _ _ _ => rfl, yf_rf⟩
    · have loop : ∀ (j : Nat) (p : Int) (s : zF), 0 ≤ p → p + j = 8 → yGC S R W st b ord s → (∀ j, 0 ≤ j → j < i → s 29 j = σ 29 j) → yf yAgc σ s → yT (P_X5_goOn_35 d a l h i p s) (yV fun s => yGC S R W st b ord s ∧ (∀ j, 0 ≤ j → j < i → s 29 j = σ 29 j) ∧ yf yAgc σ s) := by
        intro j
        induction j with
        | zero =>
          intro p s p0 pj g1 g2 g3
          rw [e_X5_goOn_35, if_neg (by omega)]
          exact y_v ⟨g1, g2, g3⟩
        | succ j jh =>
          intro p s p0 pj g1 g2 g3
          have w2 := hW a p ab.1 ab.2 p0 (by omega)
          rw [e_X5_goOn_35, if_pos (by omega), zw_i (x := p + 1) (by omega) (by omega)]
          refine y_if (fun e => y_g (by omega) ?_) (fun e => jh (p + 1) s (by omega) (by omega) g1 g2 g3)
          rw [yb_g1 p0 (by omega)] at e
          rw [zw_i (x := a * 8) (by omega) (by omega), zw_i (x := a * 8 + p) (by omega) (by omega), g1.2.2.1 a p ra p0 (by omega), zw_i (x := h + W a p) (by omega) (by omega), zw_i (x := i + 1) (by omega) (by omega)]
          refine y_g (by omega) (y_cV (ih (i + 1) p _ (h + W a p) d _ (by omega) (by omega) (by omega) (hl p p0 (by omega) e) (fun r r0 r1 hr => hl r r0 r1 ((yb_not2 l p0 (by omega) (by omega)).mp hr).1) (by omega) (by omega) (by omega) (yGC_29 g1)) (fun t ht => ?_))
          refine jh (p + 1) t (by omega) (by omega) ht.1 (fun k k0 k1 => ?_) (yf_tr (yf_set g3 rfl) ht.2.2)
          rw [ht.2.1 k k0 (by omega), zset_off (by omega)]
          exact g2 k k0 k1
      exact loop 8 0 σ (by omega) (by omega) hg (fun _ _ _ => rfl) yf_rf
/-- how many are not yet used -/
def ycu (u : Int) : Nat → Int
  | 0 => 0
  | k + 1 => ycu u k + if yb u k = true then 0 else 1
theorem ycu_b (u : Int) : ∀ k : Nat, 0 ≤ ycu u k ∧ ycu u k ≤ k
  | 0 => ⟨Int.le_refl _, Int.le_refl _⟩
  | k + 1 => by
    have := ycu_b u k
    unfold ycu
    split <;> omega
theorem ycu_0 {u : Int} : ∀ {k : Nat}, ycu u k = 0 → ∀ j, j < k → yb u j = true
  | 0, _, j, hj => absurd hj (by omega)
  | k + 1, h, j, hj => by
    have b := ycu_b u k
    unfold ycu at h
    by_cases q : yb u k = true
    · rw [if_pos q] at h
      by_cases e : j = k
      · rw [e]; exact q
      · exact ycu_0 (k := k) (by omega) j (by omega)
    · rw [if_neg q] at h
      omega
theorem ycu_p {u : Int} : ∀ {k : Nat}, 0 < ycu u k → ∃ j, j < k ∧ yb u j = false
  | 0, h => absurd h (by unfold ycu; omega)
  | k + 1, h => by
    unfold ycu at h
    by_cases q : yb u k = true
    · rw [if_pos q] at h
      obtain ⟨j, a, b⟩ := ycu_p (u := u) (k := k) (by omega)
      exact ⟨j, by omega, b⟩
    · exact ⟨k, by omega, by simpa using q⟩
theorem ycu_s {u q : Int} (q0 : 0 ≤ q) (q1 : q < 31) (h : yb u q.toNat = false) : ∀ k : Nat, k ≤ 31 → ycu (zor u (zshl 1 q)) k = ycu u k - if q < (k : Int) then 1 else 0
  | 0, _ => by rw [if_neg (by omega)]; rfl
  | k + 1, hk => by
    have ih := ycu_s q0 q1 h k (by omega)
    unfold ycu
    rw [ih, yb_or, yb_1 q0 q1]
    by_cases e : (k : Int) = q
    · have ek : k = q.toNat := by omega
      rw [ek, h, decide_eq_true (by omega)]
      simp
      rw [if_neg (by omega), if_pos (by omega)]
      omega
    · rw [decide_eq_false e, Bool.or_false]
      by_cases z : q < (k : Int)
      · rw [if_pos z, if_pos (show q < ((k + 1 : Nat) : Int) by omega)]
        generalize (if yb u k = true then (0 : Int) else 1) = w
        omega
      · rw [if_neg z, if_neg (show ¬ q < ((k + 1 : Nat) : Int) by omega)]
        generalize (if yb u k = true then (0 : Int) else 1) = w
        omega
