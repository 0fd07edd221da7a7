/-! the component's hours of a road -/
theorem c_isOpen {d : Nat} (hd : 1 ≤ d) {N σ : zF} (hC : yC N σ) {r : Int} (h0 : 0 ≤ r) (h1 : r < 12) : zx d 89 [.inl (some 17), .inr (.inl r)] σ = zri (if ypw N (σ 17 9) r = 0 then 1 else 0) σ := by
  obtain ⟨d, rfl, -⟩ := y_d hd
  rw [e_X9_isOpen, if_pos ⟨h0, h1⟩, (hC.2.2 r h0 h1).2.2.2.2.1]
  unfold ypw
  by_cases h : r = σ 17 9
  · rw [if_pos h, if_pos h]
    simp
  · rw [if_neg h, if_neg h]
    by_cases h2 : N 5 r = 0
    · rw [if_pos h2, if_pos h2]
    · rw [if_neg h2, if_neg h2]
theorem c_touch {d : Nat} (hd : 1 ≤ d) {N σ : zF} (hC : yC N σ) {r q : Int} (h0 : 0 ≤ r) (h1 : r < 12) (g0 : 0 ≤ q) (g1 : q < 12) : zx d 24 [.inl (some 1), .inr (.inl r), .inr (.inl q)] σ = zri (if N 1 q = N 1 r ∨ N 1 q = N 2 r ∨ N 2 q = N 1 r ∨ N 2 q = N 2 r then 1 else 0) σ := by
  obtain ⟨d, rfl, -⟩ := y_d hd
  have a := hC.2.2 r h0 h1
  have b := hC.2.2 q g0 g1
  rw [e_X3_touch, a.1, a.2.1, b.1, b.2.1]
  simp only [if_pos (show 0 ≤ r ∧ r < 12 from ⟨h0, h1⟩), if_pos (show 0 ≤ q ∧ q < 12 from ⟨g0, g1⟩)]
  by_cases e1 : N 1 q = N 1 r
  · rw [if_pos e1, if_pos (Or.inl e1)]
  · rw [if_neg e1]
    by_cases e2 : N 1 q = N 2 r
    · rw [if_pos e2, if_pos (Or.inr (Or.inl e2))]
    · rw [if_neg e2]
      by_cases e3 : N 2 q = N 1 r
      · rw [if_pos e3, if_pos (Or.inr (Or.inr (Or.inl e3)))]
      · rw [if_neg e3]
        by_cases e4 : N 2 q = N 2 r
        · rw [if_pos e4, if_pos (Or.inr (Or.inr (Or.inr e4)))]
        · rw [if_neg e4, if_neg]
          rintro (h | h | h | h) <;> contradiction
theorem c_cn_l {d : Nat} (hd : 1 ≤ d) {N σ : zF} (hB : yBn N) (hC : yC N σ) {r : Int} (h0 : 0 ≤ r) (h1 : r < 12) : ∀ j k : Nat, (k : Int) + j = N 0 0 → P_X9_countNeighbours_4 d r (ykn N (ypw N (σ 17 9)) r k) (k : Int) σ = zri (yKN N (ypw N (σ 17 9)) r) σ := by
  intro j
  have b1 := hB.2.1
  induction j with
  | zero =>
    intro k hk
    rw [e_X9_countNeighbours_4, hC.1, if_neg (by omega)]
    unfold yKN
    rw [show (N 0 0).toNat = k by omega]
  | succ j ih =>
    intro k hk
    have s : ykn N (ypw N (σ 17 9)) r (k + 1) = ykn N (ypw N (σ 17 9)) r k + if ¬ (k : Int) = r ∧ ypw N (σ 17 9) k = 0 ∧ (N 1 k = N 1 r ∨ N 1 k = N 2 r ∨ N 2 k = N 1 r ∨ N 2 k = N 2 r) then 1 else 0 := rfl
    have ih2 := ih (k + 1) (by omega)
    rw [Int.natCast_succ] at ih2
    have bk := ykn_b N (ypw N (σ 17 9)) r k
    rw [e_X9_countNeighbours_4, hC.1, if_pos (by omega), zw_i (x := (k : Int) + 1) (by omega) (by omega)]
    by_cases e : (k : Int) = r
    · rw [if_pos e]
      rw [s, if_neg (by rintro ⟨q, -⟩; exact q e), Int.add_zero] at ih2
      exact ih2
    · rw [if_neg e, c_isOpen hd hC (by omega) (by omega), zCI_ri, y01]
      by_cases e2 : ypw N (σ 17 9) k = 0
      · rw [if_pos e2, c_touch hd hC h0 h1 (by omega) (by omega), zCI_ri, y01]
        by_cases e3 : N 1 k = N 1 r ∨ N 1 k = N 2 r ∨ N 2 k = N 1 r ∨ N 2 k = N 2 r
        · rw [if_pos e3, zw_i (by omega) (by omega)]
          rw [s, if_pos ⟨e, e2, e3⟩] at ih2
          exact ih2
        · rw [if_neg e3]
          rw [s, if_neg (by rintro ⟨-, -, q⟩; exact e3 q), Int.add_zero] at ih2
          exact ih2
      · rw [if_neg e2]
        rw [s, if_neg (by rintro ⟨-, q, -⟩; exact e2 q), Int.add_zero] at ih2
        exact ih2
theorem c_cn {d : Nat} (hd : 2 ≤ d) {N σ : zF} (hB : yBn N) (hC : yC N σ) {r : Int} (h0 : 0 ≤ r) (h1 : r < 12) : zx d 92 [.inl (some 17), .inr (.inl r)] σ = zri (yKN N (ypw N (σ 17 9)) r) σ := by
  obtain ⟨d, rfl, hd'⟩ := y_d hd; have hd := hd'
  rw [e_X9_countNeighbours]
  exact c_cn_l (by omega) hB hC h0 h1 (N 0 0).toNat 0 (by have := hB.1; omega)
theorem zand3 {x : Int} (h0 : -9 ≤ x) (h1 : x ≤ 9) : 0 ≤ zand x 3 ∧ zand x 3 ≤ 3 := by
  have h : ∀ k, k < 19 → 0 ≤ zand ((k : Nat) - 9 : Int) 3 ∧ zand ((k : Nat) - 9 : Int) 3 ≤ 3 := by decide +kernel
  have := h (x + 9).toNat (by omega)
  rw [show (((x + 9).toNat : Nat) - 9 : Int) = x by omega] at this
  exact this
theorem c_workOut {d : Nat} (hd : 4 ≤ d) {N : zF} {G : yG} {w : Int} {σ : zF} {r : Int} (x y : Int) (hB : yBn N) (hC : yC N σ) (hL : yLC G σ) (hw : σ 17 9 = w) (hn : ∀ r, 0 ≤ r → r < 12 → σ 21 r = -1 ∨ σ 21 r = yKN N (ypw N w) r) (h0 : 0 ≤ r) (h1 : r < N 0 0) : yT (zx d 91 [.inl (some 17), .inr (.inl r), .inr (.inl x), .inr (.inl y)] σ) (yI fun v s => v = yHV N G (ypw N w) r x y ∧ (∀ r, 0 ≤ r → r < 12 → s 21 r = -1 ∨ s 21 r = yKN N (ypw N w) r) ∧ yf ([16, 21], [(14, 3)]) σ s) := by
  obtain ⟨d, rfl, hd'⟩ := y_d hd; have hd := hd'
  have b1 := hB.2.1
  have hr := hC.2.2 r h0 (by omega)
  rw [e_X9_workOut]
  refine y_g (by omega) (y_if (fun q => ?_) (fun q => ?_))
  · rw [c_cn (by omega) hB hC h0 (by omega), zCI_ri, hw, hr.2.2.1, hC.2.1]
    refine y_g (by omega) (y_g (by omega) (y_g (by omega) (y_g (by omega) ?_)))
    rw [zset_hit rfl]
    refine y_cI (hL d (by omega) (zset σ 21 r (yKN N (ypw N w) r)) rfl rfl _ _ _ _ _ _) (fun v s hs => y_i ⟨?_, ?_, ?_⟩)
    · rw [hs.1]
      rfl
    · intro c c0 c1
      rw [hs.2 21 c rfl]
      by_cases hc : c = r
      · rw [zset_hit hc, hc]
        exact Or.inr rfl
      · rw [zset_off hc]
        exact hn c c0 c1
    · exact yf_tr (yf_set yf_rf rfl) (yf_le hs.2 (by decide))
  · refine y_g (by omega) (y_g (by omega) (y_g (by omega) ?_))
    have e : σ 21 r = yKN N (ypw N w) r := (hn r h0 (by omega)).resolve_left q
    rw [hr.2.2.1, hC.2.1, e]
    refine y_cI (hL d (by omega) σ rfl rfl _ _ _ _ _ _) (fun v s hs => y_i ⟨?_, ?_, ?_⟩)
    · rw [hs.1]
      rfl
    · intro c c0 c1
      rw [hs.2 21 c rfl]
      exact hn c c0 c1
    · exact yf_le hs.2 (by decide)
abbrev yAt : List Nat × List (Nat × Int) := ([16, 19, 20, 21], [(14, 3)])
theorem ykey {T x y : Int} (hT : 0 ≤ T ∧ T ≤ 5000000) (hx : -9 ≤ x ∧ x ≤ 9) (hy : -9 ≤ y ∧ y ≤ 9) : zw ((zw ((zw ((zw ((zw ((zw (T * 19)) + x)) + 9)) * 19)) + y)) + 9) = (T * 19 + x + 9) * 19 + y + 9 := by
  rw [zw_i (x := T * 19) (by omega) (by omega), zw_i (x := T * 19 + x) (by omega) (by omega), zw_i (x := T * 19 + x + 9) (by omega) (by omega), zw_i (x := (T * 19 + x + 9) * 19) (by omega) (by omega), zw_i (x := (T * 19 + x + 9) * 19 + y) (by omega) (by omega), zw_i (by omega) (by omega)]
theorem yslot {r a b : Int} (hr : 0 ≤ r ∧ r < 12) (ha : 0 ≤ a ∧ a ≤ 3) (hb : 0 ≤ b ∧ b ≤ 3) : zw ((zw ((zw (r * 16)) + (zw (a * 4)))) + b) = r * 16 + a * 4 + b := by
  rw [zw_i (x := r * 16) (by omega) (by omega), zw_i (x := a * 4) (by omega) (by omega), zw_i (x := r * 16 + a * 4) (by omega) (by omega), zw_i (by omega) (by omega)]
/-- one look into the memory of hours, slot i, moods x and y -/
theorem c_tk {d : Nat} (hd : 4 ≤ d) {N : zF} {G : yG} {T w : Int} {m : Int → Int} {σ : zF} {r x y i : Int} (hX : yX N G T w m σ) (h0 : 0 ≤ r) (h1 : r < N 0 0) (hx : -9 ≤ x ∧ x ≤ 9) (hy : -9 ≤ y ∧ y ≤ 9) (hi : r * 16 ≤ i ∧ i < r * 16 + 16) : yT (if σ 20 i = (T * 19 + x + 9) * 19 + y + 9 then (if 0 ≤ i ∧ i < 192 then zri (σ 19 i) σ else none) else (if 0 ≤ i ∧ i < 192 then (zCI LAY (zx d 91 [.inl (some 17), .inr (.inl r), .inr (.inl x), .inr (.inl y)] (zset σ 20 i ((T * 19 + x + 9) * 19 + y + 9))) fun r4 s3 => if 0 ≤ i ∧ i < 192 then (if 0 ≤ i ∧ i < 192 then zri ((zset s3 19 i r4) 19 i) (zset s3 19 i r4) else none) else none) else none)) (yI fun v s => v = yHV N G (ypw N w) r x y ∧ yX N G T w m s ∧ yf yAt σ s) := by
  obtain ⟨hB, hm, t0, t1, hC, hL, g1, g2, g3, g4, g5⟩ := hX
  have b1 := hB.2.1
  have hi2 : i / 16 = r := by omega
  refine y_if (fun q => ?_) (fun q => ?_)
  · refine y_g (by omega) (y_i ⟨?_, ⟨hB, hm, t0, t1, hC, hL, g1, g2, g3, g4, g5⟩, yf_rf⟩)
    rcases g5 i (by omega) (by omega) with e | ⟨x', y', q1, q2, q3, q4, q5, q6⟩
    · omega
    · rw [q6, hi2, show x' = x by omega, show y' = y by omega]
  · refine y_g (by omega) ?_
    refine y_cI (c_workOut hd x y hB (yC_g (yf_g (A := ([20], [])) (yf_set yf_rf rfl) (by decide)) hC) (yLC_g (yf_g (A := ([20], [])) (yf_set yf_rf rfl) (by decide)) hL) g2 g4 h0 h1) (fun v s hs => ?_)
    obtain ⟨hv, hn, hf⟩ := hs
    refine y_g (by omega) (y_g (by omega) (y_i ⟨?_, ?_, ?_⟩))
    · rw [zset_hit rfl]
      exact hv
    · have hf2 : yf yAt σ (zset s 19 i v) := yf_set (yf_tr (yf_set yf_rf rfl) (yf_le hf (by decide))) rfl
      refine ⟨hB, hm, t0, t1, yC_g (yf_g hf2 (by decide)) hC, yLC_g (yf_g hf2 (by decide)) hL, (hf2 17 5 rfl).trans g1, (hf2 17 9 rfl).trans g2, fun c a b => (hf2 18 c rfl).trans (g3 c a b), hn, fun c c0 c1 => ?_⟩
      have e20 : zset s 19 i v 20 c = zset σ 20 i ((T * 19 + x + 9) * 19 + y + 9) 20 c := hf 20 c rfl
      rw [e20]
      by_cases hc : c = i
      · right
        refine ⟨x, y, hx.1, hx.2, hy.1, hy.2, zset_hit hc, ?_⟩
        rw [zset_hit hc, hc, hi2]
        exact hv
      · rw [zset_off hc, zset_off hc, show s 19 c = σ 19 c from hf 19 c rfl]
        exact g5 c c0 c1
    · exact yf_set (yf_tr (yf_set yf_rf rfl) (yf_le hf (by decide))) rfl
theorem c_takes {d : Nat} (hd : 5 ≤ d) {N : zF} {G : yG} {T w : Int} {m : Int → Int} {σ : zF} {r : Int} (hX : yX N G T w m σ) (h0 : 0 ≤ r) (h1 : r < N 0 0) : yT (zx d 90 [.inl (some 17), .inr (.inl r)] σ) (yI fun v s => v = yHR N G (ypw N w) m r ∧ yX N G T w m s ∧ yf yAt σ s) := by
  obtain ⟨d, rfl, hd'⟩ := y_d hd; have hd := hd'
  have hX2 := hX
  obtain ⟨hB, hm, t0, t1, hC, hL, g1, g2, g3, g4, g5⟩ := hX
  have b1 := hB.2.1
  have hr := hB.2.2.1 r h0 h1
  have e6 : σ 6 r = N 4 r := (hC.2.2 r h0 (by omega)).2.2.2.1
  have em : σ 18 r = m r := g3 r h0 (by omega)
  have bm := hm r h0 (by omega)
  have bz := zand3 bm.1 bm.2
  rw [e_X9_takes, e6, em, g1]
  refine y_g (by omega) (y_g (by omega) (y_if (fun q => ?_) (fun q => ?_)))
  · have z0 : zand 0 3 = 0 := by decide +kernel
    rw [z0, yslot (b := 0) ⟨h0, by omega⟩ bz (by omega), ykey (y := 0) ⟨t0, t1⟩ bm (by omega)]
    refine y_g (by omega) ?_
    refine y_mI (c_tk (y := 0) hd hX2 h0 h1 bm (by omega) (by omega)) (fun v s hs => ⟨?_, hs.2⟩)
    rw [hs.1]
    unfold yHR yj0
    rw [if_pos (by omega)]
  · have hj : 0 ≤ N 4 r ∧ N 4 r < N 0 0 := by
      rcases hr.2.2.2.2.2.2.2.1 with z | z
      · exact absurd z q
      · omega
    have ej : σ 18 (N 4 r) = m (N 4 r) := g3 _ hj.1 (by omega)
    have bj := hm (N 4 r) hj.1 (by omega)
    have bz2 := zand3 bj.1 bj.2
    rw [ej, yslot ⟨h0, by omega⟩ bz bz2, ykey ⟨t0, t1⟩ bm bj]
    refine y_g (by omega) (y_g (by omega) ?_)
    refine y_mI (c_tk (y := m (N 4 r)) hd hX2 h0 h1 bm bj (by omega)) (fun v s hs => ⟨?_, hs.2⟩)
    rw [hs.1]
    unfold yHR yj0
    rw [if_neg (by omega)]
