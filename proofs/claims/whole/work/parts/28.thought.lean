/-! thoughts begin; sums; distances; Sundays: the component -/
theorem c_moods {d : Nat} (hd : 1 ≤ d) {N σ : zF} (hC : yC N σ) : yT (zx d 88 [.inl (some 17)] σ) (yV fun s => (∀ c, 0 ≤ c → c < 12 → s 18 c = N 6 c) ∧ yf ([18], []) σ s) := by
  obtain ⟨d, rfl, hd'⟩ := y_d hd; have hd := hd'
  rw [e_X9_moodsAsNow]
  refine y_g (by omega) (y_v ⟨fun c c0 c1 => ?_, yf_cpy yf_rf rfl⟩)
  rw [zcpy_eq, if_pos ⟨rfl, by omega, by omega⟩, Int.zero_add, Int.sub_zero]
  exact (hC.2.2 c c0 c1).2.2.2.2.2
theorem c_fill21_l {d : Nat} (v : Int) {σ0 : zF} : ∀ (j : Nat) (k : Int) (σ : zF), 0 ≤ k → k + j = 12 → (∀ c, 0 ≤ c → c < k → σ 21 c = v) → yf ([21], []) σ0 σ → yT (P_J7_fill_53178_21_5 d v k 12 σ) (yV fun s => (∀ c, 0 ≤ c → c < 12 → s 21 c = v) ∧ yf ([21], []) σ0 s) := by
  intro j
  induction j with
  | zero =>
    intro k σ k0 kj g f
    rw [e_J7_fill_53178_21_5]
    refine y_n (by omega) (y_v ⟨?_, f⟩)
    rw [show k = 12 by omega] at g
    exact g
  | succ j ih =>
    intro k σ k0 kj g f
    rw [e_J7_fill_53178_21_5]
    refine y_g (by omega) (y_g (by omega) ?_)
    rw [zw_i (x := k + 1) (by omega) (by omega)]
    refine ih (k + 1) _ (by omega) (by omega) (fun c c0 c1 => ?_) (yf_set f rfl)
    by_cases h : c = k
    · rw [zset_hit h]
    · rw [zset_off h]
      exact g c c0 (by omega)
theorem c_fill21 {d : Nat} (hd : 1 ≤ d) (v : Int) (σ : zF) : yT (zx d 255 [.inl (some 21), .inr (.inl v)] σ) (yV fun s => (∀ c, 0 ≤ c → c < 12 → s 21 c = v) ∧ yf ([21], []) σ s) := by
  obtain ⟨d, rfl, hd'⟩ := y_d hd; have hd := hd'
  rw [e_J7_fill_53178_21]
  exact c_fill21_l v 12 0 σ (by omega) (by omega) (fun c a b => by omega) yf_rf
theorem c_fill23_l {d : Nat} (v : Int) {σ0 : zF} : ∀ (j : Nat) (k : Int) (σ : zF), 0 ≤ k → k + j = 8 → (∀ c, 0 ≤ c → c < k → σ 23 c = v) → yf ([23], []) σ0 σ → yT (P_J7_fill_53178_23_5 d v k 8 σ) (yV fun s => (∀ c, 0 ≤ c → c < 8 → s 23 c = v) ∧ yf ([23], []) σ0 s) := by
  intro j
  induction j with
  | zero =>
    intro k σ k0 kj g f
    rw [e_J7_fill_53178_23_5]
    refine y_n (by omega) (y_v ⟨?_, f⟩)
    rw [show k = 8 by omega] at g
    exact g
  | succ j ih =>
    intro k σ k0 kj g f
    rw [e_J7_fill_53178_23_5]
    refine y_g (by omega) (y_g (by omega) ?_)
    rw [zw_i (x := k + 1) (by omega) (by omega)]
    refine ih (k + 1) _ (by omega) (by omega) (fun c c0 c1 => ?_) (yf_set f rfl)
    by_cases h : c = k
    · rw [zset_hit h]
    · rw [zset_off h]
      exact g c c0 (by omega)
theorem c_fill23 {d : Nat} (hd : 1 ≤ d) (v : Int) (σ : zF) : yT (zx d 255 [.inl (some 23), .inr (.inl v)] σ) (yV fun s => (∀ c, 0 ≤ c → c < 8 → s 23 c = v) ∧ yf ([23], []) σ s) := by
  obtain ⟨d, rfl, hd'⟩ := y_d hd; have hd := hd'
  rw [e_J7_fill_53178_23]
  exact c_fill23_l v 8 0 σ (by omega) (by omega) (fun c a b => by omega) yf_rf
theorem c_fill25_l {d : Nat} (v : Int) {σ0 : zF} : ∀ (j : Nat) (k : Int) (σ : zF), 0 ≤ k → k + j = 3 → (∀ c, 0 ≤ c → c < k → σ 25 c = v) → yf ([25], []) σ0 σ → yT (P_J7_fill_53178_25_5 d v k 3 σ) (yV fun s => (∀ c, 0 ≤ c → c < 3 → s 25 c = v) ∧ yf ([25], []) σ0 s) := by
  intro j
  induction j with
  | zero =>
    intro k σ k0 kj g f
    rw [e_J7_fill_53178_25_5]
    refine y_n (by omega) (y_v ⟨?_, f⟩)
    rw [show k = 3 by omega] at g
    exact g
  | succ j ih =>
    intro k σ k0 kj g f
    rw [e_J7_fill_53178_25_5]
    refine y_g (by omega) (y_g (by omega) ?_)
    rw [zw_i (x := k + 1) (by omega) (by omega)]
    refine ih (k + 1) _ (by omega) (by omega) (fun c c0 c1 => ?_) (yf_set f rfl)
    by_cases h : c = k
    · rw [zset_hit h]
    · rw [zset_off h]
      exact g c c0 (by omega)
theorem c_fill25 {d : Nat} (hd : 1 ≤ d) (v : Int) (σ : zF) : yT (zx d 255 [.inl (some 25), .inr (.inl v)] σ) (yV fun s => (∀ c, 0 ≤ c → c < 3 → s 25 c = v) ∧ yf ([25], []) σ s) := by
  obtain ⟨d, rfl, hd'⟩ := y_d hd; have hd := hd'
  rw [e_J7_fill_53178_25]
  exact c_fill25_l v 3 0 σ (by omega) (by omega) (fun c a b => by omega) yf_rf
/-- between calls: what a thought may begin from -/
def yP (N : zF) (G : yG) (σ : zF) : Prop := yBn N ∧ yC N σ ∧ yLC G σ ∧ 0 ≤ σ 17 5 ∧ ∀ i, 0 ≤ i → i < 192 → σ 20 i < (σ 17 5 + 1) * 361
abbrev yDP : List Nat × List (Nat × Int) := ([2, 3, 4, 5, 6, 7, 15, 20], [(1, 0), (10, 4), (14, 1), (17, 5)])
theorem yP_g {N : zF} {G : yG} {σ σ' : zF} (g : yg yDP σ σ') (h : yP N G σ) : yP N G σ' := by
  obtain ⟨h1, h2, h3, h4, h5⟩ := h
  refine ⟨h1, yC_g (yg_le g (by decide)) h2, yLC_g (yg_le g (by decide)) h3, ?_, fun i a b => ?_⟩
  · rw [g 17 5 rfl]
    exact h4
  · rw [g 17 5 rfl, g 20 i rfl]
    exact h5 i a b
theorem yP_f {A : List Nat × List (Nat × Int)} {N : zF} {G : yG} {σ σ' : zF} (h : yP N G σ) (f : yf A σ σ') (ha : yds A yDP = true) : yP N G σ' := yP_g (yf_g f ha) h
theorem yX_P {N : zF} {G : yG} {T w : Int} {m : Int → Int} {σ : zF} (h : yX N G T w m σ) : yP N G σ ∧ σ 17 5 = T := by
  obtain ⟨hB, hm, t0, t1, hC, hL, g1, g2, g3, g4, g5⟩ := h
  refine ⟨⟨hB, hC, hL, by omega, fun i a b => ?_⟩, g1⟩
  rw [g1]
  rcases g5 i a b with e | ⟨x, y, q1, q2, q3, q4, q5, q6⟩ <;> omega
abbrev yAb : List Nat × List (Nat × Int) := ([18, 21], [(17, 5), (17, 9)])
theorem c_begin {d : Nat} (hd : 2 ≤ d) {N : zF} {G : yG} {σ : zF} (w : Int) (hP : yP N G σ) (ht : σ 17 5 < 5000000) : yT (zx d 87 [.inl (some 17), .inr (.inl w)] σ) (yV fun s => yX N G (σ 17 5 + 1) w (N 6) s ∧ yf yAb σ s) := by
  obtain ⟨d, rfl, hd'⟩ := y_d hd; have hd := hd'
  obtain ⟨hB, hC, hL, t0, hk⟩ := hP
  rw [e_X9_begin, zw_i (by omega) (by omega)]
  refine y_cV (c_moods hd (N := N) (yC_g (yf_g (A := ([], [(17, 9), (17, 5)])) (yf_set (yf_set yf_rf rfl) rfl) (by decide)) hC)) (fun s hs => ?_)
  refine y_cV (c_fill21 hd (-1) s) (fun s2 hs2 => y_v ?_)
  have f0 : yf yAb σ (zset (zset σ 17 9 w) 17 5 (σ 17 5 + 1)) := yf_set (yf_set yf_rf rfl) rfl
  have f1 := yf_tr f0 (yf_le hs.2 (by decide))
  have f2 := yf_tr f1 (yf_le hs2.2 (by decide))
  have a5 : s2 17 5 = σ 17 5 + 1 := ((hs2.2 17 5 rfl).trans (hs.2 17 5 rfl)).trans (zset_hit rfl)
  have a9 : s2 17 9 = w := ((hs2.2 17 9 rfl).trans (hs.2 17 9 rfl)).trans ((zset_off (by decide)).trans (zset_hit rfl))
  refine ⟨⟨hB, hB.2.2.2.1, by omega, by omega, yC_g (yf_g f2 (by decide)) hC, yLC_g (yf_g f2 (by decide)) hL, a5, a9, fun c a b => (hs2.2 18 c rfl).trans (hs.1 c a b), fun c a b => Or.inl (hs2.1 c a b), fun i a b => Or.inl ?_⟩, f2⟩
  rw [f2 20 i rfl]
  exact hk i a b
/-! sums -/
def ysum (f : Int → Int) : Nat → Int
  | 0 => 0
  | k + 1 => ysum f k + f k
theorem ysum_b {f : Int → Int} (h : ∀ c, 0 ≤ f c ∧ f c ≤ 99) : ∀ k, 0 ≤ ysum f k ∧ ysum f k ≤ 99 * k
  | 0 => by unfold ysum; omega
  | k + 1 => by
    have := ysum_b h k
    have := h k
    unfold ysum
    omega
theorem yHR_b0 (N : zF) (G : yG) (p m : Int → Int) (r : Int) : 0 ≤ yHR N G p m r ∧ yHR N G p m r ≤ 99 := by
  have := yHR_b N G p m r
  omega
theorem c_all_l {d : Nat} (hd : 5 ≤ d) {N : zF} {G : yG} {T w : Int} {m : Int → Int} {σ0 : zF} : ∀ (j k : Nat) (σ : zF), (k : Int) + j = N 0 0 → yX N G T w m σ → yf yAt σ0 σ → yT (P_X9_takesInAll_4 d (ysum (yHR N G (ypw N w) m) k) (k : Int) σ) (yI fun v s => v = ysum (yHR N G (ypw N w) m) (N 0 0).toNat ∧ yX N G T w m s ∧ yf yAt σ0 s) := by
  intro j
  induction j with
  | zero =>
    intro k σ hk hX f
    have e1 : σ 1 0 = N 0 0 := hX.2.2.2.2.1.1
    rw [e_X9_takesInAll_4, e1]
    refine y_n (by omega) (y_i ⟨?_, hX, f⟩)
    rw [show (N 0 0).toNat = k by omega]
  | succ j ih =>
    intro k σ hk hX f
    have e1 : σ 1 0 = N 0 0 := hX.2.2.2.2.1.1
    have b1 := hX.1.2.1
    rw [e_X9_takesInAll_4, e1]
    refine y_g (by omega) (y_cI (c_takes hd hX (by omega) (by omega)) (fun v s hs => ?_))
    have bs := ysum_b (yHR_b0 N G (ypw N w) m) k
    have bv := yHR_b N G (ypw N w) m k
    rw [zw_i (x := (k : Int) + 1) (by omega) (by omega), hs.1, zw_i (by omega) (by omega)]
    have := ih (k + 1) s (by omega) hs.2.1 (yf_tr f hs.2.2)
    rw [Int.natCast_succ] at this
    exact this
theorem c_all {d : Nat} (hd : 6 ≤ d) {N : zF} {G : yG} {T w : Int} {m : Int → Int} {σ : zF} (hX : yX N G T w m σ) : yT (zx d 93 [.inl (some 17)] σ) (yI fun v s => v = ysum (yHR N G (ypw N w) m) (N 0 0).toNat ∧ yX N G T w m s ∧ yf yAt σ s) := by
  obtain ⟨d, rfl, hd'⟩ := y_d hd; have hd := hd'
  rw [e_X9_takesInAll]
  exact c_all_l hd (N 0 0).toNat 0 σ (by have := hX.1.1; omega) hX yf_rf
/-! distances -/
theorem yOK_of {N : zF} {G : yG} (hB : yBn N) (p q m : Int → Int) : yOK (N 0 0) (N 1) (N 2) (yHR N G q m) p := by
  intro r h0 h1
  have := hB.2.2.1 r h0 h1
  have b := yHR_b N G q m r
  exact ⟨this.1, this.2.1, this.2.2.1, this.2.2.2.1, this.2.2.2.2.1, b.1, b.2⟩
theorem c_near_l {d : Nat} (hd : 1 ≤ d) {N : zF} {H p D : Int → Int} {s : Int} {σ0 : zF} (hB : yBn N) (ok : yOK (N 0 0) (N 1) (N 2) H p) (hj : yjd (N 0 0) (N 1) (N 2) H p s D) : ∀ (j k : Nat) (y : Int) (σ : zF), (k : Int) + j = N 0 0 → yC N σ → p = ypw N (σ 17 9) → (∀ c, 0 ≤ c → c < N 0 0 → σ 22 c = H c) → (∀ c, 0 ≤ c ∧ c < 8 → σ 23 c = yrk (N 1) (N 2) H p D k c) → (y = 0 ∨ y = 1) → (y = 0 → ∀ c, 0 ≤ c ∧ c < 8 → yrk (N 1) (N 2) H p D k c = D c) → yf ([23], []) σ0 σ → yT (P_X9_comeNearer_4 d y (k : Int) σ) (yI fun v t => (v = 0 ∨ v = 1) ∧ (∀ c, 0 ≤ c ∧ c < 8 → t 23 c = yrd (N 0 0) (N 1) (N 2) H p D c) ∧ (v = 0 → ∀ c, 0 ≤ c ∧ c < 8 → yrd (N 0 0) (N 1) (N 2) H p D c = D c) ∧ yf ([23], []) σ0 t) := by
  intro j
  have b1 := hB.2.1
  induction j with
  | zero =>
    intro k y σ hk hC hp h22 h23 hy hy0 f
    rw [e_X9_comeNearer_4, hC.1]
    have e : k = (N 0 0).toNat := by omega
    refine y_n (by omega) (y_g hy (y_i ⟨hy, ?_, ?_, f⟩))
    · unfold yrd
      rw [← e]
      exact h23
    · unfold yrd
      rw [← e]
      exact hy0
  | succ j ih =>
    intro k y σ hk hC hp h22 h23 hy hy0 f
    have hb := hB.2.2.1 k (by omega) (by omega)
    have hc := hC.2.2 k (by omega) (by omega)
    obtain ⟨o1, o2, o3, o4, o5, o6, o7⟩ := ok k (by omega) (by omega)
    have jk := yrk_j ok hj k (by omega)
    have dA := yjd_b jk (N 1 k)
    have dB := yjd_b jk (N 2 k)
    have eA := h23 (N 1 k) ⟨o1, o2⟩
    have eB := h23 (N 2 k) ⟨o3, o4⟩
    have eH := h22 k (by omega) (by omega)
    have es : ∀ c, yrk (N 1) (N 2) H p D (k + 1) c = yrx (N 1) (N 2) H p (yrk (N 1) (N 2) H p D k) k c := fun c => rfl
    rw [e_X9_comeNearer_4, hC.1]
    refine y_g (by omega) ?_
    rw [c_isOpen hd hC (by omega) (by omega), zCI_ri, y01, ← hp, zw_i (x := (k : Int) + 1) (by omega) (by omega)]
    have ih2 := ih (k + 1)
    rw [Int.natCast_succ] at ih2
    refine y_if (fun q => ?_) (fun q => ?_)
    · rw [hc.1, hc.2.1, eA, eB, eH, zw_i (x := yrk (N 1) (N 2) H p D k (N 1 k) + H k) (by omega) (by omega), zw_i (x := yrk (N 1) (N 2) H p D k (N 2 k) + H k) (by omega) (by omega)]
      refine y_g (by omega) (y_g (by omega) (y_g ⟨o1, o2⟩ (y_g (by omega) (y_g ⟨o3, o4⟩ (y_if (fun z => ?_) (fun z => ?_))))))
      · refine y_g ⟨o1, o2⟩ (y_g (by omega) (y_g ⟨o3, o4⟩ ?_))
        refine ih2 1 _ (by omega) (yC_g (yf_g (A := ([23], [])) (yf_set yf_rf rfl) (by decide)) hC) hp h22 (fun c hc2 => ?_) (Or.inr rfl) (fun h => by omega) (yf_set f rfl)
        rw [es]
        unfold yrx
        by_cases e1 : c = N 2 k
        · rw [zset_hit e1, if_pos ⟨q, e1, z⟩]
        · rw [zset_off e1, if_neg (fun w => e1 w.2.1), if_neg (by omega)]
          exact h23 c hc2
      · refine y_g ⟨o3, o4⟩ (y_g (by omega) (y_g ⟨o1, o2⟩ (y_if (fun z2 => ?_) (fun z2 => ?_))))
        · refine y_g ⟨o3, o4⟩ (y_g (by omega) (y_g ⟨o1, o2⟩ ?_))
          refine ih2 1 _ (by omega) (yC_g (yf_g (A := ([23], [])) (yf_set yf_rf rfl) (by decide)) hC) hp h22 (fun c hc2 => ?_) (Or.inr rfl) (fun h => by omega) (yf_set f rfl)
          rw [es]
          unfold yrx
          rw [if_neg (fun w => z w.2.2)]
          by_cases e1 : c = N 1 k
          · rw [zset_hit e1, if_pos ⟨q, e1, z2⟩]
          · rw [zset_off e1, if_neg (fun w => e1 w.2.1)]
            exact h23 c hc2
        · have es2 : ∀ c, yrk (N 1) (N 2) H p D (k + 1) c = yrk (N 1) (N 2) H p D k c := by
            intro c
            rw [es]
            unfold yrx
            rw [if_neg (fun w => z w.2.2), if_neg (fun w => z2 w.2.2)]
          refine ih2 y _ (by omega) hC hp h22 (fun c hc2 => ?_) hy (fun h c hc2 => ?_) f
          · rw [es2]
            exact h23 c hc2
          · rw [es2]
            exact hy0 h c hc2
    · have es2 : ∀ c, yrk (N 1) (N 2) H p D (k + 1) c = yrk (N 1) (N 2) H p D k c := by
        intro c
        rw [es]
        unfold yrx
        rw [if_neg (fun w => q w.1), if_neg (fun w => q w.1)]
      refine ih2 y _ (by omega) hC hp h22 (fun c hc2 => ?_) hy (fun h c hc2 => ?_) f
      · rw [es2]
        exact h23 c hc2
      · rw [es2]
        exact hy0 h c hc2
theorem c_near {d : Nat} (hd : 2 ≤ d) {N : zF} {H p D : Int → Int} {s : Int} {σ : zF} (hB : yBn N) (ok : yOK (N 0 0) (N 1) (N 2) H p) (hj : yjd (N 0 0) (N 1) (N 2) H p s D) (hC : yC N σ) (hp : p = ypw N (σ 17 9)) (h22 : ∀ c, 0 ≤ c → c < N 0 0 → σ 22 c = H c) (h23 : ∀ c, 0 ≤ c ∧ c < 8 → σ 23 c = D c) : yT (zx d 95 [.inl (some 17)] σ) (yI fun v t => (v = 0 ∨ v = 1) ∧ (∀ c, 0 ≤ c ∧ c < 8 → t 23 c = yrd (N 0 0) (N 1) (N 2) H p D c) ∧ (v = 0 → yrd (N 0 0) (N 1) (N 2) H p D = D) ∧ yf ([23], []) σ t) := by
  obtain ⟨d, rfl, hd'⟩ := y_d hd; have hd := hd'
  rw [e_X9_comeNearer]
  refine y_mI (c_near_l (by omega) hB ok hj (N 0 0).toNat 0 0 σ (by have := hB.1; omega) hC hp h22 h23 (Or.inl rfl) (fun _ c _ => rfl) yf_rf) (fun v t ht => ⟨ht.1, ht.2.1, fun e => funext fun c => ?_, ht.2.2.2⟩)
  by_cases hc : 0 ≤ c ∧ c < 8
  · exact ht.2.2.1 e c hc
  · exact yrd_out hB.1 ok hc
abbrev yAd : List Nat × List (Nat × Int) := ([16, 19, 20, 21, 22, 23], [(14, 3)])
theorem c_rounds {d : Nat} (hd : 2 ≤ d) {N : zF} {H p : Int → Int} {s : Int} {σ0 : zF} (hB : yBn N) (ok : yOK (N 0 0) (N 1) (N 2) H p) : ∀ (j k : Nat) (y : Int) (σ : zF), k + j = 8 → yC N σ → p = ypw N (σ 17 9) → (∀ c, 0 ≤ c → c < N 0 0 → σ 22 c = H c) → (∀ c, 0 ≤ c ∧ c < 8 → σ 23 c = yrs (N 0 0) (N 1) (N 2) H p (yd0 s) k c) → (y = 0 → yrd (N 0 0) (N 1) (N 2) H p (yrs (N 0 0) (N 1) (N 2) H p (yd0 s) k) = yrs (N 0 0) (N 1) (N 2) H p (yd0 s) k) → yf ([23], []) σ0 σ → yT (P_X9_measureFrom_50 d y (k : Int) σ) (yV fun t => (∀ c, 0 ≤ c ∧ c < 8 → t 23 c = yD (N 0 0) (N 1) (N 2) H p s c) ∧ yf ([23], []) σ0 t) := by
  intro j
  induction j with
  | zero =>
    intro k y σ hk hC hp h22 h23 hy f
    rw [e_X9_measureFrom_50]
    refine y_n (by omega) (y_v ⟨?_, f⟩)
    unfold yD
    rw [show k = 8 by omega] at h23
    exact h23
  | succ j ih =>
    intro k y σ hk hC hp h22 h23 hy f
    rw [e_X9_measureFrom_50]
    refine y_g (by omega) (y_if (fun q => y_v ⟨?_, f⟩) (fun q => ?_))
    · have e := yfix_all (hy q) (j + 1)
      rw [hk] at e
      unfold yD
      rw [e]
      exact h23
    · refine y_cI (c_near hd hB ok (yrs_j hB.1 ok k) hC hp h22 h23) (fun v t ht => ?_)
      rw [zw_i (x := (k : Int) + 1) (by omega) (by omega)]
      have ih2 := ih (k + 1) v t (by omega) (yC_g (yf_g ht.2.2.2 (by decide)) hC) (by rw [hp, ht.2.2.2 17 9 rfl]) (fun c a b => (ht.2.2.2 22 c rfl).trans (h22 c a b)) ht.2.1 ?_ (yf_tr f ht.2.2.2)
      · rw [Int.natCast_succ] at ih2
        exact ih2
      · intro e
        have e2 := ht.2.2.1 e
        show yrd _ _ _ _ _ (yrd _ _ _ _ _ _) = yrd _ _ _ _ _ _
        rw [e2, e2]
theorem c_meas_l {d : Nat} (hd : 5 ≤ d) {N : zF} {G : yG} {T w : Int} {m : Int → Int} {s : Int} {σ0 : zF} (hs : 0 ≤ s ∧ s < 8) : ∀ (j : Nat) (k : Int) (σ : zF), 0 ≤ k → k + j = N 0 0 → yX N G T w m σ → (∀ c, 0 ≤ c → c < k → σ 22 c = yHR N G (ypw N w) m c) → yf yAd σ0 σ → yT (P_X9_measureFrom_2 d s k σ) (yV fun t => (∀ c, 0 ≤ c ∧ c < 8 → t 23 c = yD (N 0 0) (N 1) (N 2) (yHR N G (ypw N w) m) (ypw N w) s c) ∧ (∀ c, 0 ≤ c → c < N 0 0 → t 22 c = yHR N G (ypw N w) m c) ∧ yX N G T w m t ∧ yf yAd σ0 t) := by
  intro j
  induction j with
  | zero =>
    intro k σ k0 hk hX h22 f
    have hX2 := hX
    obtain ⟨hB, hm, t0, t1, hC, hL, g1, g2, g3, g4, g5⟩ := hX
    rw [e_X9_measureFrom_2, hC.1]
    refine y_n (by omega) (y_cV (c_fill23 (by omega) 1000000 σ) (fun t ht => y_g hs ?_))
    have f1 : yf ([23], []) σ (zset t 23 s 0) := yf_set ht.2 rfl
    refine y_mV (c_rounds (by omega) (H := yHR N G (ypw N w) m) (p := ypw N w) (s := s) (σ0 := σ) hB (yOK_of hB _ _ _) 8 0 1 _ (by omega) (yC_g (yf_g f1 (by decide)) hC) ?_ (fun c a b => (f1 22 c rfl).trans (h22 c a (by omega))) (fun c hc => ?_) (fun h => by omega) f1) (fun u hu => ⟨hu.1, fun c a b => (hu.2 22 c rfl).trans (h22 c a (by omega)), yX_f hX2 hu.2 (by decide), yf_tr f (yf_le hu.2 (by decide))⟩)
    · rw [f1 17 9 rfl, g2]
    · show zset t 23 s 0 23 c = yd0 s c
      unfold yd0
      by_cases e : c = s
      · rw [zset_hit e, if_pos e]
      · rw [zset_off e, if_neg e]
        exact ht.1 c hc.1 hc.2
  | succ j ih =>
    intro k σ k0 hk hX h22 f
    have e1 : σ 1 0 = N 0 0 := hX.2.2.2.2.1.1
    have b1 := hX.1.2.1
    rw [e_X9_measureFrom_2, e1]
    refine y_g (by omega) (y_cI (c_takes hd hX (by omega) (by omega)) (fun v t ht => y_g (by omega) ?_))
    rw [zw_i (x := k + 1) (by omega) (by omega)]
    refine ih (k + 1) _ (by omega) (by omega) (yX_f ht.2.1 (A := ([22], [])) (yf_set yf_rf rfl) (by decide)) (fun c c0 c1 => ?_) (yf_set (yf_tr f (yf_le ht.2.2 (by decide))) rfl)
    by_cases e : c = k
    · rw [zset_hit e, ht.1, e]
    · rw [zset_off e, ht.2.2 22 c rfl]
      exact h22 c c0 (by omega)
theorem c_meas {d : Nat} (hd : 6 ≤ d) {N : zF} {G : yG} {T w : Int} {m : Int → Int} {s : Int} {σ : zF} (hs : 0 ≤ s ∧ s < 8) (hX : yX N G T w m σ) : yT (zx d 94 [.inl (some 17), .inr (.inl s)] σ) (yV fun t => (∀ c, 0 ≤ c ∧ c < 8 → t 23 c = yD (N 0 0) (N 1) (N 2) (yHR N G (ypw N w) m) (ypw N w) s c) ∧ (∀ c, 0 ≤ c → c < N 0 0 → t 22 c = yHR N G (ypw N w) m c) ∧ yX N G T w m t ∧ yf yAd σ t) := by
  obtain ⟨d, rfl, hd'⟩ := y_d hd; have hd := hd'
  rw [e_X9_measureFrom]
  exact c_meas_l hd hs (N 0 0).toNat 0 σ (by omega) (by have := hX.1.1; omega) hX (fun c a b => by omega) yf_rf
