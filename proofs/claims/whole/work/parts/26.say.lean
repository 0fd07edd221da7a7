/-! a word to a road: moods behind it -/
def yws (N : zF) (m : Int → Int) (r k c : Int) : Int := if c = r then min 9 (m r + 1) else if 0 ≤ c ∧ c < k ∧ N 4 c = r then max (-9) (m c - 1) else m c
def yw (N : zF) (r word : Int) (m : Int → Int) (c : Int) : Int := if word = 1 then yws N m r (N 0 0) c else if word = 2 then (if c = r then max (-9) (m r - 2) else m c) else m c
theorem yws_b {N : zF} {m : Int → Int} {r k c : Int} (h0 : 0 ≤ r) (h1 : r < 12) (hm : yBm m) (h2 : 0 ≤ c) (h3 : c < 12) : -9 ≤ yws N m r k c ∧ yws N m r k c ≤ 9 := by
  have a := hm r h0 h1
  have b := hm c h2 h3
  unfold yws
  split
  · omega
  · split <;> omega
theorem yw_b {N : zF} {m : Int → Int} {r word : Int} (h0 : 0 ≤ r) (h1 : r < 12) (hm : yBm m) : yBm (yw N r word m) := by
  intro c h2 h3
  have a := hm r h0 h1
  have b := hm c h2 h3
  unfold yw
  split
  · exact yws_b h0 h1 hm h2 h3
  · split
    · split <;> omega
    · exact b
theorem c_say18_l {N σ0 : zF} {m : Int → Int} {d : Nat} {r : Int} (hB : yBn N) (h0 : 0 ≤ r) (h1 : r < N 0 0) (hm : yBm m) : ∀ (j : Nat) (k : Int) (σ : zF), 0 ≤ k → k + j = N 0 0 → σ 1 0 = N 0 0 → (∀ c, 0 ≤ c → c < 12 → σ 6 c = N 4 c) → (∀ c, 0 ≤ c → c < 12 → σ 18 c = yws N m r k c) → yf ([18], []) σ0 σ → yT (P_X3_say_18_42 d r k σ) (yV fun s => (∀ c, 0 ≤ c → c < 12 → s 18 c = yws N m r (N 0 0) c) ∧ yf ([18], []) σ0 s) := by
  obtain ⟨b0, b1, b2, b3, b4⟩ := hB
  intro j
  induction j with
  | zero =>
    intro k σ k0 kj g1 g2 g3 g4
    rw [e_X3_say_18_42]
    refine y_n (by omega) (y_v ⟨?_, g4⟩)
    have : k = N 0 0 := by omega
    rw [← this]
    exact g3
  | succ j ih =>
    intro k σ k0 kj g1 g2 g3 g4
    rw [e_X3_say_18_42]
    have hk := b2 k k0 (by omega)
    refine y_g (by omega) (y_g (by omega) (y_if (fun q => ?_) (fun q => ?_)))
    · rw [g2 k k0 (by omega)] at q
      refine y_g (by omega) (y_g (by omega) ?_)
      rw [zw_i (x := k + 1) (by omega) (by omega)]
      refine ih (k + 1) _ (by omega) (by omega) g1 g2 ?_ (yf_set g4 rfl)
      intro c c0 c1
      have e1 := g3 k k0 (by omega)
      have e2 := yws_b (N := N) (k := k) h0 (by omega) hm k0 (by omega : k < 12)
      have nr : ¬ k = r := by
        rintro rfl
        rcases hk.2.2.2.2.2.2.2.1 with z | z <;> omega
      have e3 : yws N m r k k = m k := by unfold yws; rw [if_neg nr, if_neg (by omega)]
      have e4 := hm k k0 (by omega)
      by_cases hc : c = k
      · subst hc
        rw [zset_hit rfl, e1, e3, zw_i (by omega) (by omega), zmax_eq]
        unfold yws
        rw [if_neg nr, if_pos (by omega)]
      · rw [zset_off hc, g3 c c0 c1]
        unfold yws
        by_cases hr : c = r
        · rw [if_pos hr, if_pos hr]
        · rw [if_neg hr, if_neg hr]
          exact y_cc (by omega)
    · rw [g2 k k0 (by omega)] at q
      rw [zw_i (x := k + 1) (by omega) (by omega)]
      refine ih (k + 1) _ (by omega) (by omega) g1 g2 ?_ g4
      intro c c0 c1
      rw [g3 c c0 c1]
      unfold yws
      by_cases hr : c = r
      · rw [if_pos hr, if_pos hr]
      · rw [if_neg hr, if_neg hr]
        refine y_cc ⟨fun z => by omega, fun z => ⟨z.1, ?_, z.2.2⟩⟩
        have : ¬ c = k := by
          rintro rfl
          exact q z.2.2
        omega
theorem c_say18 {d : Nat} (hd : 1 ≤ d) {N σ : zF} {m : Int → Int} {r : Int} (word : Int) (hB : yBn N) (hm : yBm m) (hC : yC N σ) (h0 : 0 ≤ r) (h1 : r < N 0 0) (g3 : ∀ c, 0 ≤ c → c < 12 → σ 18 c = m c) : yT (zx d 25 [.inl (some 1), .inl (some 18), .inr (.inl r), .inr (.inl word)] σ) (yV fun s => (∀ c, 0 ≤ c → c < 12 → s 18 c = yw N r word m c) ∧ yf ([18], []) σ s) := by
  obtain ⟨d, rfl, hd'⟩ := y_d hd; have hd := hd'
  have b1 := hB.2.1
  have e4 := hm r h0 (by omega)
  have g := g3 r h0 (by omega)
  rw [e_X3_say_18]
  refine y_if (fun q => ?_) (fun q => y_if (fun q2 => ?_) (fun q2 => ?_))
  · refine y_g (by omega) (y_g (by omega) (y_v ⟨fun c c0 c1 => ?_, yf_set yf_rf rfl⟩))
    unfold yw
    rw [if_neg (by omega), if_pos q]
    by_cases hc : c = r
    · rw [if_pos hc, zset_hit hc, g, zw_i (by omega) (by omega), zmax_eq]
    · rw [if_neg hc, zset_off hc, g3 c c0 c1]
  · refine y_g (by omega) (y_g (by omega) ?_)
    refine y_mV (c_say18_l (N := N) (m := m) hB h0 h1 hm (N 0 0).toNat 0 _ (by omega) (by omega) hC.1 (fun c a b => (hC.2.2 c a b).2.2.2.1) ?_ (yf_set yf_rf rfl)) (fun s hs => ⟨fun c c0 c1 => ?_, hs.2⟩)
    · intro c c0 c1
      unfold yws
      by_cases hc : c = r
      · rw [if_pos hc, zset_hit hc, g, zw_i (by omega) (by omega), zmin_eq]
      · rw [if_neg hc, zset_off hc, g3 c c0 c1, if_neg (by omega)]
    · rw [hs.1 c c0 c1]
      unfold yw
      rw [if_pos q2]
  · refine y_v ⟨fun c c0 c1 => ?_, yf_rf⟩
    unfold yw
    rw [if_neg q2, if_neg q, g3 c c0 c1]
theorem c_say5_l {N σ0 : zF} {m : Int → Int} {d : Nat} {r : Int} (hB : yBn N) (h0 : 0 ≤ r) (h1 : r < N 0 0) (hm : yBm m) : ∀ (j : Nat) (k : Int) (σ : zF), 0 ≤ k → k + j = N 0 0 → σ 1 0 = N 0 0 → (∀ c, 0 ≤ c → c < 12 → σ 6 c = N 4 c) → (∀ c, 0 ≤ c → c < 12 → σ 5 c = yws N m r k c) → yf ([5], []) σ0 σ → yT (P_X3_say_5_42 d r k σ) (yV fun s => (∀ c, 0 ≤ c → c < 12 → s 5 c = yws N m r (N 0 0) c) ∧ yf ([5], []) σ0 s) := by
  obtain ⟨b0, b1, b2, b3, b4⟩ := hB
  intro j
  induction j with
  | zero =>
    intro k σ k0 kj g1 g2 g3 g4
    rw [e_X3_say_5_42]
    refine y_n (by omega) (y_v ⟨?_, g4⟩)
    have : k = N 0 0 := by omega
    rw [← this]
    exact g3
  | succ j ih =>
    intro k σ k0 kj g1 g2 g3 g4
    rw [e_X3_say_5_42]
    have hk := b2 k k0 (by omega)
    refine y_g (by omega) (y_g (by omega) (y_if (fun q => ?_) (fun q => ?_)))
    · rw [g2 k k0 (by omega)] at q
      refine y_g (by omega) (y_g (by omega) ?_)
      rw [zw_i (x := k + 1) (by omega) (by omega)]
      refine ih (k + 1) _ (by omega) (by omega) g1 g2 ?_ (yf_set g4 rfl)
      intro c c0 c1
      have e1 := g3 k k0 (by omega)
      have e2 := yws_b (N := N) (k := k) h0 (by omega) hm k0 (by omega : k < 12)
      have nr : ¬ k = r := by
        rintro rfl
        rcases hk.2.2.2.2.2.2.2.1 with z | z <;> omega
      have e3 : yws N m r k k = m k := by unfold yws; rw [if_neg nr, if_neg (by omega)]
      have e4 := hm k k0 (by omega)
      by_cases hc : c = k
      · subst hc
        rw [zset_hit rfl, e1, e3, zw_i (by omega) (by omega), zmax_eq]
        unfold yws
        rw [if_neg nr, if_pos (by omega)]
      · rw [zset_off hc, g3 c c0 c1]
        unfold yws
        by_cases hr : c = r
        · rw [if_pos hr, if_pos hr]
        · rw [if_neg hr, if_neg hr]
          exact y_cc (by omega)
    · rw [g2 k k0 (by omega)] at q
      rw [zw_i (x := k + 1) (by omega) (by omega)]
      refine ih (k + 1) _ (by omega) (by omega) g1 g2 ?_ g4
      intro c c0 c1
      rw [g3 c c0 c1]
      unfold yws
      by_cases hr : c = r
      · rw [if_pos hr, if_pos hr]
      · rw [if_neg hr, if_neg hr]
        refine y_cc ⟨fun z => by omega, fun z => ⟨z.1, ?_, z.2.2⟩⟩
        have : ¬ c = k := by
          rintro rfl
          exact q z.2.2
        omega
theorem c_say5 {d : Nat} (hd : 1 ≤ d) {N σ : zF} {m : Int → Int} {r : Int} (word : Int) (hB : yBn N) (hm : yBm m) (hC : yC N σ) (h0 : 0 ≤ r) (h1 : r < N 0 0) (g3 : ∀ c, 0 ≤ c → c < 12 → σ 5 c = m c) : yT (zx d 25 [.inl (some 1), .inl (some 5), .inr (.inl r), .inr (.inl word)] σ) (yV fun s => (∀ c, 0 ≤ c → c < 12 → s 5 c = yw N r word m c) ∧ yf ([5], []) σ s) := by
  obtain ⟨d, rfl, hd'⟩ := y_d hd; have hd := hd'
  have b1 := hB.2.1
  have e4 := hm r h0 (by omega)
  have g := g3 r h0 (by omega)
  rw [e_X3_say_5]
  refine y_if (fun q => ?_) (fun q => y_if (fun q2 => ?_) (fun q2 => ?_))
  · refine y_g (by omega) (y_g (by omega) (y_v ⟨fun c c0 c1 => ?_, yf_set yf_rf rfl⟩))
    unfold yw
    rw [if_neg (by omega), if_pos q]
    by_cases hc : c = r
    · rw [if_pos hc, zset_hit hc, g, zw_i (by omega) (by omega), zmax_eq]
    · rw [if_neg hc, zset_off hc, g3 c c0 c1]
  · refine y_g (by omega) (y_g (by omega) ?_)
    refine y_mV (c_say5_l (N := N) (m := m) hB h0 h1 hm (N 0 0).toNat 0 _ (by omega) (by omega) hC.1 (fun c a b => (hC.2.2 c a b).2.2.2.1) ?_ (yf_set yf_rf rfl)) (fun s hs => ⟨fun c c0 c1 => ?_, hs.2⟩)
    · intro c c0 c1
      unfold yws
      by_cases hc : c = r
      · rw [if_pos hc, zset_hit hc, g, zw_i (by omega) (by omega), zmin_eq]
      · rw [if_neg hc, zset_off hc, g3 c c0 c1, if_neg (by omega)]
    · rw [hs.1 c c0 c1]
      unfold yw
      rw [if_pos q2]
  · refine y_v ⟨fun c c0 c1 => ?_, yf_rf⟩
    unfold yw
    rw [if_neg q2, if_neg q, g3 c c0 c1]
