/-! the model's hours -/
def yY (N : zF) (G : yG) (p m : Int → Int) (σ : zF) : Prop := yBn N ∧ yBm m ∧ yBp N p ∧ yM N p m σ ∧ yLM G σ
abbrev yDY : List Nat × List (Nat × Int) := ([58, 59, 60, 64, 65, 66, 67], [(57, 0), (57, 9), (57, 10), (74, 4)])
theorem yY_g {N : zF} {G : yG} {p m : Int → Int} {σ σ' : zF} (g : yg yDY σ σ') (h : yY N G p m σ) : yY N G p m σ' := by
  obtain ⟨h1, h2, h3, h4, h5⟩ := h
  exact ⟨h1, h2, h3, yM_g (yg_le g (by decide)) h4, yLM_g (yg_le g (by decide)) h5⟩
theorem yY_f {A : List Nat × List (Nat × Int)} {N : zF} {G : yG} {p m : Int → Int} {σ σ' : zF} (h : yY N G p m σ) (f : yf A σ σ') (ha : yds A yDY = true) : yY N G p m σ' := yY_g (yf_g f ha) h
theorem m_isPl {d : Nat} (hd : 1 ≤ d) {N σ : zF} {p m : Int → Int} (hM : yM N p m σ) {r : Int} (h0 : 0 ≤ r) (h1 : r < 12) : zx d 188 [.inl (some 57), .inr (.inl r)] σ = zri (if p r = 1 then 1 else 0) σ := by
  obtain ⟨d, rfl, -⟩ := y_d hd
  rw [e_X12_isPloughed, zw_i (x := 36 + r) (by omega) (by omega), if_pos (by omega), (hM.2.2 r h0 h1).2.2.2.2.1, y_ri]
theorem m_ends {d : Nat} (hd : 1 ≤ d) {N σ : zF} {p m : Int → Int} (hM : yM N p m σ) {r : Int} (c : Int) (h0 : 0 ≤ r) (h1 : r < 12) : zx d 189 [.inl (some 57), .inr (.inl r), .inr (.inl c)] σ = zri (if N 1 r = c ∨ N 2 r = c then 1 else 0) σ := by
  obtain ⟨d, rfl, -⟩ := y_d hd
  have a := hM.2.2 r h0 h1
  rw [e_X12_endsAt]
  simp only [if_pos (show 0 ≤ r ∧ r < 12 from ⟨h0, h1⟩)]
  rw [a.1, a.2.1]
  by_cases e1 : N 1 r = c
  · rw [if_pos e1, if_pos (Or.inl e1)]
  · rw [if_neg e1]
    by_cases e2 : N 2 r = c
    · rw [if_pos e2, if_pos (Or.inr e2)]
    · rw [if_neg e2, if_neg]
      rintro (h | h) <;> contradiction
theorem m_kn_l {d : Nat} (hd : 1 ≤ d) {N σ : zF} {p m : Int → Int} (hB : yBn N) (hp : yBp N p) (hM : yM N p m σ) {r : Int} (h0 : 0 ≤ r) (h1 : r < 12) : ∀ j k : Nat, (k : Int) + j = N 0 0 → P_X12_knots_4 d r (ykn N p r k) (k : Int) σ = zri (yKN N p r) σ := by
  intro j
  have b1 := hB.2.1
  have hr := hM.2.2 r h0 h1
  induction j with
  | zero =>
    intro k hk
    rw [e_X12_knots_4, hM.1, if_neg (by omega)]
    unfold yKN
    rw [show (N 0 0).toNat = k by omega]
  | succ j ih =>
    intro k hk
    have s : ykn N p r (k + 1) = ykn N p r k + if ¬ (k : Int) = r ∧ p k = 0 ∧ (N 1 k = N 1 r ∨ N 1 k = N 2 r ∨ N 2 k = N 1 r ∨ N 2 k = N 2 r) then 1 else 0 := rfl
    have ih2 := ih (k + 1) (by omega)
    rw [Int.natCast_succ] at ih2
    have bk := ykn_b N p r k
    have pk := hp k (by omega) (by omega)
    rw [e_X12_knots_4, hM.1, if_pos (by omega), zw_i (x := (k : Int) + 1) (by omega) (by omega)]
    by_cases e : (k : Int) = r
    · rw [if_pos e]
      rw [s, if_neg (by rintro ⟨q, -⟩; exact q e), Int.add_zero] at ih2
      exact ih2
    · rw [if_neg e, m_isPl hd hM (by omega) (by omega), zCI_ri, y01]
      by_cases e2 : p k = 1
      · rw [if_pos e2]
        rw [s, if_neg (by rintro ⟨-, q, -⟩; omega), Int.add_zero] at ih2
        exact ih2
      · rw [if_neg e2, if_pos (show 0 ≤ r ∧ r < 12 from ⟨h0, h1⟩), m_ends hd hM _ (by omega) (by omega), zCI_ri, y01, hr.1]
        by_cases e3 : N 1 k = N 1 r ∨ N 2 k = N 1 r
        · rw [if_pos e3, zw_i (by omega) (by omega)]
          rw [s, if_pos ⟨e, by omega, by rcases e3 with z | z; exact Or.inl z; exact Or.inr (Or.inr (Or.inl z))⟩] at ih2
          exact ih2
        · rw [if_neg e3, if_pos (show 0 ≤ r ∧ r < 12 from ⟨h0, h1⟩), m_ends hd hM _ (by omega) (by omega), zCI_ri, y01, hr.2.1]
          by_cases e4 : N 1 k = N 2 r ∨ N 2 k = N 2 r
          · rw [if_pos e4, zw_i (by omega) (by omega)]
            rw [s, if_pos ⟨e, by omega, by rcases e4 with z | z; exact Or.inr (Or.inl z); exact Or.inr (Or.inr (Or.inr z))⟩] at ih2
            exact ih2
          · rw [if_neg e4]
            rw [s, if_neg (by rintro ⟨-, -, q | q | q | q⟩; exact e3 (Or.inl q); exact e4 (Or.inl q); exact e3 (Or.inr q); exact e4 (Or.inr q)), Int.add_zero] at ih2
            exact ih2
theorem m_kn {d : Nat} (hd : 2 ≤ d) {N σ : zF} {p m : Int → Int} (hB : yBn N) (hp : yBp N p) (hM : yM N p m σ) {r : Int} (h0 : 0 ≤ r) (h1 : r < 12) : zx d 190 [.inl (some 57), .inr (.inl r)] σ = zri (yKN N p r) σ := by
  obtain ⟨d, rfl, hd'⟩ := y_d hd; have hd := hd'
  rw [e_X12_knots]
  exact m_kn_l (by omega) hB hp hM h0 h1 (N 0 0).toNat 0 (by have := hB.1; omega)
abbrev yAh : List Nat × List (Nat × Int) := ([72, 73], [])
theorem m_names {d : Nat} (hd : 4 ≤ d) {N : zF} {G : yG} {p m : Int → Int} {σ : zF} {r y : Int} (hY : yY N G p m σ) (h9 : ¬ σ 57 9 = 0) (h0 : 0 ≤ r) (h1 : r < N 0 0) : yT (zCI LAY (zx d 190 [.inl (some 57), .inr (.inl r)] (zset (zset (zset (zset (zset σ 73 0 (N 3 r)) 73 1 (m r)) 73 2 y) 73 3 (zmin 99 (N 9 4))) 73 4 r)) fun r4 s3 => if 0 ≤ (5 : Int) ∧ (5 : Int) < 6 then (P_X12_byLaw_103 d 0 (zset s3 73 5 r4)) else none) (yI fun v s => v = G (N 3 r) (m r) y (zmin 99 (N 9 4)) r (yKN N p r) ∧ yf yAh σ s) := by
  obtain ⟨hB, hm, hp, hM, hL⟩ := hY
  have b1 := hB.2.1
  have f : yf yAh σ (zset (zset (zset (zset (zset σ 73 0 (N 3 r)) 73 1 (m r)) 73 2 y) 73 3 (zmin 99 (N 9 4))) 73 4 r) := yf_set (yf_set (yf_set (yf_set (yf_set yf_rf rfl) rfl) rfl) rfl) rfl
  rw [m_kn (by omega) hB hp (yM_f hM f (by decide)) h0 (by omega), zCI_ri]
  refine y_g (by omega) ?_
  refine y_mI (hL.2 h9 d (by omega) (zset (zset (zset (zset (zset (zset σ 73 0 (N 3 r)) 73 1 (m r)) 73 2 y) 73 3 (zmin 99 (N 9 4))) 73 4 r) 73 5 (yKN N p r)) rfl rfl rfl rfl rfl) (fun v s hs => ⟨?_, yf_tr (yf_set f rfl) (yf_le hs.2 (by decide))⟩)
  rw [hs.1]
  rfl
theorem m_byLaw {d : Nat} (hd : 5 ≤ d) {N : zF} {G : yG} {p m : Int → Int} {σ : zF} {r : Int} (hY : yY N G p m σ) (h9 : ¬ σ 57 9 = 0) (h0 : 0 ≤ r) (h1 : r < N 0 0) : yT (zx d 191 [.inl (some 57), .inr (.inl r)] σ) (yI fun v s => v = G (N 3 r) (m r) (yj0 N m r) (zmin 99 (N 9 4)) r (yKN N p r) ∧ yf yAh σ s) := by
  obtain ⟨d, rfl, hd'⟩ := y_d hd; have hd := hd'
  have hY2 := hY
  obtain ⟨hB, hm, hp, hM, hL⟩ := hY
  have b1 := hB.2.1
  have hb := hB.2.2.1 r h0 h1
  have hr := hM.2.2 r h0 (by omega)
  rw [e_X12_byLaw, zw_i (x := 12 + r) (by omega) (by omega), zw_i (x := 24 + r) (by omega) (by omega), hr.2.2.2.1, hr.2.2.1, hr.2.2.2.2.2, hM.2.1]
  refine y_g (by omega) (y_g (by omega) (y_g (by omega) (y_g (by omega) (y_g (by omega) (y_if (fun q => ?_) (fun q => ?_))))))
  · refine y_g (by omega) (y_g (by omega) (y_g (by omega) (y_g (by omega) ?_)))
    unfold yj0
    rw [if_pos q]
    exact m_names hd hY2 h9 h0 h1
  · have hj : 0 ≤ N 4 r ∧ N 4 r < N 0 0 := by
      rcases hb.2.2.2.2.2.2.2.1 with z | z <;> omega
    rw [zw_i (x := 12 + N 4 r) (by omega) (by omega), (hM.2.2 (N 4 r) hj.1 (by omega)).2.2.2.2.2]
    refine y_g (by omega) (y_g (by omega) (y_g (by omega) (y_g (by omega) (y_g (by omega) (y_g (by omega) ?_)))))
    unfold yj0
    rw [if_neg q]
    exact m_names hd hY2 h9 h0 h1
theorem m_hours {d : Nat} (hd : 6 ≤ d) {N : zF} {G : yG} {p m : Int → Int} {σ : zF} {r : Int} (hY : yY N G p m σ) (h0 : 0 ≤ r) (h1 : r < N 0 0) : yT (zx d 192 [.inl (some 57), .inr (.inl r)] σ) (yI fun v s => v = yHR N G p m r ∧ yf yAh σ s) := by
  obtain ⟨d, rfl, hd'⟩ := y_d hd; have hd := hd'
  have hY2 := hY
  obtain ⟨hB, hm, hp, hM, hL⟩ := hY
  have b1 := hB.2.1
  have hr := hM.2.2 r h0 (by omega)
  rw [e_X12_hoursOf]
  refine y_if (fun q => ?_) (fun q => ?_)
  · rw [zw_i (x := 12 + r) (by omega) (by omega), hr.2.2.1, hr.2.2.2.2.2]
    refine y_g (by omega) (y_g (by omega) (y_i ⟨?_, yf_rf⟩))
    unfold yHR yHV
    rw [hL.1 q]
  · refine y_cI (m_byLaw hd hY2 q h0 h1) (fun v s hs => y_i ⟨?_, hs.2⟩)
    rw [hs.1]
    rfl
theorem m_all_l {d : Nat} (hd : 6 ≤ d) {N : zF} {G : yG} {p m : Int → Int} {σ0 : zF} : ∀ (j k : Nat) (σ : zF), (k : Int) + j = N 0 0 → yY N G p m σ → yf yAh σ0 σ → yT (P_X12_allHours_4 d (ysum (yHR N G p m) k) (k : Int) σ) (yI fun v s => v = ysum (yHR N G p m) (N 0 0).toNat ∧ yf yAh σ0 s) := by
  intro j
  induction j with
  | zero =>
    intro k σ hk hY f
    have e1 : σ 57 0 = N 0 0 := hY.2.2.2.1.1
    rw [e_X12_allHours_4, e1]
    refine y_n (by omega) (y_i ⟨?_, f⟩)
    rw [show (N 0 0).toNat = k by omega]
  | succ j ih =>
    intro k σ hk hY f
    have e1 : σ 57 0 = N 0 0 := hY.2.2.2.1.1
    have b1 := hY.1.2.1
    rw [e_X12_allHours_4, e1]
    refine y_g (by omega) (y_cI (m_hours hd hY (by omega) (by omega)) (fun v s hs => ?_))
    have bs := ysum_b (yHR_b0 N G p m) k
    have bv := yHR_b N G p m k
    rw [zw_i (x := (k : Int) + 1) (by omega) (by omega), hs.1, zw_i (by omega) (by omega)]
    have := ih (k + 1) s (by omega) (yY_f hY hs.2 (by decide)) (yf_tr f hs.2)
    rw [Int.natCast_succ] at this
    exact this
theorem m_all {d : Nat} (hd : 7 ≤ d) {N : zF} {G : yG} {p m : Int → Int} {σ : zF} (hY : yY N G p m σ) : yT (zx d 193 [.inl (some 57)] σ) (yI fun v s => v = ysum (yHR N G p m) (N 0 0).toNat ∧ yf yAh σ s) := by
  obtain ⟨d, rfl, hd'⟩ := y_d hd; have hd := hd'
  rw [e_X12_allHours]
  exact m_all_l hd (N 0 0).toNat 0 σ (by have := hY.1.1; omega) hY yf_rf
/-! a word, in place -/
theorem m_held {d : Nat} (hd : 1 ≤ d) (x : Int) (σ : zF) : zx d 195 [.inr (.inl x)] σ = zri (max (-9) (min 9 x)) σ := by
  obtain ⟨d, rfl, -⟩ := y_d hd
  rw [e_X12_held, zmax_eq, zmin_eq]
theorem yM_set {N σ : zF} {p m m' : Int → Int} {r v : Int} (h0 : 0 ≤ r) (h1 : r < 12) (hM : yM N p m σ) (hv : m' r = v) (ho : ∀ c, 0 ≤ c → c < 12 → ¬ c = r → m' c = m c) : yM N p m' (zset σ 60 (12 + r) v) := by
  obtain ⟨g1, g2, g3⟩ := hM
  refine ⟨g1, g2, fun c c0 c1 => ?_⟩
  obtain ⟨a1, a2, a3, a4, a5, a6⟩ := g3 c c0 c1
  refine ⟨a1, a2, ?_, ?_, ?_, ?_⟩
  · rw [zset_off (by omega), a3]
  · rw [zset_off (by omega), a4]
  · rw [zset_off (by omega), a5]
  · by_cases e : c = r
    · rw [zset_hit (by omega), e, hv]
    · rw [zset_off (by omega), a6, ho c c0 c1 e]
theorem m_word_l {d : Nat} (hd : 1 ≤ d) {N σ0 : zF} {p m : Int → Int} {r : Int} (hB : yBn N) (h0 : 0 ≤ r) (h1 : r < N 0 0) (hm : yBm m) : ∀ (j : Nat) (k : Int) (σ : zF), 0 ≤ k → k + j = N 0 0 → yM N p (yws N m r k) σ → yf ([60], []) σ0 σ → yT (P_X12_word_30 d r k σ) (yV fun s => yM N p (yws N m r (N 0 0)) s ∧ yf ([60], []) σ0 s) := by
  obtain ⟨b0, b1, b2, b3, b4⟩ := hB
  intro j
  induction j with
  | zero =>
    intro k σ k0 kj g f
    rw [e_X12_word_30, g.1]
    refine y_n (by omega) (y_v ⟨?_, f⟩)
    rw [show k = N 0 0 by omega] at g
    exact g
  | succ j ih =>
    intro k σ k0 kj g f
    have hk := b2 k k0 (by omega)
    have gk := g.2.2 k k0 (by omega)
    have nr : N 4 k = r → ¬ k = r := by
      rintro e rfl
      rcases hk.2.2.2.2.2.2.2.1 with z | z <;> omega
    rw [e_X12_word_30, g.1, zw_i (x := 24 + k) (by omega) (by omega), gk.2.2.2.1, zw_i (x := k + 1) (by omega) (by omega)]
    refine y_g (by omega) (y_g (by omega) (y_if (fun q => ?_) (fun q => ?_)))
    · have e3 : yws N m r k k = m k := by unfold yws; rw [if_neg (nr q), if_neg (by omega)]
      have e4 := hm k k0 (by omega)
      rw [zw_i (x := 12 + k) (by omega) (by omega), gk.2.2.2.2.2, e3, zw_i (x := m k - 1) (by omega) (by omega), m_held hd, zCI_ri]
      refine y_g (by omega) (y_g (by omega) ?_)
      refine ih (k + 1) _ (by omega) (by omega) (yM_set k0 (by omega) g ?_ (fun c c0 c1 hc => ?_)) (yf_set f rfl)
      · unfold yws
        rw [if_neg (nr q), if_pos ⟨k0, by omega, q⟩]
        omega
      · unfold yws
        by_cases hr : c = r
        · rw [if_pos hr, if_pos hr]
        · rw [if_neg hr, if_neg hr]
          exact y_cc (by omega)
    · have e : yws N m r (k + 1) = yws N m r k := by
        funext c
        unfold yws
        by_cases hr : c = r
        · rw [if_pos hr, if_pos hr]
        · rw [if_neg hr, if_neg hr]
          refine y_cc ⟨fun z => ⟨z.1, ?_, z.2.2⟩, fun z => by omega⟩
          have : ¬ c = k := by
            rintro rfl
            exact q z.2.2
          omega
      refine ih (k + 1) _ (by omega) (by omega) ?_ f
      rw [e]
      exact g
theorem m_word {d : Nat} (hd : 2 ≤ d) {N σ : zF} {p m : Int → Int} {r : Int} (word : Int) (hB : yBn N) (hm : yBm m) (hM : yM N p m σ) (h0 : 0 ≤ r) (h1 : r < N 0 0) : yT (zx d 196 [.inl (some 57), .inr (.inl r), .inr (.inl word)] σ) (yV fun s => yM N p (yw N r word m) s ∧ yf ([60], []) σ s) := by
  obtain ⟨d, rfl, hd'⟩ := y_d hd; have hd := hd'
  have b1 := hB.2.1
  have e4 := hm r h0 (by omega)
  have g := hM.2.2 r h0 (by omega)
  rw [e_X12_word, zw_i (x := 12 + r) (by omega) (by omega), g.2.2.2.2.2, zw_i (x := m r + 1) (by omega) (by omega), zw_i (x := m r - 2) (by omega) (by omega), m_held hd, m_held hd, zCI_ri, zCI_ri]
  refine y_if (fun q => ?_) (fun q => y_if (fun q2 => ?_) (fun q2 => ?_))
  · refine y_g (by omega) (y_g (by omega) ?_)
    have e : yw N r word m = yws N m r (N 0 0) := by funext c; unfold yw; rw [if_pos q]
    rw [e]
    refine m_word_l hd hB h0 h1 hm (N 0 0).toNat 0 _ (by omega) (by omega) (yM_set h0 (by omega) hM ?_ (fun c c0 c1 hc => ?_)) (yf_set yf_rf rfl)
    · unfold yws
      rw [if_pos rfl]
      omega
    · unfold yws
      rw [if_neg hc, if_neg (by omega)]
  · refine y_g (by omega) (y_g (by omega) (y_v ⟨yM_set h0 (by omega) hM ?_ (fun c c0 c1 hc => ?_), yf_set yf_rf rfl⟩))
    · unfold yw
      rw [if_neg q, if_pos q2, if_pos rfl]
      omega
    · unfold yw
      rw [if_neg q, if_pos q2, if_neg hc]
  · refine y_v ⟨?_, yf_rf⟩
    have e : yw N r word m = m := by funext c; unfold yw; rw [if_neg q, if_neg q2]
    rw [e]
    exact hM
theorem m_keep86_l {d : Nat} {N σ0 : zF} {p m : Int → Int} : ∀ (j : Nat) (k : Int) (σ : zF), 0 ≤ k → k + j = 12 → yM N p m σ → (∀ c, 0 ≤ c → c < k → σ 86 c = m c) → yf ([86], []) σ0 σ → yT (P_X12_keeps_86_2 d k σ) (yV fun s => (∀ c, 0 ≤ c → c < 12 → s 86 c = m c) ∧ yf ([86], []) σ0 s) := by
  intro j
  induction j with
  | zero =>
    intro k σ k0 kj g h f
    rw [e_X12_keeps_86_2]
    refine y_n (by omega) (y_v ⟨?_, f⟩)
    rw [show k = 12 by omega] at h
    exact h
  | succ j ih =>
    intro k σ k0 kj g h f
    rw [e_X12_keeps_86_2, zw_i (x := 12 + k) (by omega) (by omega), zw_i (x := k + 1) (by omega) (by omega), (g.2.2 k k0 (by omega)).2.2.2.2.2]
    refine y_g (by omega) (y_g (by omega) (y_g (by omega) ?_))
    refine ih (k + 1) _ (by omega) (by omega) (yM_f g (A := ([86], [])) (yf_set yf_rf rfl) (by decide)) (fun c c0 c1 => ?_) (yf_set f rfl)
    by_cases e : c = k
    · rw [zset_hit e, e]
    · rw [zset_off e]
      exact h c c0 (by omega)
theorem m_keep86 {d : Nat} (hd : 1 ≤ d) {N σ : zF} {p m : Int → Int} (hM : yM N p m σ) : yT (zx d 197 [.inl (some 57), .inl (some 86)] σ) (yV fun s => (∀ c, 0 ≤ c → c < 12 → s 86 c = m c) ∧ yf ([86], []) σ s) := by
  obtain ⟨d, rfl, hd'⟩ := y_d hd; have hd := hd'
  rw [e_X12_keeps_86]
  exact m_keep86_l 12 0 σ (by omega) (by omega) hM (fun c a b => by omega) yf_rf
theorem m_keep87_l {d : Nat} {N σ0 : zF} {p m : Int → Int} : ∀ (j : Nat) (k : Int) (σ : zF), 0 ≤ k → k + j = 12 → yM N p m σ → (∀ c, 0 ≤ c → c < k → σ 87 c = m c) → yf ([87], []) σ0 σ → yT (P_X12_keeps_87_2 d k σ) (yV fun s => (∀ c, 0 ≤ c → c < 12 → s 87 c = m c) ∧ yf ([87], []) σ0 s) := by
  intro j
  induction j with
  | zero =>
    intro k σ k0 kj g h f
    rw [e_X12_keeps_87_2]
    refine y_n (by omega) (y_v ⟨?_, f⟩)
    rw [show k = 12 by omega] at h
    exact h
  | succ j ih =>
    intro k σ k0 kj g h f
    rw [e_X12_keeps_87_2, zw_i (x := 12 + k) (by omega) (by omega), zw_i (x := k + 1) (by omega) (by omega), (g.2.2 k k0 (by omega)).2.2.2.2.2]
    refine y_g (by omega) (y_g (by omega) (y_g (by omega) ?_))
    refine ih (k + 1) _ (by omega) (by omega) (yM_f g (A := ([87], [])) (yf_set yf_rf rfl) (by decide)) (fun c c0 c1 => ?_) (yf_set f rfl)
    by_cases e : c = k
    · rw [zset_hit e, e]
    · rw [zset_off e]
      exact h c c0 (by omega)
theorem m_keep87 {d : Nat} (hd : 1 ≤ d) {N σ : zF} {p m : Int → Int} (hM : yM N p m σ) : yT (zx d 197 [.inl (some 57), .inl (some 87)] σ) (yV fun s => (∀ c, 0 ≤ c → c < 12 → s 87 c = m c) ∧ yf ([87], []) σ s) := by
  obtain ⟨d, rfl, hd'⟩ := y_d hd; have hd := hd'
  rw [e_X12_keeps_87]
  exact m_keep87_l 12 0 σ (by omega) (by omega) hM (fun c a b => by omega) yf_rf
theorem m_keep75_l {d : Nat} {N σ0 : zF} {p m : Int → Int} : ∀ (j : Nat) (k : Int) (σ : zF), 0 ≤ k → k + j = 12 → yM N p m σ → (∀ c, 0 ≤ c → c < k → σ 75 c = m c) → yf ([75], []) σ0 σ → yT (P_X12_keeps_75_2 d k σ) (yV fun s => (∀ c, 0 ≤ c → c < 12 → s 75 c = m c) ∧ yf ([75], []) σ0 s) := by
  intro j
  induction j with
  | zero =>
    intro k σ k0 kj g h f
    rw [e_X12_keeps_75_2]
    refine y_n (by omega) (y_v ⟨?_, f⟩)
    rw [show k = 12 by omega] at h
    exact h
  | succ j ih =>
    intro k σ k0 kj g h f
    rw [e_X12_keeps_75_2, zw_i (x := 12 + k) (by omega) (by omega), zw_i (x := k + 1) (by omega) (by omega), (g.2.2 k k0 (by omega)).2.2.2.2.2]
    refine y_g (by omega) (y_g (by omega) (y_g (by omega) ?_))
    refine ih (k + 1) _ (by omega) (by omega) (yM_f g (A := ([75], [])) (yf_set yf_rf rfl) (by decide)) (fun c c0 c1 => ?_) (yf_set f rfl)
    by_cases e : c = k
    · rw [zset_hit e, e]
    · rw [zset_off e]
      exact h c c0 (by omega)
theorem m_keep75 {d : Nat} (hd : 1 ≤ d) {N σ : zF} {p m : Int → Int} (hM : yM N p m σ) : yT (zx d 197 [.inl (some 57), .inl (some 75)] σ) (yV fun s => (∀ c, 0 ≤ c → c < 12 → s 75 c = m c) ∧ yf ([75], []) σ s) := by
  obtain ⟨d, rfl, hd'⟩ := y_d hd; have hd := hd'
  rw [e_X12_keeps_75]
  exact m_keep75_l 12 0 σ (by omega) (by omega) hM (fun c a b => by omega) yf_rf
theorem m_again86_l {d : Nat} {N σ0 : zF} {p m m0 : Int → Int} : ∀ (j : Nat) (k : Int) (σ : zF), 0 ≤ k → k + j = 12 → yM N p (fun c => if c < k then m c else m0 c) σ → (∀ c, 0 ≤ c → c < 12 → σ 86 c = m c) → yf ([60], []) σ0 σ → yT (P_X12_again_86_2 d k σ) (yV fun s => yM N p m s ∧ yf ([60], []) σ0 s) := by
  intro j
  induction j with
  | zero =>
    intro k σ k0 kj g h f
    rw [e_X12_again_86_2]
    refine y_n (by omega) (y_v ⟨⟨g.1, g.2.1, fun c c0 c1 => ?_⟩, f⟩)
    have := g.2.2 c c0 c1
    simp only [if_pos (show c < k by omega)] at this
    exact this
  | succ j ih =>
    intro k σ k0 kj g h f
    rw [e_X12_again_86_2, zw_i (x := 12 + k) (by omega) (by omega), zw_i (x := k + 1) (by omega) (by omega), h k k0 (by omega)]
    refine y_g (by omega) (y_g (by omega) (y_g (by omega) ?_))
    refine ih (k + 1) _ (by omega) (by omega) (yM_set k0 (by omega) g ?_ (fun c c0 c1 hc => ?_)) h (yf_set f rfl)
    · show (if k < k + 1 then m k else m0 k) = m k
      rw [if_pos (by omega)]
    · show (if c < k + 1 then m c else m0 c) = if c < k then m c else m0 c
      exact y_cc (by omega)
theorem m_again86 {d : Nat} (hd : 1 ≤ d) {N σ : zF} {p m m0 : Int → Int} (hM : yM N p m0 σ) (h : ∀ c, 0 ≤ c → c < 12 → σ 86 c = m c) : yT (zx d 198 [.inl (some 57), .inl (some 86)] σ) (yV fun s => yM N p m s ∧ yf ([60], []) σ s) := by
  obtain ⟨d, rfl, hd'⟩ := y_d hd; have hd := hd'
  rw [e_X12_again_86]
  refine m_again86_l (m0 := m0) 12 0 σ (by omega) (by omega) ⟨hM.1, hM.2.1, fun c c0 c1 => ?_⟩ h yf_rf
  simp only [if_neg (show ¬ c < 0 by omega)]
  exact hM.2.2 c c0 c1
theorem m_again87_l {d : Nat} {N σ0 : zF} {p m m0 : Int → Int} : ∀ (j : Nat) (k : Int) (σ : zF), 0 ≤ k → k + j = 12 → yM N p (fun c => if c < k then m c else m0 c) σ → (∀ c, 0 ≤ c → c < 12 → σ 87 c = m c) → yf ([60], []) σ0 σ → yT (P_X12_again_87_2 d k σ) (yV fun s => yM N p m s ∧ yf ([60], []) σ0 s) := by
  intro j
  induction j with
  | zero =>
    intro k σ k0 kj g h f
    rw [e_X12_again_87_2]
    refine y_n (by omega) (y_v ⟨⟨g.1, g.2.1, fun c c0 c1 => ?_⟩, f⟩)
    have := g.2.2 c c0 c1
    simp only [if_pos (show c < k by omega)] at this
    exact this
  | succ j ih =>
    intro k σ k0 kj g h f
    rw [e_X12_again_87_2, zw_i (x := 12 + k) (by omega) (by omega), zw_i (x := k + 1) (by omega) (by omega), h k k0 (by omega)]
    refine y_g (by omega) (y_g (by omega) (y_g (by omega) ?_))
    refine ih (k + 1) _ (by omega) (by omega) (yM_set k0 (by omega) g ?_ (fun c c0 c1 hc => ?_)) h (yf_set f rfl)
    · show (if k < k + 1 then m k else m0 k) = m k
      rw [if_pos (by omega)]
    · show (if c < k + 1 then m c else m0 c) = if c < k then m c else m0 c
      exact y_cc (by omega)
theorem m_again87 {d : Nat} (hd : 1 ≤ d) {N σ : zF} {p m m0 : Int → Int} (hM : yM N p m0 σ) (h : ∀ c, 0 ≤ c → c < 12 → σ 87 c = m c) : yT (zx d 198 [.inl (some 57), .inl (some 87)] σ) (yV fun s => yM N p m s ∧ yf ([60], []) σ s) := by
  obtain ⟨d, rfl, hd'⟩ := y_d hd; have hd := hd'
  rw [e_X12_again_87]
  refine m_again87_l (m0 := m0) 12 0 σ (by omega) (by omega) ⟨hM.1, hM.2.1, fun c c0 c1 => ?_⟩ h yf_rf
  simp only [if_neg (show ¬ c < 0 by omega)]
  exact hM.2.2 c c0 c1
