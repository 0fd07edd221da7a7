/-! the way itself -/
theorem y_least {P : Nat → Prop} : ∀ n : Nat, P n → ∃ m, m ≤ n ∧ P m ∧ ∀ k, k < m → ¬ P k := by
  intro n
  induction n using Nat.strongRecOn with
  | ind n ih =>
    intro h
    by_cases q : ∃ k, k < n ∧ P k
    · obtain ⟨k, k1, k2⟩ := q
      obtain ⟨m, m1, m2, m3⟩ := ih k k1 k2
      exact ⟨m, by omega, m2, m3⟩
    · exact ⟨n, Nat.le_refl _, h, fun k hk hp => q ⟨k, hk, hp⟩⟩
/-- road r leads on from at -/
abbrev yLd1 (N : zF) (p H D : Int → Int) (a r : Int) : Prop := p r = 0 ∧ (N 1 r = a ∨ N 2 r = a) ∧ D (N 1 r + N 2 r - a) + H r = D a
def yNx (N : zF) (p H D : Int → Int) (a r : Int) : Prop := 0 ≤ r ∧ r < N 0 0 ∧ yLd1 N p H D a r ∧ ∀ q, 0 ≤ q → q < r → ¬ yLd1 N p H D a q
theorem yNx_ex {N : zF} {p H : Int → Int} {s a : Int} (hB : yBn N) (ok : yOK (N 0 0) (N 1) (N 2) H p) (hs : 0 ≤ s ∧ s < 8) (hne : ¬ a = s) (hf : yD (N 0 0) (N 1) (N 2) H p s a < 1000000) : ∃ r, yNx N p H (yD (N 0 0) (N 1) (N 2) H p s) a r := by
  obtain ⟨r, q, g1, g2, g3, g4, g5⟩ := yD_pred hs hB.1 ok hne hf
  have h : yLd1 N p H (yD (N 0 0) (N 1) (N 2) H p s) a ((r.toNat : Nat) : Int) := by
    rw [show ((r.toNat : Nat) : Int) = r by omega]
    refine ⟨g3, by rcases g4 with z | z; exact Or.inl z.1; exact Or.inr z.1, ?_⟩
    have : N 1 r + N 2 r - a = q := by rcases g4 with z | z <;> omega
    rw [this]
    exact g5
  obtain ⟨m, m1, m2, m3⟩ := y_least (P := fun k => yLd1 N p H (yD (N 0 0) (N 1) (N 2) H p s) a (k : Int)) r.toNat h
  refine ⟨(m : Int), by omega, by omega, m2, fun k k0 k1 hk => ?_⟩
  refine m3 k.toNat (by omega) ?_
  rw [show ((k.toNat : Nat) : Int) = k by omega]
  exact hk
theorem c_other {d : Nat} (hd : 1 ≤ d) {N σ : zF} (hC : yC N σ) {r : Int} (a : Int) (h0 : 0 ≤ r) (h1 : r < 12) : zx d 23 [.inl (some 1), .inr (.inl r), .inr (.inl a)] σ = zri (if N 1 r = a then N 2 r else if N 2 r = a then N 1 r else -1) σ := by
  obtain ⟨d, rfl, -⟩ := y_d hd
  have c := hC.2.2 r h0 h1
  rw [e_X3_otherEnd]
  simp only [if_pos (show 0 ≤ r ∧ r < 12 from ⟨h0, h1⟩)]
  rw [c.1, c.2.1]
  by_cases e1 : N 1 r = a
  · rw [if_pos e1, if_pos e1]
  · rw [if_neg e1, if_neg e1]
    by_cases e2 : N 2 r = a
    · rw [if_pos e2, if_pos e2]
    · rw [if_neg e2, if_neg e2]
theorem c_next_l {d : Nat} (hd : 1 ≤ d) {N σ : zF} {p H D : Int → Int} {a r : Int} (hB : yBn N) (hC : yC N σ) (hp : p = ypw N (σ 17 9)) (ok : yOK (N 0 0) (N 1) (N 2) H p) (ha : 0 ≤ a ∧ a < 8) (h22 : ∀ c, 0 ≤ c → c < N 0 0 → σ 22 c = H c) (h23 : ∀ c, 0 ≤ c ∧ c < 8 → σ 23 c = D c) (hD : ∀ c, 0 ≤ D c ∧ D c ≤ 1000000) (hN : yNx N p H D a r) : ∀ (j : Nat) (k : Int), 0 ≤ k → k + j = r → P_X9_nextRoad_2 d a k σ = zri r σ := by
  intro j
  have n1 := hB.2.1
  obtain ⟨r0, r1, hl, hm⟩ := hN
  have at_k : ∀ k, 0 ≤ k → k < N 0 0 → P_X9_nextRoad_2 d a k σ = (if yLd1 N p H D a k then zri k σ else P_X9_nextRoad_2 d a (k + 1) σ) := by
    intro k k0 k1
    obtain ⟨o1, o2, o3, o4, o5, o6, o7⟩ := ok k k0 k1
    rw [e_X9_nextRoad_2, hC.1, if_pos (by omega), c_other hd hC a k0 (by omega), zCI_ri, c_isOpen hd hC k0 (by omega), zCI_ri, y01, ← hp, zw_i (x := k + 1) (by omega) (by omega), h22 k k0 k1, h23 a ha]
    by_cases q : p k = 0
    · rw [if_pos q]
      by_cases e1 : N 1 k = a
      · have b := hD (N 2 k)
        rw [if_pos e1, if_neg (by omega), if_pos ⟨o3, o4⟩, if_pos (by omega), if_pos ha, h23 _ ⟨o3, o4⟩, zw_i (by omega) (by omega)]
        refine y_cc ⟨fun z => ⟨q, Or.inl e1, ?_⟩, fun z => ?_⟩
        · rw [show N 1 k + N 2 k - a = N 2 k by omega]; exact z
        · have := z.2.2
          rw [show N 1 k + N 2 k - a = N 2 k by omega] at this
          exact this
      · rw [if_neg e1]
        by_cases e2 : N 2 k = a
        · have b := hD (N 1 k)
          rw [if_pos e2, if_neg (by omega), if_pos ⟨o1, o2⟩, if_pos (by omega), if_pos ha, h23 _ ⟨o1, o2⟩, zw_i (by omega) (by omega)]
          refine y_cc ⟨fun z => ⟨q, Or.inr e2, ?_⟩, fun z => ?_⟩
          · rw [show N 1 k + N 2 k - a = N 1 k by omega]; exact z
          · have := z.2.2
            rw [show N 1 k + N 2 k - a = N 1 k by omega] at this
            exact this
        · rw [if_neg e2, if_pos rfl, if_neg]
          rintro ⟨-, h | h, -⟩
          · exact e1 h
          · exact e2 h
    · rw [if_neg q, if_neg]
      rintro ⟨h, -⟩
      exact q h
  induction j with
  | zero =>
    intro k k0 hk
    obtain rfl : k = r := by omega
    rw [at_k k k0 (by omega), if_pos hl]
  | succ j ih =>
    intro k k0 hk
    rw [at_k k k0 (by omega), if_neg (hm k k0 (by omega))]
    exact ih (k + 1) (by omega) (by omega)
theorem m_next_l {d : Nat} (hd : 1 ≤ d) {N σ : zF} {p m H D : Int → Int} {a r x y sum : Int} (hB : yBn N) (hM : yM N p m σ) (hp : yBp N p) (ok : yOK (N 0 0) (N 1) (N 2) H p) (ha : 0 ≤ a ∧ a < 8) (h84 : ∀ c, 0 ≤ c → c < N 0 0 → σ 84 c = H c) (h85 : ∀ c, 0 ≤ c ∧ c < 8 → σ 85 c = yMf D c) (hD : ∀ c, 0 ≤ D c) (hDa : D a ≤ 693) (hN : yNx N p H D a r) : ∀ (j : Nat) (k : Int), 0 ≤ k → k + j = r → P_X12_along_19 d x y a sum k σ = (if sum = y then zri r σ else P_X12_along_8 d x y (N 1 r + N 2 r - a) (zw (sum + 1)) σ) := by
  intro j
  have n1 := hB.2.1
  obtain ⟨r0, r1, hl, hm⟩ := hN
  have at_k : ∀ k, 0 ≤ k → k < N 0 0 → P_X12_along_19 d x y a sum k σ = (if yLd1 N p H D a k then (if sum = y then zri k σ else P_X12_along_8 d x y (N 1 k + N 2 k - a) (zw (sum + 1)) σ) else P_X12_along_19 d x y a sum (k + 1) σ) := by
    intro k k0 k1
    obtain ⟨o1, o2, o3, o4, o5, o6, o7⟩ := ok k k0 k1
    have c := hM.2.2 k k0 (by omega)
    have pk := hp k k0 k1
    rw [e_X12_along_19, m_isPl hd hM k0 (by omega), zCI_ri, y01, zw_i (x := k + 1) (by omega) (by omega)]
    by_cases q : p k = 1
    · rw [if_pos q, if_neg]
      rintro ⟨h, -⟩
      omega
    · rw [if_neg q, m_ends hd hM a k0 (by omega), zCI_ri, y01]
      by_cases e : N 1 k = a ∨ N 2 k = a
      · have oth : 0 ≤ N 1 k + N 2 k - a ∧ N 1 k + N 2 k - a < 8 := by omega
        have eo := h85 _ oth
        have ea := h85 a ha
        have ea2 : yMf D a = D a := if_pos (by omega)
        have bo := hD (N 1 k + N 2 k - a)
        rw [if_pos e, c.1, c.2.1, zw_i (x := N 1 k + N 2 k) (by omega) (by omega), zw_i (x := N 1 k + N 2 k - a) (by omega) (by omega), h84 k k0 k1, eo, ea, ea2]
        simp only [if_pos (show 0 ≤ k ∧ k < 12 by omega), if_pos oth, if_pos ha]
        have mo : 0 ≤ yMf D (N 1 k + N 2 k - a) ∧ yMf D (N 1 k + N 2 k - a) ≤ 1000000 := by unfold yMf; split <;> omega
        rw [zw_i (x := H k + yMf D (N 1 k + N 2 k - a)) (by omega) (by omega)]
        refine y_cc ⟨fun z => ⟨by omega, e, ?_⟩, fun z => ?_⟩
        · unfold yMf at z
          split at z <;> omega
        · have := z.2.2
          unfold yMf
          rw [if_pos (by omega)]
          omega
      · rw [if_neg e, if_neg]
        rintro ⟨-, h, -⟩
        exact e h
  induction j with
  | zero =>
    intro k k0 hk
    obtain rfl : k = r := by omega
    rw [at_k k k0 (by omega), if_pos hl]
  | succ j ih =>
    intro k k0 hk
    rw [at_k k k0 (by omega), if_neg (hm k k0 (by omega))]
    exact ih (k + 1) (by omega) (by omega)
/-- both walk the same way -/
theorem y_walk {d : Nat} (hd : 2 ≤ d) {N σ τ : zF} {m H D : Int → Int} {x s y : Int} (hx : 0 ≤ x) (hs : 0 ≤ s ∧ s < 8) (es : x % 10 = s) (hB : yBn N) (hC : yC N σ) (hw : σ 17 9 = -1) (ok : yOK (N 0 0) (N 1) (N 2) H (N 5)) (eD : D = yD (N 0 0) (N 1) (N 2) H (N 5) s) (h22 : ∀ c, 0 ≤ c → c < N 0 0 → σ 22 c = H c) (h23 : ∀ c, 0 ≤ c ∧ c < 8 → σ 23 c = D c) (hM : yM N (N 5) m τ) (hp : yBp N (N 5)) (h84 : ∀ c, 0 ≤ c → c < N 0 0 → τ 84 c = H c) (h85 : ∀ c, 0 ≤ c ∧ c < 8 → τ 85 c = yMf D c) : ∀ (j : Nat) (a many : Int), (0 ≤ a ∧ a < 8) → 0 ≤ many → D a < 1000000 → yrank D (D a) ≤ (j : Int) → many + j ≤ 7 → ∃ v, P_X9_tellWay_37 d s y a many σ = zri v σ ∧ P_X12_along_8 d x y a many τ = zri v τ := by
  intro j
  have n1 := hB.2.1
  have jD := yD_j (s := s) hB.1 ok
  rw [← eD] at jD
  have finish : ∀ (a many : Int), a = s → 0 ≤ many → many ≤ 7 → ∃ v, P_X9_tellWay_37 d s y a many σ = zri v σ ∧ P_X12_along_8 d x y a many τ = zri v τ := by
    intro a many e m0 m1
    rw [e_X9_tellWay_37, if_pos (by omega), if_pos e, e_X12_along_8, if_neg (show ¬ (10 : Int) = 0 by decide), zrem_p hx, es, if_pos e]
    by_cases q : y = -2
    · rw [if_pos q, if_pos q]
      exact ⟨many, rfl, rfl⟩
    · rw [if_neg q, if_neg q]
      exact ⟨-2, rfl, rfl⟩
  induction j with
  | zero =>
    intro a many ha m0 hf hr hm
    by_cases e : a = s
    · exact finish a many e m0 (by omega)
    · exfalso
      have h1 := (jD.2.1 a e).1
      have h2 := yrank_lt (d := D) hs (y := D a) (by rw [jD.1]; omega)
      have h3 := (yrank_7 (d := D) hs).1
      omega
  | succ j ih =>
    intro a many ha m0 hf hr hm
    by_cases e : a = s
    · exact finish a many e m0 (by omega)
    · obtain ⟨r, hN⟩ := yNx_ex hB ok hs e (by rw [← eD]; exact hf)
      rw [← eD] at hN
      have hN2 := hN
      obtain ⟨r0, r1, ⟨l1, l2, l3⟩, hmn⟩ := hN
      obtain ⟨o1, o2, o3, o4, o5, o6, o7⟩ := ok r r0 r1
      have oth : 0 ≤ N 1 r + N 2 r - a ∧ N 1 r + N 2 r - a < 8 := by omega
      have b693 := yD_693 (s := s) (c := a) hs hB.1 ok ha (by rw [← eD]; exact hf)
      rw [← eD] at b693
      have hp1 : N 5 = ypw N (σ 17 9) ∨ True := Or.inr trivial
      have nc : zx d 97 [.inl (some 17), .inr (.inl a)] σ = zri r σ := by
        obtain ⟨e', rfl, hd'⟩ := y_d hd
        rw [e_X9_nextRoad]
        have hNw : yNx N (ypw N (σ 17 9)) H D a r := by
          have ew : ∀ q, 0 ≤ q → ypw N (σ 17 9) q = N 5 q := by
            intro q hq
            unfold ypw
            rw [hw, if_neg (by omega)]
          refine ⟨r0, r1, ⟨(ew r r0).trans l1, l2, l3⟩, fun q q0 q1 hq => hmn q q0 q1 ⟨(ew q q0).symm.trans hq.1, hq.2⟩⟩
        exact c_next_l hd' (p := ypw N (σ 17 9)) hB hC rfl ok ha h22 h23 (fun c => yjd_b jD c) hNw r.toNat 0 (by omega) (by omega)
      have nm := m_next_l (d := d) (by omega) (x := x) (y := y) (sum := many) hB hM hp ok ha h84 h85 (fun c => (yjd_b jD c).1) b693 hN2 r.toNat 0 (by omega) (by omega)
      rw [e_X9_tellWay_37, if_pos (by omega), if_neg e, nc, zCI_ri, if_neg (by omega), e_X12_along_8, if_neg (show ¬ (10 : Int) = 0 by decide), zrem_p hx, es, if_neg e, nm]
      by_cases q : many = y
      · rw [if_pos q, if_pos q]
        exact ⟨r, rfl, rfl⟩
      · rw [if_neg q, if_neg q, c_other (by omega) hC a r0 (by omega), zCI_ri, zw_i (x := many + 1) (by omega) (by omega)]
        have eo : (if N 1 r = a then N 2 r else if N 2 r = a then N 1 r else -1) = N 1 r + N 2 r - a := by
          split
          · omega
          · split <;> omega
        rw [eo]
        have h2 := yrank_lt (d := D) oth (y := D a) (by omega)
        exact ih (N 1 r + N 2 r - a) (many + 1) oth (by omega) (by omega) (by omega) (by omega)
theorem o_way {x y : Int} (hx : zin x) : yStep 113 202 [.inr (.inl x), .inr (.inl y)] := by
  intro d hd c N G σ hI c0 c1
  obtain ⟨d, rfl, hd'⟩ := y_d hd; have hd := hd'
  obtain ⟨n1, n2, n3, n4⟩ := yI_n hI
  by_cases hp : yPair x
  · have hp' := hp
    unfold yPair at hp'
    have hx' := hx
    unfold zin at hx'
    rw [e_X11_way, k_isPair1 (by omega) hx hp, zCI_ri, if_neg (by decide)]
    refine y_if (fun q => y_i ?_) (fun q => ?_)
    · rw [e_X12_way, k_mTwo1 (by omega) hx hp, zCI_ri, if_neg (by decide), if_pos q]
      exact y_i ⟨rfl, N, G, yInv_id hI⟩
    · rw [zdiv_p hp'.1 hx'.2 (by decide), zrem_p hp'.1]
      refine y_cV (c_begin (by omega) (-1) hI.1 (yI_t hI c1)) (fun s hs => y_n (by decide) (y_n (by decide) ?_))
      obtain ⟨d, rfl, hd'⟩ := y_d (k := 140) (d := d) (by omega)
      rw [e_X9_tellWay]
      have main : yT (zCV LAY (zx d 94 [.inl (some 17), .inr (.inl (x % 10))] s) fun s1 => if 0 ≤ x / 10 ∧ x / 10 < 8 then (if s1 23 (x / 10) < 1000000 then (if y = -1 then (if 0 ≤ x / 10 ∧ x / 10 < 8 then zri (s1 23 (x / 10)) s1 else none) else P_X9_tellWay_37 d (x % 10) y (x / 10) 0 s1) else zri (-2) s1) else none) (yI fun v s1 => yT (zx (d + 1 + 1) 202 [.inl (some 57), .inr (.inl x), .inr (.inl y)] s1) (yI fun w t => w = v ∧ ∃ N' G', yInv (c + 1) N' G' t)) := by
        refine y_cV (c_meas (by omega) (s := x % 10) (by omega) hs.1) (fun s2 hs2 => y_g (by omega) ?_)
        have f : yf ySC σ s2 := yf_tr (yf_le hs.2 (by decide)) (yf_le hs2.2.2.2 (by decide))
        have hY := yY_f hI.2.1 f (by decide)
        have e1 := hs2.1
        rw [yD_w _ n3] at e1
        have e2 := hs2.2.1
        rw [yHR_w] at e2
        have ok := yOK_of (G := G) hI.1.1 (N 5) (N 5) (N 6)
        have bD := fun c => yD_b (s := x % 10) n3 ok c
        have P2 := hs2.2.2.1
        have inv : ∀ t, yf yAf s2 t → yInv (c + 1) N G t := fun t ft => yth hI P2 (by omega) f (yM_f hY.2.2.2.1 ft (by decide)) (yf_le ft (by decide))
        rw [e1 (x / 10) (by omega)]
        refine y_if (fun z => y_if (fun z2 => y_g (by omega) (y_i ?_)) (fun z2 => ?_)) (fun z => y_i ?_)
        · rw [e_X12_way, k_mTwo1 (by omega) hx hp, zCI_ri, if_neg (by decide), if_neg q]
          refine y_cI (m_wayOf (by omega) hx hp hY) (fun w t ht => ?_)
          have ew : w = yD (N 0 0) (N 1) (N 2) (yHR N G (N 5) (N 6)) (N 5) (x % 10) (x / 10) := by rw [ht.1]; unfold yW; rw [if_pos z]
          have := (bD (x / 10)).1
          exact y_n (by omega) (y_g z2 (y_i ⟨ew, N, G, inv t ht.2.2.2⟩))
        · -- the walk
          have hw := P2.2.2.2.2.2.2.2.1
          have fin : ∀ τ, yf yAf s2 τ → (∀ c, 0 ≤ c ∧ c < 8 → τ 85 c = yMf (yD (N 0 0) (N 1) (N 2) (yHR N G (N 5) (N 6)) (N 5) (x % 10)) c) → (∀ c, 0 ≤ c → c < N 0 0 → τ 84 c = yHR N G (N 5) (N 6) c) → ∃ v, P_X9_tellWay_37 d (x % 10) y (x / 10) 0 s2 = zri v s2 ∧ P_X12_along_8 d x y (x / 10) 0 τ = zri v τ := by
            intro τ fτ t85 t84
            exact y_walk (by omega) hp'.1 (by omega) rfl hI.1.1 P2.2.2.2.2.1 hw ok rfl e2 e1 (yM_f hY.2.2.2.1 fτ (by decide)) hY.2.2.1 t84 t85 7 (x / 10) 0 (by omega) (by omega) z (yrank_7 (by omega)).2 (by omega)
          have get : ∃ v, P_X9_tellWay_37 d (x % 10) y (x / 10) 0 s2 = zri v s2 := by
            obtain ⟨w, t, -, ht⟩ := y_eI (m_wayOf (d := 8) (by omega) hx hp hY)
            obtain ⟨v, hv, -⟩ := fin t ht.2.2.2 ht.2.1 ht.2.2.1
            exact ⟨v, hv⟩
          obtain ⟨v, hv⟩ := get
          rw [hv]
          refine y_i ?_
          rw [e_X12_way, k_mTwo1 (by omega) hx hp, zCI_ri, if_neg (by decide), if_neg q]
          refine y_cI (m_wayOf (by omega) hx hp hY) (fun w t ht => ?_)
          have ew : w = yD (N 0 0) (N 1) (N 2) (yHR N G (N 5) (N 6)) (N 5) (x % 10) (x / 10) := by rw [ht.1]; unfold yW; rw [if_pos z]
          have := (bD (x / 10)).1
          refine y_n (by omega) (y_n z2 ?_)
          obtain ⟨v2, hv2, hv3⟩ := fin t ht.2.2.2 ht.2.1 ht.2.2.1
          rw [hv] at hv2
          have ev : v = v2 := by
            have := Option.some.inj hv2
            simp only [Prod.mk.injEq, Option.some.injEq, Sum.inr.injEq, Sum.inl.injEq] at this
            exact this.1
          have em : zx (d + 1) 201 [.inl (some 57), .inr (.inl x), .inr (.inl y)] t = P_X12_along_8 d x y (x / 10) 0 t := by
            rw [e_X12_along, if_neg (show ¬ (10 : Int) = 0 by decide), zdiv_p hp'.1 hx'.2 (by decide)]
          rw [em, hv3, zCI_ri]
          exact y_i ⟨ev.symm, N, G, inv t ht.2.2.2⟩
        · rw [e_X12_way, k_mTwo1 (by omega) hx hp, zCI_ri, if_neg (by decide), if_neg q]
          refine y_cI (m_wayOf (by omega) hx hp hY) (fun w t ht => ?_)
          have ew : w = -2 := by rw [ht.1]; unfold yW; rw [if_neg z]
          exact y_g ew (y_i ⟨ew, N, G, inv t ht.2.2.2⟩)
      exact y_cI main (fun v s h => y_i h)
  · rw [e_X11_way, k_isPair0 (by omega) hx hp, zCI_ri, if_pos rfl]
    refine y_i ?_
    rw [e_X12_way, k_mTwo0 (by omega) hx hp, zCI_ri, if_pos rfl]
    exact y_i ⟨rfl, N, G, yInv_id hI⟩
