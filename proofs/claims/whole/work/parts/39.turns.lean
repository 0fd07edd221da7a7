/-! two by turns -/
theorem yfinI {N σ : zF} {H H' p : Int → Int} {s e w : Int} (hs : 0 ≤ s ∧ s < 8) (he : 0 ≤ e ∧ e < 8) (hB : yBn N) (hC : yC N σ) (ok : yOK (N 0 0) (N 1) (N 2) H p) (ok' : yOK (N 0 0) (N 1) (N 2) H' p) (hp : ∀ r, 0 ≤ r → r < N 0 0 → (p r = 0 ↔ N 5 r = 0 ∧ ¬ r = w)) : yD (N 0 0) (N 1) (N 2) H p s e < 1000000 ↔ yD (N 0 0) (N 1) (N 2) H' p s e < 1000000 := by
  have a := c_joins (d := 1) (by omega) hs he hB hC ok hp
  have b := c_joins (d := 1) (by omega) hs he hB hC ok' hp
  rw [a] at b
  have := Option.some.inj b
  simp only [Prod.mk.injEq, Option.some.injEq, Sum.inr.injEq, Sum.inl.injEq] at this
  have t := this.1
  by_cases q : yD (N 0 0) (N 1) (N 2) H p s e < 1000000
  · by_cases z : yD (N 0 0) (N 1) (N 2) H' p s e < 1000000
    · exact ⟨fun _ => z, fun _ => q⟩
    · rw [if_pos q, if_neg z] at t
      omega
  · by_cases z : yD (N 0 0) (N 1) (N 2) H' p s e < 1000000
    · rw [if_neg q, if_pos z] at t
      omega
    · exact ⟨fun h => absurd h q, fun h => absurd h z⟩
def yWn (N : zF) (G : yG) (x : Int) (m : Int → Int) : Int := if yW N G (N 5) m x = -2 then 999 else yW N G (N 5) m x
theorem yWn_b {N : zF} {G : yG} {x : Int} {m : Int → Int} (hB : yBn N) (hP : yPair x) : 0 ≤ yWn N G x m ∧ yWn N G x m ≤ 999 := by
  unfold yPair at hP
  have b1 := yD_693 (p := N 5) (s := x % 10) (c := x / 10) (by omega) hB.1 (yOK_of (G := G) hB (N 5) (N 5) m) (by omega)
  have b2 := yD_b (p := N 5) (s := x % 10) hB.1 (yOK_of (G := G) hB (N 5) (N 5) m) (x / 10)
  unfold yWn yW
  split <;> split <;> omega
theorem yWn_f {N : zF} {G : yG} {x : Int} {m : Int → Int} (hB : yBn N) (hP : yPair x) (hf : yD (N 0 0) (N 1) (N 2) (yHR N G (N 5) m) (N 5) (x / 10) (x % 10) < 1000000) : yD (N 0 0) (N 1) (N 2) (yHR N G (N 5) m) (N 5) (x / 10) (x % 10) = yWn N G x m ∧ yWn N G x m ≤ 693 := by
  unfold yPair at hP
  have b1 := yD_693 (p := N 5) (s := x / 10) (c := x % 10) (by omega) hB.1 (yOK_of (G := G) hB (N 5) (N 5) m) (by omega) hf
  have b2 := yD_b (p := N 5) (s := x / 10) hB.1 (yOK_of (G := G) hB (N 5) (N 5) m) (x % 10)
  rw [yDs _ hB (by omega) (by omega)] at hf b1 b2 ⊢
  unfold yWn yW
  rw [if_pos hf, if_neg (by omega)]
  exact ⟨rfl, b1⟩
def ymx (g : Int → Int) : Nat → Int → Int → Int
  | 0, _, a => a
  | j + 1, u, a => ymx g j (u + 1) (max a (g u))
theorem ymx_le (g : Int → Int) : ∀ (j : Nat) (u a : Int), a ≤ ymx g j u a
  | 0, _, _ => Int.le_refl _
  | j + 1, u, a => Int.le_trans (by omega) (ymx_le g j (u + 1) (max a (g u)))
theorem ymx_b {g : Int → Int} {b : Int} (h : ∀ u, g u ≤ b) : ∀ (j : Nat) (u a : Int), a ≤ b → ymx g j u a ≤ b
  | 0, _, _, ha => ha
  | j + 1, u, a, ha => ymx_b h j (u + 1) (max a (g u)) (by have := h u; omega)
abbrev yAi : List Nat × List (Nat × Int) := ([16, 18, 19, 20, 21, 22, 23], [(14, 3)])
abbrev yAw : List Nat × List (Nat × Int) := ([16, 18, 19, 20, 21, 22, 23, 26], [(14, 3), (24, 4), (24, 5)])
theorem c_worst_l {d : Nat} (hd : 6 ≤ d) {N σ0 : zF} {G : yG} {T x val most : Int} {m1 : Int → Int} (hP : yPair x) (hm1 : yBm m1) (h260 : ∀ c, 0 ≤ c → c < 12 → σ0 26 c = m1 c) (hval : σ0 24 4 = val) (hfin : ∀ m, yD (N 0 0) (N 1) (N 2) (yHR N G (N 5) m) (N 5) (x / 10) (x % 10) < 1000000) (hmost : most ≤ 1 + 2 * N 0 0) : ∀ (j : Nat) (u a : Int) (m : Int → Int) (σ : zF), 0 ≤ u → u + j = most → yX N G T (-1) m σ → yf yAi σ0 σ → yT (P_X6_worstAnswer_6 d (x / 10) (x % 10) most a u σ) (yI fun r t => (r = ymx (fun u => yWn N G x (ydd N u m1)) j u a ∨ val ≤ r ∧ val ≤ ymx (fun u => yWn N G x (ydd N u m1)) j u a) ∧ (∃ m, yX N G T (-1) m t) ∧ yf yAi σ0 t) := by
  have hP' := hP
  unfold yPair at hP'
  intro j
  induction j with
  | zero =>
    intro u a m σ u0 hu hX g
    rw [e_X6_worstAnswer_6]
    exact y_n (by omega) (y_i ⟨Or.inl rfl, ⟨m, hX⟩, g⟩)
  | succ j ih =>
    intro u a m σ u0 hu hX g
    have b1 := hX.1.2.1
    rw [e_X6_worstAnswer_6, g 24 4 rfl, hval]
    refine y_g (by omega) (y_if (fun q => ?_) (fun q => y_i ⟨Or.inr ⟨by omega, ?_⟩, ⟨m, hX⟩, g⟩))
    · refine y_cV (c_second (by omega) hX hm1 (fun c a b => (g 26 c rfl).trans (h260 c a b)) u0 (by omega)) (fun s1 hs1 => ?_)
      refine y_cV (c_meas hd (s := x / 10) (by omega) hs1.1) (fun s2 hs2 => y_g (by omega) ?_)
      have e := hs2.1 (x % 10) (by omega)
      rw [yD_w _ hX.1.1] at e
      have ef := yWn_f hX.1 hP (hfin (ydd N u m1))
      rw [e, ef.1, zmax_eq, zw_i (x := u + 1) (by omega) (by omega)]
      exact ih (u + 1) _ _ s2 (by omega) (by omega) hs2.2.2.1 (yf_tr g (yf_tr (yf_le hs1.2 (by decide)) (yf_le hs2.2.2.2 (by decide))))
    · have := ymx_le (fun u => yWn N G x (ydd N u m1)) (j + 1) u a
      omega
def ytM (N : zF) (G : yG) (x n t : Int) : Int := ymx (fun u => yWn N G x (ydd N u (ydd N t (N 6)))) (if n = 1 then 1 else (1 + 2 * N 0 0).toNat) 0 0
def ytb (N : zF) (G : yG) (x n : Int) : Nat → Int × Int
  | 0 => (999, 99)
  | k + 1 => if ytM N G x n k < (ytb N G x n k).1 then (ytM N G x n k, if k = 0 then 99 else ynum k) else ytb N G x n k
theorem ytb_t {N : zF} {G : yG} {x n : Int} {k : Nat} (h : ytM N G x n k < (ytb N G x n k).1) : ytb N G x n (k + 1) = (ytM N G x n k, if k = 0 then 99 else ynum k) := by
  show (if _ then _ else _) = _
  rw [if_pos h]
theorem ytb_f {N : zF} {G : yG} {x n : Int} {k : Nat} (h : ¬ ytM N G x n k < (ytb N G x n k).1) : ytb N G x n (k + 1) = ytb N G x n k := by
  show (if _ then _ else _) = _
  rw [if_neg h]
theorem c_turn_l {d : Nat} (hd : 7 ≤ d) {N σ0 : zF} {G : yG} {T x n : Int} (hP : yPair x) (hn : n = 1 ∨ n = 2) (hfin : ∀ m, yD (N 0 0) (N 1) (N 2) (yHR N G (N 5) m) (N 5) (x / 10) (x % 10) < 1000000) : ∀ (j k : Nat) (m : Int → Int) (σ : zF), (k : Int) + j = 1 + 2 * N 0 0 → yX N G T (-1) m σ → σ 24 4 = (ytb N G x n k).1 → σ 24 5 = (ytb N G x n k).2 → yf yAw σ0 σ → yT (P_X6_takeTurns_44 d (x / 10) (x % 10) n (1 + 2 * N 0 0) (k : Int) σ) (yV fun t => t 24 4 = (ytb N G x n (1 + 2 * N 0 0).toNat).1 ∧ t 24 5 = (ytb N G x n (1 + 2 * N 0 0).toNat).2 ∧ (∃ m, yX N G T (-1) m t) ∧ yf yAw σ0 t) := by
  intro j
  induction j with
  | zero =>
    intro k m σ hk hX g1 g2 g
    rw [e_X6_takeTurns_44]
    refine y_n (by omega) (y_v ?_)
    rw [show (1 + 2 * N 0 0).toNat = k by omega]
    exact ⟨g1, g2, ⟨m, hX⟩, g⟩
  | succ j ih =>
    intro k m σ hk hX g1 g2 g
    have b1 := hX.1.2.1
    have b0 := hX.1.1
    have ih2 := ih (k + 1)
    rw [Int.natCast_succ] at ih2
    rw [e_X6_takeTurns_44]
    refine y_g (by omega) (y_cV (c_first (by omega) hX (by omega) (by omega)) (fun s1 hs1 => ?_))
    have f1 : yf ([18, 26], []) σ s1 := hs1.2.2
    have rest : ∀ (s2 : zF) (r : Int), (r = ytM N G x n k ∨ (ytb N G x n k).1 ≤ r ∧ (ytb N G x n k).1 ≤ ytM N G x n k) → (∃ m, yX N G T (-1) m s2) → yf yAi s1 s2 → yT (if r < s2 24 4 then (if (k : Int) = 0 then P_X6_takeTurns_44 d (x / 10) (x % 10) n (1 + 2 * N 0 0) (zw ((k : Int) + 1)) (zset (zset s2 24 4 r) 24 5 99) else (zCI LAY (zx d 59 [.inr (.inl (k : Int))] (zset s2 24 4 r)) fun r109 s108 => P_X6_takeTurns_44 d (x / 10) (x % 10) n (1 + 2 * N 0 0) (zw ((k : Int) + 1)) (zset s108 24 5 r109))) else P_X6_takeTurns_44 d (x / 10) (x % 10) n (1 + 2 * N 0 0) (zw ((k : Int) + 1)) s2) (yV fun t => t 24 4 = (ytb N G x n (1 + 2 * N 0 0).toNat).1 ∧ t 24 5 = (ytb N G x n (1 + 2 * N 0 0).toNat).2 ∧ (∃ m, yX N G T (-1) m t) ∧ yf yAw σ0 t) := by
      rintro s2 r hr ⟨m', hX'⟩ fs
      have g2' : yf yAw σ0 s2 := yf_tr g (yf_tr (yf_le f1 (by decide)) (yf_le fs (by decide)))
      have e4 : s2 24 4 = (ytb N G x n k).1 := (fs 24 4 rfl).trans ((f1 24 4 rfl).trans g1)
      have e5 : s2 24 5 = (ytb N G x n k).2 := (fs 24 5 rfl).trans ((f1 24 5 rfl).trans g2)
      rw [e4, zw_i (x := (k : Int) + 1) (by omega) (by omega)]
      refine y_if (fun q => ?_) (fun q => ?_)
      · have er : r = ytM N G x n k := by rcases hr with h | h <;> omega
        have tt := ytb_t (N := N) (G := G) (x := x) (n := n) (k := k) (by omega)
        refine y_if (fun q0 => ?_) (fun q0 => ?_)
        · refine ih2 m' _ (by omega) (yX_f hX' (A := ([], [(24, 4), (24, 5)])) (yf_set (yf_set yf_rf rfl) rfl) (by decide)) ?_ ?_ (yf_set (yf_set g2' rfl) rfl)
          · rw [tt]; exact er
          · rw [tt, if_pos (show k = 0 by omega)]; rfl
        · rw [c_numberOf (by omega) (by omega) (by omega), zCI_ri]
          refine ih2 m' _ (by omega) (yX_f hX' (A := ([], [(24, 4), (24, 5)])) (yf_set (yf_set yf_rf rfl) rfl) (by decide)) ?_ ?_ (yf_set (yf_set g2' rfl) rfl)
          · rw [tt]; exact er
          · rw [tt, if_neg (show ¬ k = 0 by omega)]; rfl
      · have tt := ytb_f (N := N) (G := G) (x := x) (n := n) (k := k) (by rcases hr with h | h <;> omega)
        refine ih2 m' _ (by omega) hX' ?_ ?_ g2'
        · rw [tt]; exact e4
        · rw [tt]; exact e5
    have wa : ∀ most : Int, ∀ J : Nat, (J : Int) = most → most ≤ 1 + 2 * N 0 0 → yT (zx d 65 [.inl (some 24), .inr (.inl (x / 10)), .inr (.inl (x % 10)), .inr (.inl most)] s1) (yI fun r t => (r = ymx (fun u => yWn N G x (ydd N u (ydd N k (N 6)))) J 0 0 ∨ (ytb N G x n k).1 ≤ r ∧ (ytb N G x n k).1 ≤ ymx (fun u => yWn N G x (ydd N u (ydd N k (N 6)))) J 0 0) ∧ (∃ m, yX N G T (-1) m t) ∧ yf yAi s1 t) := by
      intro most J hJ hm
      obtain ⟨e, rfl, he⟩ := y_d (k := 6) (d := d) (by omega)
      rw [e_X6_worstAnswer]
      exact c_worst_l he (σ0 := s1) (val := (ytb N G x n k).1) hP hs1.1.2.1 hs1.2.1 ((f1 24 4 rfl).trans g1) hfin hm J 0 0 _ s1 (by omega) (by omega) hs1.1 yf_rf
    refine y_if (fun q => ?_) (fun q => ?_)
    · refine y_cI (wa 1 1 rfl (by omega)) (fun r s2 hs2 => rest s2 r ?_ hs2.2.1 hs2.2.2)
      unfold ytM
      rw [if_pos q]
      exact hs2.1
    · refine y_cI (wa (1 + 2 * N 0 0) (1 + 2 * N 0 0).toNat (by omega) (by omega)) (fun r s2 hs2 => rest s2 r ?_ hs2.2.1 hs2.2.2)
      unfold ytM
      rw [if_neg q]
      exact hs2.1
theorem m_wanted {d : Nat} (hd : 9 ≤ d) {N : zF} {G : yG} {m : Int → Int} {x : Int} {σ : zF} (hx : zin x) (hP : yPair x) (hY : yY N G (N 5) m σ) : yT (zx d 226 [.inl (some 57), .inr (.inl x)] σ) (yI fun v t => v = yWn N G x m ∧ yf yAf σ t) := by
  obtain ⟨d, rfl, hd'⟩ := y_d hd; have hd := hd'
  rw [e_X12_wanted]
  refine y_cI (m_wayOf hd hx hP hY) (fun v t ht => ?_)
  rw [ht.1]
  unfold yWn
  refine y_if (fun q => y_i ⟨?_, ht.2.2.2⟩) (fun q => y_i ⟨?_, ht.2.2.2⟩)
  · rw [if_pos q]
  · rw [if_neg q]
abbrev yAq : List Nat × List (Nat × Int) := ([60, 72, 73, 84, 85], [])
theorem m_ans_l {d : Nat} (hd : 9 ≤ d) {N σ0 : zF} {G : yG} {m1 : Int → Int} {x : Int} (hx : zin x) (hP : yPair x) (h870 : ∀ c, 0 ≤ c → c < 12 → σ0 87 c = m1 c) : ∀ (j : Nat) (v : Int) (q : Nat) (t a : Int) (σ : zF), 0 ≤ v → v + j = 3 * N 0 0 → t = (if v % 3 = 2 then 2 * (v / 3) + 2 else 2 * (v / 3) + 1) → t + q = 1 + 2 * N 0 0 → yY N G (N 5) m1 σ → yf yAq σ0 σ → yT (P_X12_answered_16 d x a v σ) (yI fun w u => w = ymx (fun u => yWn N G x (ydd N u m1)) q t a ∧ yM N (N 5) m1 u ∧ yf yAq σ0 u) := by
  intro j
  induction j with
  | zero =>
    intro v q t a σ v0 hv ht hq hY g
    have b1 := hY.1.2.1
    have b0 := hY.1.1
    rw [e_X12_answered_16, hY.2.2.2.1.1, zw_i (x := 3 * N 0 0) (by omega) (by omega)]
    have q0 : q = 0 := by split at ht <;> omega
    subst q0
    exact y_n (by omega) (y_i ⟨rfl, hY.2.2.2.1, g⟩)
  | succ j ih =>
    intro v q t a σ v0 hv ht hq hY g
    have b1 := hY.1.2.1
    have b0 := hY.1.1
    rw [e_X12_answered_16, hY.2.2.2.1.1, zw_i (x := 3 * N 0 0) (by omega) (by omega), m_isDeed (by omega) hY.1 hY.2.2.2.1 v0 (by omega), zCI_ri, y01, zw_i (x := v + 1) (by omega) (by omega)]
    refine y_g (by omega) (y_if (fun z => ?_) (fun z => ?_))
    · refine y_cV (m_deed (by omega) hY v0 (by omega) z) (fun s1 hs1 => ?_)
      refine y_cI (m_wanted hd hx hP hs1.1) (fun w s2 hs2 => ?_)
      have g2 : yf yAq σ0 s2 := yf_tr g (yf_tr (yf_le hs1.2 (by decide)) (yf_le hs2.2 (by decide)))
      refine y_cV (m_again87 (by omega) (m := m1) (yM_f hs1.1.2.2.2.1 hs2.2 (by decide)) (fun c a b => (g2 87 c rfl).trans (h870 c a b))) (fun s3 hs3 => ?_)
      have gl : yf yAq σ s3 := yf_tr (yf_tr (yf_le hs1.2 (by decide)) (yf_le hs2.2 (by decide))) (yf_le hs3.2 (by decide))
      have et : t = 2 * (v / 3) + v % 3 := by split at ht <;> omega
      obtain ⟨q', rfl⟩ : ∃ q', q = q' + 1 := ⟨q - 1, by omega⟩
      have := ih (v + 1) q' (t + 1) (max a w) s3 (by omega) (by omega) (by split at ht <;> split <;> omega) (by omega) ⟨hY.1, hY.2.1, hY.2.2.1, hs3.1, yLM_f hY.2.2.2.2 gl (by decide)⟩ (yf_tr g gl)
      rw [zmax_eq]
      have ew : w = yWn N G x (ydd N t m1) := by rw [hs2.1, et]
      rw [ew] at this ⊢
      exact this
    · exact ih (v + 1) q t a σ (by omega) (by omega) (by split at ht <;> split <;> omega) hq hY g
theorem m_ans {d : Nat} (hd : 10 ≤ d) {N : zF} {G : yG} {m1 : Int → Int} {x : Int} {σ : zF} (hx : zin x) (hP : yPair x) (hY : yY N G (N 5) m1 σ) : yT (zx d 227 [.inl (some 57), .inr (.inl x)] σ) (yI fun v u => v = ymx (fun u => yWn N G x (ydd N u m1)) (1 + 2 * N 0 0).toNat 0 0 ∧ yM N (N 5) m1 u ∧ yf ([60, 72, 73, 84, 85, 87], []) σ u) := by
  obtain ⟨d, rfl, hd'⟩ := y_d hd; have hd := hd'
  have b1 := hY.1.2.1
  have b0 := hY.1.1
  rw [e_X12_answered]
  refine y_cV (m_keep87 (by omega) hY.2.2.2.1) (fun s hs => ?_)
  refine y_cI (m_wanted hd hx hP (yY_f hY hs.2 (by decide))) (fun w s2 hs2 => ?_)
  have f2 : yf ([60, 72, 73, 84, 85, 87], []) σ s2 := yf_tr (yf_le hs.2 (by decide)) (yf_le hs2.2 (by decide))
  have f2' : yf ([72, 73, 84, 85, 87], []) σ s2 := yf_tr (yf_le hs.2 (by decide)) (yf_le hs2.2 (by decide))
  refine y_mI (m_ans_l hd (σ0 := s2) hx hP (fun c a b => (hs2.2 87 c rfl).trans (hs.1 c a b)) (3 * N 0 0).toNat 0 (2 * N 0 0).toNat 1 w s2 (by omega) (by omega) (by decide) (by omega) (yY_f hY f2' (by decide)) yf_rf) (fun v u hu => ⟨?_, hu.2.1, yf_tr f2 (yf_le hu.2.2 (by decide))⟩)
  rw [hu.1, show (1 + 2 * N 0 0).toNat = (2 * N 0 0).toNat + 1 by omega]
  show _ = ymx _ (2 * N 0 0).toNat (0 + 1) (max 0 (yWn N G x (ydd N 0 m1)))
  have e0 : ydd N 0 m1 = m1 := if_neg (by omega)
  have := (yWn_b (G := G) (m := m1) hY.1 hP).1
  rw [e0, hs2.1, show max 0 (yWn N G x m1) = yWn N G x m1 by omega]
  rfl
abbrev yAz : List Nat × List (Nat × Int) := ([60, 72, 73, 84, 85, 87], [])
theorem m_turn_l {d : Nat} (hd : 10 ≤ d) {N σ0 : zF} {G : yG} {x n what : Int} (hx : zin x) (hP : yPair x) (h860 : ∀ c, 0 ≤ c → c < 12 → σ0 86 c = N 6 c) : ∀ (j : Nat) (v : Int) (k : Nat) (a b : Int) (σ : zF), 0 ≤ v → v + j = 3 * N 0 0 → (k : Int) = (if v % 3 = 2 then 2 * (v / 3) + 2 else 2 * (v / 3) + 1) → a = (ytb N G x n k).1 → b = (ytb N G x n k).2 → yY N G (N 5) (N 6) σ → yf yAz σ0 σ → yT (P_X12_byTurns_62 d x n what a b v σ) (yI fun w u => w = (if what = 0 then (ytb N G x n (1 + 2 * N 0 0).toNat).1 else (ytb N G x n (1 + 2 * N 0 0).toNat).2) ∧ yM N (N 5) (N 6) u ∧ yf yAz σ0 u) := by
  intro j
  induction j with
  | zero =>
    intro v k a b σ v0 hv hk ha hb hY g
    have b1 := hY.1.2.1
    have b0 := hY.1.1
    rw [e_X12_byTurns_62, hY.2.2.2.1.1, zw_i (x := 3 * N 0 0) (by omega) (by omega)]
    have ek : (1 + 2 * N 0 0).toNat = k := by split at hk <;> omega
    rw [ek]
    refine y_n (by omega) (y_if (fun q => y_i ⟨?_, hY.2.2.2.1, g⟩) (fun q => y_i ⟨?_, hY.2.2.2.1, g⟩))
    · rw [if_pos q]; exact ha
    · rw [if_neg q]; exact hb
  | succ j ih =>
    intro v k a b σ v0 hv hk ha hb hY g
    have b1 := hY.1.2.1
    have b0 := hY.1.1
    rw [e_X12_byTurns_62, hY.2.2.2.1.1, zw_i (x := 3 * N 0 0) (by omega) (by omega), m_isDeed (by omega) hY.1 hY.2.2.2.1 v0 (by omega), zCI_ri, y01, zw_i (x := v + 1) (by omega) (by omega)]
    refine y_g (by omega) (y_if (fun z => ?_) (fun z => ?_))
    · have et : (k : Int) = 2 * (v / 3) + v % 3 := by split at hk <;> omega
      have k0 : ¬ k = 0 := by omega
      have ekv : ynum k = v := by unfold ynum; rw [if_neg (by omega), et]; omega
      refine y_cV (m_deed (by omega) hY v0 (by omega) z) (fun s1 hs1 => ?_)
      rw [← et] at hs1
      have rest : ∀ (s2 : zF) (r : Int), r = ytM N G x n k → yM N (N 5) (ydd N k (N 6)) s2 → yf yAz s1 s2 → yT (zCV LAY (zx d 198 [.inl (some 57), .inl (some 86)] s2) fun s3 => if r < a then P_X12_byTurns_62 d x n what r v (v + 1) s3 else P_X12_byTurns_62 d x n what a b (v + 1) s3) (yI fun w u => w = (if what = 0 then (ytb N G x n (1 + 2 * N 0 0).toNat).1 else (ytb N G x n (1 + 2 * N 0 0).toNat).2) ∧ yM N (N 5) (N 6) u ∧ yf yAz σ0 u) := by
        rintro s2 r rfl hM2 fs
        have g2 : yf yAz σ0 s2 := yf_tr g (yf_tr (yf_le hs1.2 (by decide)) fs)
        refine y_cV (m_again86 (by omega) (m := N 6) hM2 (fun c a b => (g2 86 c rfl).trans (h860 c a b))) (fun s3 hs3 => ?_)
        have gl : yf yAz σ s3 := yf_tr (yf_tr (yf_le hs1.2 (by decide)) fs) (yf_le hs3.2 (by decide))
        have hY3 : yY N G (N 5) (N 6) s3 := ⟨hY.1, hY.2.1, hY.2.2.1, hs3.1, yLM_f hY.2.2.2.2 gl (by decide)⟩
        refine y_if (fun q => ?_) (fun q => ?_)
        · have tt := ytb_t (N := N) (G := G) (x := x) (n := n) (k := k) (by omega)
          refine ih (v + 1) (k + 1) _ _ s3 (by omega) (by omega) (by split at hk <;> split <;> omega) ?_ ?_ hY3 (yf_tr g gl)
          · rw [tt]
          · rw [tt, if_neg k0]; exact ekv.symm
        · have tt := ytb_f (N := N) (G := G) (x := x) (n := n) (k := k) (by omega)
          refine ih (v + 1) (k + 1) _ _ s3 (by omega) (by omega) (by split at hk <;> split <;> omega) ?_ ?_ hY3 (yf_tr g gl)
          · rw [tt]; exact ha
          · rw [tt]; exact hb
      refine y_if (fun q => ?_) (fun q => ?_)
      · refine y_cI (m_wanted (by omega) hx hP hs1.1) (fun r s2 hs2 => rest s2 r ?_ (yM_f hs1.1.2.2.2.1 hs2.2 (by decide)) (yf_le hs2.2 (by decide)))
        unfold ytM
        rw [if_pos q]
        show _ = max 0 (yWn N G x (ydd N 0 (ydd N k (N 6))))
        have e0 : ydd N 0 (ydd N k (N 6)) = ydd N k (N 6) := if_neg (by omega)
        have := (yWn_b (G := G) (m := ydd N k (N 6)) hY.1 hP).1
        rw [e0, hs2.1]
        omega
      · refine y_cI (m_ans hd hx hP hs1.1) (fun r s2 hs2 => rest s2 r ?_ hs2.2.1 hs2.2.2)
        unfold ytM
        rw [if_neg q]
        exact hs2.1
    · refine ih (v + 1) k a b σ (by omega) (by omega) (by split at hk <;> split <;> omega) ha hb hY g
theorem o_byTurns {x y z : Int} (hx : zin x) : yStep 127 228 [.inr (.inl x), .inr (.inl y), .inr (.inl z)] := by
  intro d hd c N G σ hI c0 c1
  obtain ⟨d, rfl, hd'⟩ := y_d hd; have hd := hd'
  obtain ⟨n1, n2, n3, n4⟩ := yI_n hI
  have bad : (¬ yPair x ∨ ¬ (1 ≤ y ∧ y ≤ 2) ∨ ¬ (0 ≤ z ∧ z ≤ 1)) → yT (zri (-1) σ) (yI fun v s => yT (zx (d + 1) 228 [.inl (some 57), .inr (.inl x), .inr (.inl y), .inr (.inl z)] s) (yI fun w t => w = v ∧ ∃ N' G', yInv (c + 1) N' G' t)) := by
    intro h
    refine y_i ?_
    rw [e_X12_byTurns]
    by_cases hp : yPair x
    · rw [k_mTwo1 (by omega) hx hp, zCI_ri, if_neg (by decide), k_within (by omega), zCI_ri, y01]
      by_cases hy : 1 ≤ y ∧ y ≤ 2
      · rw [if_pos hy, k_within (by omega), zCI_ri, y01, if_neg (by rcases h with h | h | h; exact absurd hp h; exact absurd hy h; exact h)]
        exact y_i ⟨rfl, N, G, yInv_id hI⟩
      · rw [if_neg hy]
        exact y_i ⟨rfl, N, G, yInv_id hI⟩
    · rw [k_mTwo0 (by omega) hx hp, zCI_ri, if_pos rfl]
      exact y_i ⟨rfl, N, G, yInv_id hI⟩
  by_cases hp : yPair x
  · have hp' := hp
    unfold yPair at hp'
    have hx' := hx
    unfold zin at hx'
    rw [e_X11_byTurns, k_isPair1 (by omega) hx hp, zCI_ri, if_neg (by decide), y_rg, y_rg]
    by_cases hy : 1 ≤ y ∧ y ≤ 2
    · rw [if_pos hy]
      by_cases hz : 0 ≤ z ∧ z ≤ 1
      · rw [if_pos hz, if_neg (by decide), if_neg (by decide), zdiv_p hp'.1 hx'.2 (by decide), zrem_p hp'.1]
        have main : yT (zx d 64 [.inl (some 24), .inr (.inl (x / 10)), .inr (.inl (x % 10)), .inr (.inl y)] σ) (yV fun t => t 24 4 = (ytb N G x y (1 + 2 * N 0 0).toNat).1 ∧ t 24 5 = (ytb N G x y (1 + 2 * N 0 0).toNat).2 ∧ yP N G t ∧ t 17 5 ≤ σ 17 5 + 2 ∧ yf ySC σ t) := by
          obtain ⟨d, rfl, hd'⟩ := y_d (k := 140) (d := d) (by omega)
          have f0 : yf ([], [(24, 4), (24, 5)]) σ (zset (zset σ 24 4 999) 24 5 99) := yf_set (yf_set yf_rf rfl) rfl
          have P0 : yP N G (zset (zset σ 24 4 999) 24 5 99) := yP_f hI.1 f0 (by decide)
          have okA := fun m => yOK_of (G := G) hI.1.1 (N 5) (N 5) m
          rw [e_X6_takeTurns, c_joins (by omega) (by omega) (by omega) P0.1 P0.2.1 (yOK_of (G := G) hI.1.1 (ypw N (-1)) (ypw N (-1)) (N 6)) (ypw0 _), zCI_ri, y01, yD_w _ n3]
          refine y_if (fun q => ?_) (fun q => y_v ?_)
          · have hfin : ∀ m, yD (N 0 0) (N 1) (N 2) (yHR N G (N 5) m) (N 5) (x / 10) (x % 10) < 1000000 := by
              intro m
              refine (yfinI (w := -1) (by omega) (by omega) hI.1.1 hI.1.2.1 (okA (N 6)) (okA m) (fun r r0 r1 => ⟨fun h => ⟨h, by omega⟩, fun h => h.1⟩)).mp q
            rw [c_turns (by omega) P0.1 P0.2.1, zCI_ri]
            refine y_cV (c_begin (by omega) (-1) P0 (show σ 17 5 < 5000000 from yI_t hI c1)) (fun s hs => ?_)
            refine y_mV (c_turn_l (by omega) (σ0 := s) hp (by omega) hfin (1 + 2 * N 0 0).toNat 0 (N 6) s (by omega) hs.1 (by rw [hs.2 24 4 rfl]; rfl) (by rw [hs.2 24 5 rfl]; rfl) yf_rf) (fun t ht => ?_)
            obtain ⟨a1, a2, ⟨m', hX⟩, a4⟩ := ht
            refine ⟨a1, a2, (yX_P hX).1, by rw [(yX_P hX).2]; show σ 17 5 + 1 ≤ _; omega, yf_tr (yf_le f0 (by decide)) (yf_tr (yf_le hs.2 (by decide)) (yf_le a4 (by decide)))⟩
          · have hfin : ∀ m, ¬ yD (N 0 0) (N 1) (N 2) (yHR N G (N 5) m) (N 5) (x / 10) (x % 10) < 1000000 := by
              intro m h
              exact q ((yfinI (w := -1) (by omega) (by omega) hI.1.1 hI.1.2.1 (okA m) (okA (N 6)) (fun r r0 r1 => ⟨fun h => ⟨h, by omega⟩, fun h => h.1⟩)).mp h)
            have w999 : ∀ m, yWn N G x m = 999 := by
              intro m
              have h := hfin m
              rw [yDs _ hI.1.1 (by omega) (by omega)] at h
              unfold yWn yW
              rw [if_neg h, if_pos rfl]
            have m999 : ∀ t, 999 ≤ ytM N G x y t := by
              intro t
              unfold ytM
              have e : ∀ J : Nat, 0 < J → 999 ≤ ymx (fun u => yWn N G x (ydd N u (ydd N t (N 6)))) J 0 0 := by
                intro J hJ
                obtain ⟨J', rfl⟩ : ∃ J', J = J' + 1 := ⟨J - 1, by omega⟩
                have := ymx_le (fun u => yWn N G x (ydd N u (ydd N t (N 6)))) J' (0 + 1) (max 0 (yWn N G x (ydd N 0 (ydd N t (N 6)))))
                rw [w999] at this
                show 999 ≤ ymx _ J' (0 + 1) (max 0 (yWn N G x (ydd N 0 (ydd N t (N 6)))))
                rw [w999]
                omega
              split
              · exact e 1 (by omega)
              · exact e _ (by omega)
            have tb : ∀ k, ytb N G x y k = (999, 99) := by
              intro k
              induction k with
              | zero => rfl
              | succ k ih =>
                rw [ytb_f, ih]
                rw [ih]
                have := m999 k
                show ¬ _ < (999 : Int)
                omega
            rw [tb]
            exact ⟨rfl, rfl, P0, by show σ 17 5 ≤ _; omega, yf_le f0 (by decide)⟩
        refine y_cV main (fun s hs => ?_)
        obtain ⟨e4, e5, hPs, hT, f⟩ := hs
        have hY := yY_f hI.2.1 f (by decide)
        have M0 : ∀ n, ytM N G x n 0 ≤ 999 := by
          intro n
          unfold ytM
          exact ymx_b (fun u => (yWn_b hI.1.1 hp).2) _ 0 0 (by omega)
        have t1 : ytb N G x y 1 = (ytM N G x y 0, 99) := by
          have := M0 y
          by_cases q : ytM N G x y ((0 : Nat) : Int) < (ytb N G x y 0).1
          · rw [ytb_t q]; rfl
          · rw [ytb_f q]
            have : ytM N G x y 0 = 999 := by
              have q' : ¬ ytM N G x y 0 < 999 := q
              omega
            rw [this]; rfl
        have fin : ∀ v, v = (if z = 0 then (ytb N G x y (1 + 2 * N 0 0).toNat).1 else (ytb N G x y (1 + 2 * N 0 0).toNat).2) → yT (zri v s) (yI fun v s => yT (zx (d + 1) 228 [.inl (some 57), .inr (.inl x), .inr (.inl y), .inr (.inl z)] s) (yI fun w t => w = v ∧ ∃ N' G', yInv (c + 1) N' G' t)) := by
          intro v hv
          refine y_i ?_
          rw [e_X12_byTurns, k_mTwo1 (by omega) hx hp, zCI_ri, if_neg (by decide), k_within (by omega), zCI_ri, y01, if_pos hy, k_within (by omega), zCI_ri, y01, if_pos hz]
          refine y_cV (m_keep86 (by omega) hY.2.2.2.1) (fun t ht => ?_)
          have ft : yf ([86], []) s t := ht.2
          have hYt := yY_f hY ft (by decide)
          have e6 : ydd N 0 (N 6) = N 6 := if_neg (by omega)
          have rest : ∀ (u : zF) (r : Int), r = ytM N G x y 0 → yM N (N 5) (N 6) u → yf yAz t u → yT (P_X12_byTurns_62 d x y z r 99 0 u) (yI fun w t => w = v ∧ ∃ N' G', yInv (c + 1) N' G' t) := by
            rintro u r rfl hMu fu
            refine y_mI (m_turn_l (by omega) (σ0 := t) hx hp ht.1 (3 * N 0 0).toNat 0 1 _ _ u (by omega) (by omega) (by decide) (by rw [t1]) (by rw [t1]) ⟨hYt.1, hYt.2.1, hYt.2.2.1, hMu, yLM_f hYt.2.2.2.2 fu (by decide)⟩ fu) (fun w u2 hu2 => ⟨by rw [hu2.1, hv], N, G, yInv_th hI hPs hT f hu2.2.1 (yf_tr (yf_le ft (by decide)) (yf_le hu2.2.2 (by decide)))⟩)
          refine y_if (fun q => ?_) (fun q => ?_)
          · refine y_cI (m_wanted (by omega) hx hp hYt) (fun r u hu => rest u r ?_ (yM_f hYt.2.2.2.1 hu.2 (by decide)) (yf_le hu.2 (by decide)))
            unfold ytM
            rw [if_pos q, e6]
            show _ = max 0 (yWn N G x (ydd N 0 (N 6)))
            have := (yWn_b (G := G) (m := N 6) hI.1.1 hp).1
            rw [e6, hu.1]
            omega
          · refine y_cI (m_ans (by omega) hx hp hYt) (fun r u hu => rest u r ?_ hu.2.1 hu.2.2)
            unfold ytM
            rw [if_neg q, e6]
            exact hu.1
        refine y_if (fun q => fin _ ?_) (fun q => fin _ ?_)
        · rw [if_pos q]; exact e4
        · rw [if_neg q]; exact e5
      · rw [if_neg hz]
        exact bad (Or.inr (Or.inr hz))
    · rw [if_neg hy]
      exact bad (Or.inr (Or.inl hy))
  · rw [e_X11_byTurns, k_isPair0 (by omega) hx hp, zCI_ri, if_pos rfl]
    exact bad (Or.inl hp)
