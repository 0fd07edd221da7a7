/-! Sundays: judged; the best thanks -/
theorem zcmpl0 {a b : Int} : zcmpl a b = 0 ↔ a = b := by
  unfold zcmpl
  split
  · constructor
    · intro h; omega
    · intro h; omega
  · split
    · next h => exact ⟨fun _ => h, fun _ => rfl⟩
    · next h => exact ⟨fun q => by omega, fun q => absurd q h⟩
theorem yoff {A : List Nat × List (Nat × Int)} (hA : yds A yDSh = true) {s : Int} (h0 : 0 ≤ s) (h1 : s < 6) (i : Int) : yin A (ysh s) i = false ∧ yin A (ysr s) i = false := ⟨yds_no hA (ySh_cells h0 h1 i).1, yds_no hA (ySh_cells h0 h1 i).2⟩
/-- the first that is not so, from k on, j of them; -2 -/
def yun (n : Int) (H el : Int → Int) : Nat → Int → Int
  | 0, _ => -2
  | j + 1, k => if k < n then (if H k = el k then yun n H el j (k + 1) else k) else k
theorem c_unl_l {d : Nat} (hd : 5 ≤ d) {N σ0 : zF} {G : yG} {T w s : Int} {m el : Int → Int} (h0 : 0 ≤ s) (h1 : s < 6) : ∀ (j : Nat) (k : Int) (σ : zF), 0 ≤ k → σ (ysh s) 1 = k + j → k + j ≤ 60 → (∀ i, 0 ≤ i → i < 60 → σ (ysr s) i = el i) → yX N G T w m σ → yf yAt σ0 σ → yT (P_X9_firstNotSo_2 d (ysh s) k σ) (yI fun v t => v = yun (N 0 0) (yHR N G (ypw N w) m) el j k ∧ yX N G T w m t ∧ yf yAt σ0 t) := by
  intro j
  induction j with
  | zero =>
    intro k σ k0 hs hk hel hX f
    rw [e_X9_firstNotSo_2, k_fld1 h0 h1]
    exact y_n (by omega) (y_i ⟨rfl, hX, f⟩)
  | succ j ih =>
    intro k σ k0 hs hk hel hX f
    have e1 : σ 1 0 = N 0 0 := hX.2.2.2.2.1.1
    have b1 := hX.1.2.1
    rw [e_X9_firstNotSo_2, k_fld1 h0 h1, e1]
    refine y_g (by omega) (y_if (fun q => ?_) (fun q => y_i ⟨?_, hX, f⟩))
    · refine y_cI (c_takes hd hX k0 q) (fun v t ht => ?_)
      have o := fun i => yoff (A := yAt) (by decide) h0 h1 i
      rw [k_fld3 h0 h1, k_zar h0 h1 (by omega), ht.2.2 (ysr s) k (o k).2, hel k k0 (by omega), ht.1]
      refine y_if (fun z => ?_) (fun z => y_i ⟨?_, ht.2.1, yf_tr f ht.2.2⟩)
      · rw [zcmpl0] at z
        rw [zw_i (x := k + 1) (by omega) (by omega)]
        have ih2 := ih (k + 1) t (by omega) (by rw [ht.2.2 (ysh s) 1 (o 1).1]; omega) (by omega) (fun i a b => (ht.2.2 (ysr s) i (o i).2).trans (hel i a b)) ht.2.1 (yf_tr f ht.2.2)
        have e : yun (N 0 0) (yHR N G (ypw N w) m) el (j + 1) k = yun (N 0 0) (yHR N G (ypw N w) m) el j (k + 1) := by
          show (if _ then _ else _) = _
          rw [if_pos q, if_pos z]
        rw [e]
        exact ih2
      · rw [zcmpl0] at z
        show k = if _ then _ else _
        rw [if_pos q, if_neg z]
    · show k = if _ then _ else _
      rw [if_neg q]
theorem c_unl {d : Nat} (hd : 6 ≤ d) {N σ : zF} {G : yG} {T w s : Int} {m el : Int → Int} (h0 : 0 ≤ s) (h1 : s < 6) (hs : 0 ≤ σ (ysh s) 1 ∧ σ (ysh s) 1 ≤ 60) (hel : ∀ i, 0 ≤ i → i < 60 → σ (ysr s) i = el i) (hX : yX N G T w m σ) : yT (zx d 100 [.inl (some 17), .inl (some (ysh s))] σ) (yI fun v t => v = yun (N 0 0) (yHR N G (ypw N w) m) el (σ (ysh s) 1).toNat 0 ∧ yX N G T w m t ∧ yf yAt σ t) := by
  obtain ⟨d, rfl, hd'⟩ := y_d hd; have hd := hd'
  rw [e_X9_firstNotSo]
  exact c_unl_l hd h0 h1 _ 0 σ (by omega) (by omega) (by omega) hel hX yf_rf
theorem m_told {d : Nat} (hd : 1 ≤ d) {σ : zF} {s i : Int} (h0 : 0 ≤ s) (h1 : s < 6) (i0 : 0 ≤ i) (i1 : i < 60) : zx d 162 [.inl (some 57), .inr (.inl s), .inr (.inl i)] σ = zri (zw (σ 83 (60 * s + i))) σ := by
  obtain ⟨d, rfl, -⟩ := y_d hd
  rw [e_X12_toldAt, zw_i (x := 60 * s) (by omega) (by omega), zw_i (x := 60 * s + i) (by omega) (by omega), if_pos (by omega)]
theorem m_unl_l {d : Nat} (hd : 6 ≤ d) {N σ0 : zF} {G : yG} {s : Int} {p m el : Int → Int} (h0 : 0 ≤ s) (h1 : s < 6) (hr : ∀ i, 0 ≤ i → i < 60 → -32768 ≤ el i ∧ el i < 32768) : ∀ (j : Nat) (k : Int) (σ : zF), 0 ≤ k → σ 82 s = k + j → k + j ≤ 60 → (∀ i, 0 ≤ i → i < 60 → σ 83 (60 * s + i) = el i) → yY N G p m σ → yf yAh σ0 σ → yT (P_X12_unlike_2 d s k σ) (yI fun v t => v = yun (N 0 0) (yHR N G p m) el j k ∧ yf yAh σ0 t) := by
  intro j
  induction j with
  | zero =>
    intro k σ k0 hs hk hel hY f
    rw [e_X12_unlike_2]
    exact y_g ⟨h0, h1⟩ (y_n (by omega) (y_i ⟨rfl, f⟩))
  | succ j ih =>
    intro k σ k0 hs hk hel hY f
    have e1 : σ 57 0 = N 0 0 := hY.2.2.2.1.1
    have b1 := hY.1.2.1
    rw [e_X12_unlike_2, e1]
    refine y_g ⟨h0, h1⟩ (y_g (by omega) (y_if (fun q => ?_) (fun q => y_i ⟨?_, f⟩)))
    · refine y_cI (m_hours hd hY k0 q) (fun v t ht => ?_)
      have bb := hr k k0 (by omega)
      rw [m_told (by omega) h0 h1 k0 (by omega), zCI_ri, ht.2 83 (60 * s + k) rfl, hel k k0 (by omega), ht.1, zw_i (x := el k) (by omega) (by omega)]
      refine y_if (fun z => ?_) (fun z => y_i ⟨?_, yf_tr f ht.2⟩)
      · rw [zw_i (x := k + 1) (by omega) (by omega)]
        have ih2 := ih (k + 1) t (by omega) (by rw [ht.2 82 s rfl]; omega) (by omega) (fun i a b => (ht.2 83 _ rfl).trans (hel i a b)) (yY_f hY ht.2 (by decide)) (yf_tr f ht.2)
        have e : yun (N 0 0) (yHR N G p m) el (j + 1) k = yun (N 0 0) (yHR N G p m) el j (k + 1) := by
          show (if _ then _ else _) = _
          rw [if_pos q, if_pos z]
        rw [e]
        exact ih2
      · show k = if _ then _ else _
        rw [if_pos q, if_neg z]
    · show k = if _ then _ else _
      rw [if_neg q]
theorem m_unl {d : Nat} (hd : 7 ≤ d) {N σ : zF} {G : yG} {s : Int} {p m el : Int → Int} (h0 : 0 ≤ s) (h1 : s < 6) (hr : ∀ i, 0 ≤ i → i < 60 → -32768 ≤ el i ∧ el i < 32768) (hs : 0 ≤ σ 82 s ∧ σ 82 s ≤ 60) (hel : ∀ i, 0 ≤ i → i < 60 → σ 83 (60 * s + i) = el i) (hY : yY N G p m σ) : yT (zx d 219 [.inl (some 57), .inr (.inl s)] σ) (yI fun v t => v = yun (N 0 0) (yHR N G p m) el (σ 82 s).toNat 0 ∧ yf yAh σ t) := by
  obtain ⟨d, rfl, hd'⟩ := y_d hd; have hd := hd'
  rw [e_X12_unlike]
  exact m_unl_l hd h0 h1 hr _ 0 σ (by omega) (by omega) (by omega) hel hY yf_rf
theorem m_noSun {d : Nat} (hd : 1 ≤ d) {σ : zF} {s : Int} (h0 : 0 ≤ s) (h1 : s < 6) : zx d 218 [.inl (some 57), .inr (.inl s)] σ = zri (if σ 81 s = -1 then -11 else if σ 81 s = 1 then 0 else -12) σ := by
  obtain ⟨d, rfl, -⟩ := y_d hd
  rw [e_X12_noSunday]
  simp only [if_pos (show 0 ≤ s ∧ s < 6 from ⟨h0, h1⟩)]
  by_cases e1 : σ 81 s = -1
  · rw [if_pos e1, if_pos e1]
  · rw [if_neg e1, if_neg e1]
    by_cases e2 : σ 81 s = 1
    · rw [if_pos e2, if_pos e2]
    · rw [if_neg e2, if_neg e2]
/-- what a shelf refuses, wanted a row of sort 1: both alike -/
theorem ySun {σ : zF} {s : Int} (h : ySh1 σ s) : (if σ (ysh s) 0 = -1 ∧ σ (ysh s) 2 = -1 then (-11 : Int) else if ¬ σ (ysh s) 0 = -1 ∧ σ (ysh s) 0 = 1 then 0 else -12) = (if σ 81 s = -1 then -11 else if σ 81 s = 1 then 0 else -12) := by
  obtain ⟨h1, h2, h3, h4, h5⟩ := h
  rcases h4 with ⟨a, b, c⟩ | ⟨a, b, b2, c⟩ | ⟨a, b, c, c2⟩
  · rw [if_pos ⟨a, b⟩, if_pos c]
  · rw [if_neg (by omega), if_neg (by omega), if_neg (by omega), if_neg (by omega)]
  · rw [if_neg (by omega), if_neg (c := σ 81 s = -1) (by omega), c]
    exact y_cc (by omega)
theorem o_judge {x : Int} : yStep 125 220 [.inr (.inl x)] := by
  intro d hd c N G σ hI c0 c1
  obtain ⟨d, rfl, hd'⟩ := y_d hd; have hd := hd'
  rw [e_X11_judge, k_isShelf (by omega), zCI_ri, y01]
  by_cases h : 0 ≤ x ∧ x < 6
  · have hsh := hI.2.2.2.2.2.2.2.2.2 x h.1 h.2
    have es := ySun hsh
    rw [if_pos h, k_zaa h.1 h.2, k_cls h.1 h.2, k_refusalOf (by omega) h.1 h.2, zCI_ri, es]
    refine y_b rfl (y_if (fun q => ?_) (fun q => y_i ?_))
    · have h81 : σ 81 x = 1 := by
        by_cases e1 : σ 81 x = -1
        · rw [if_pos e1] at q; omega
        · rw [if_neg e1] at q
          by_cases e2 : σ 81 x = 1
          · exact e2
          · rw [if_neg e2] at q; omega
      have hsort : σ (ysh x) 0 = 1 := by
        obtain ⟨g1, g2, g3, g4, g5⟩ := hsh
        omega
      refine y_cV (c_begin (by omega) (-1) hI.1 (yI_t hI c1)) (fun s hs => ?_)
      rw [k_zaa h.1 h.2]
      have o := fun i => yoff (A := yAb) (by decide) h.1 h.2 i
      have hsz : s (ysh x) 1 = σ (ysh x) 1 := hs.2 _ _ (o 1).1
      refine y_cI (c_unl (by omega) (el := σ (ysr x)) h.1 h.2 (by rw [hsz]; exact ⟨hsh.1, hsh.2.1⟩) (fun i _ _ => hs.2 _ _ (o i).2) hs.1) (fun v s2 hs2 => y_i ?_)
      have f : yf ySC σ s2 := yf_tr (yf_le hs.2 (by decide)) (yf_le hs2.2.2 (by decide))
      have hY := yY_f hI.2.1 f (by decide)
      rw [e_X12_judge, k_mShelf (by omega), zCI_ri, y01, if_pos h, m_noSun (by omega) h.1 h.2, zCI_ri, f 81 x rfl, if_neg (by omega)]
      refine y_cI (m_unl (by omega) (el := σ (ysr x)) h.1 h.2 (fun i a b => (hsh.2.2.2.2 i a b).2 hsort) (by rw [f 82 x rfl, ← hsh.2.2.1]; exact ⟨hsh.1, hsh.2.1⟩) (fun i a b => (f 83 _ rfl).trans (hsh.2.2.2.2 i a b).1.symm) hY) (fun w t ht => y_i ⟨?_, N, G, yth hI hs2.2.1 (by omega) f (yM_f hY.2.2.2.1 ht.2 (by decide)) (yf_le ht.2 (by decide))⟩)
      rw [ht.1, hs2.1, yHR_w, hsz, f 82 x rfl, ← hsh.2.2.1]
    · rw [e_X12_judge, k_mShelf (by omega), zCI_ri, y01, if_pos h, m_noSun (by omega) h.1 h.2, zCI_ri]
      refine y_g ?_ (y_i ⟨rfl, N, G, yInv_id hI⟩)
      revert q
      split
      · intro _; decide
      · split
        · intro q; exact absurd rfl q
        · intro _; decide
  · rw [if_neg h]
    refine y_i ?_
    rw [e_X12_judge, k_mShelf (by omega), zCI_ri, y01, if_neg h]
    exact y_i ⟨rfl, N, G, yInv_id hI⟩
/-! best -/
theorem yX_mood {N : zF} {G : yG} {T w : Int} {m m' : Int → Int} {σ s : zF} (h : yX N G T w m σ) (f : yf ([18], []) σ s) (hm : yBm m') (e : ∀ c, 0 ≤ c → c < 12 → s 18 c = m' c) : yX N G T w m' s := by
  obtain ⟨h1, h2, h3, h4, h5, h6, g1, g2, g3, g4, g5⟩ := h
  refine ⟨h1, hm, h3, h4, yC_g (yf_g f (by decide)) h5, yLC_g (yf_g f (by decide)) h6, (f 17 5 rfl).trans g1, (f 17 9 rfl).trans g2, e, fun r a b => ?_, fun i a b => ?_⟩
  · rw [f 21 r rfl]
    exact g4 r a b
  · rw [f 20 i rfl, f 19 i rfl]
    exact g5 i a b
theorem c_now {d : Nat} (hd : 1 ≤ d) {N : zF} {G : yG} {T w : Int} {m : Int → Int} {σ : zF} (h : yX N G T w m σ) : yT (zx d 88 [.inl (some 17)] σ) (yV fun s => yX N G T w (N 6) s ∧ yf ([18], []) σ s) :=
  y_mV (c_moods hd h.2.2.2.2.1) (fun _ hs => ⟨yX_mood h hs.2 h.1.2.2.2.1 hs.1, hs.2⟩)
theorem c_say {d : Nat} (hd : 1 ≤ d) {N : zF} {G : yG} {T w : Int} {m : Int → Int} {σ : zF} {r : Int} (word : Int) (h : yX N G T w m σ) (h0 : 0 ≤ r) (h1 : r < N 0 0) : yT (zx d 25 [.inl (some 1), .inl (some 18), .inr (.inl r), .inr (.inl word)] σ) (yV fun s => yX N G T w (yw N r word m) s ∧ yf ([18], []) σ s) := by
  have b1 := h.1.2.1
  exact y_mV (c_say18 hd word h.1 h.2.1 h.2.2.2.2.1 h0 h1 h.2.2.2.2.2.2.2.2.1) (fun _ hs => ⟨yX_mood h hs.2 (yw_b h0 (by omega) h.2.1) hs.1, hs.2⟩)
def ybest (S : Int → Int) : Nat → Int × Int
  | 0 => (1000000, -1)
  | k + 1 => if S k < (ybest S k).1 then (S k, (k : Int)) else ybest S k
theorem ybest_t {S : Int → Int} {k : Nat} (h : S k < (ybest S k).1) : ybest S (k + 1) = (S k, (k : Int)) := by
  show (if _ then _ else _) = _
  rw [if_pos h]
theorem ybest_f {S : Int → Int} {k : Nat} (h : ¬ S k < (ybest S k).1) : ybest S (k + 1) = ybest S k := by
  show (if _ then _ else _) = _
  rw [if_neg h]
theorem ybest_b {S : Int → Int} (hS : ∀ c, 0 ≤ S c ∧ S c ≤ 5000) : ∀ k : Nat, 0 < k → (ybest S k).1 ≤ 5000 ∧ 0 ≤ (ybest S k).2
  | 1, _ => by
    have : S 0 < (ybest S 0).1 := by have := hS 0; show S 0 < 1000000; omega
    rw [ybest_t (k := 0) this]
    exact ⟨(hS _).2, by show (0 : Int) ≤ ((0 : Nat) : Int); omega⟩
  | k + 2, _ => by
    have ih := ybest_b hS (k + 1) (by omega)
    by_cases h : S ((k + 1 : Nat) : Int) < (ybest S (k + 1)).1
    · rw [ybest_t h]
      exact ⟨(hS _).2, by show (0 : Int) ≤ ((k + 1 : Nat) : Int); omega⟩
    · rw [ybest_f h]
      exact ih
abbrev yAs : List Nat × List (Nat × Int) := ([16, 18, 19, 20, 21], [(14, 3), (24, 4), (24, 5)])
theorem c_best_l {d : Nat} (hd : 6 ≤ d) {N σ0 : zF} {G : yG} {T w : Int} {S : Int → Int} (hS : ∀ r, S r = ysum (yHR N G (ypw N w) (yw N r 1 (N 6))) (N 0 0).toNat) : ∀ (j k : Nat) (m : Int → Int) (σ : zF), (k : Int) + j = N 0 0 → yX N G T w m σ → σ 24 4 = (ybest S k).1 → σ 24 5 = (ybest S k).2 → yf yAs σ0 σ → yT (P_X6_bestThanks_21 d (k : Int) σ) (yV fun s => s 24 4 = (ybest S (N 0 0).toNat).1 ∧ s 24 5 = (ybest S (N 0 0).toNat).2 ∧ (∃ m, yX N G T w m s) ∧ yf yAs σ0 s) := by
  intro j
  induction j with
  | zero =>
    intro k m σ hk hX g1 g2 f
    rw [e_X6_bestThanks_21, hX.2.2.2.2.1.1]
    refine y_n (by omega) (y_v ?_)
    rw [show (N 0 0).toNat = k by omega]
    exact ⟨g1, g2, ⟨m, hX⟩, f⟩
  | succ j ih =>
    intro k m σ hk hX g1 g2 f
    have b1 := hX.1.2.1
    rw [e_X6_bestThanks_21, hX.2.2.2.2.1.1]
    refine y_g (by omega) (y_cV (c_now (by omega) hX) (fun s hs => ?_))
    refine y_cV (c_say (by omega) 1 hs.1 (by omega) (by omega)) (fun s2 hs2 => ?_)
    refine y_cI (c_all hd hs2.1) (fun v s3 hs3 => ?_)
    have f3 : yf yAs σ s3 := yf_tr (yf_tr (yf_le hs.2 (by decide)) (yf_le hs2.2 (by decide))) (yf_le hs3.2.2 (by decide))
    have e4 : s3 24 4 = (ybest S k).1 := by rw [hs3.2.2 24 4 rfl, hs2.2 24 4 rfl, hs.2 24 4 rfl]; exact g1
    have e5 : s3 24 5 = (ybest S k).2 := by rw [hs3.2.2 24 5 rfl, hs2.2 24 5 rfl, hs.2 24 5 rfl]; exact g2
    have ev : v = S k := by rw [hs3.1, hS]
    rw [zw_i (x := (k : Int) + 1) (by omega) (by omega), e4, ev]
    have ih2 := ih (k + 1)
    rw [Int.natCast_succ] at ih2
    refine y_if (fun q => ?_) (fun q => ?_)
    · refine ih2 _ _ (by omega) (yX_f hs3.2.1 (A := ([], [(24, 4), (24, 5)])) (yf_set (yf_set yf_rf rfl) rfl) (by decide)) ?_ ?_ (yf_set (yf_set (yf_tr f f3) rfl) rfl)
      · rw [ybest_t q]; rfl
      · rw [ybest_t q]; rfl
    · refine ih2 _ _ (by omega) hs3.2.1 ?_ ?_ (yf_tr f f3)
      · rw [ybest_f q]; exact e4
      · rw [ybest_f q]; exact e5
abbrev yAm : List Nat × List (Nat × Int) := ([60, 72, 73], [])
theorem yS_b {N : zF} {G : yG} {p m : Int → Int} {S : Int → Int} (hB : yBn N) (hS : ∀ r, S r = ysum (yHR N G p (yw N r 1 m)) (N 0 0).toNat) : ∀ c, 0 ≤ S c ∧ S c ≤ 5000 := by
  intro c
  have := ysum_b (yHR_b0 N G p (yw N c 1 m)) (N 0 0).toNat
  have := hB.2.1
  rw [hS]
  omega
theorem m_best_l {d : Nat} (hd : 7 ≤ d) {N σ0 : zF} {G : yG} {p m : Int → Int} {S : Int → Int} {what : Int} (hB : yBn N) (hS : ∀ r, S r = ysum (yHR N G p (yw N r 1 m)) (N 0 0).toNat) (hn : 0 < N 0 0) : ∀ (j k : Nat) (y2 y3 : Int) (σ : zF), (k : Int) + j = N 0 0 → yY N G p m σ → (∀ c, 0 ≤ c → c < 12 → σ 86 c = m c) → (k = 0 ∧ y2 = -2 ∨ 0 < k ∧ y3 = (ybest S k).1 ∧ y2 = (ybest S k).2) → yf yAm σ0 σ → yT (P_X12_best_27 d what y2 y3 (k : Int) σ) (yI fun v s => v = (if what = 0 then (ybest S (N 0 0).toNat).2 else (ybest S (N 0 0).toNat).1) ∧ yM N p m s ∧ yf yAm σ0 s) := by
  have bS := yS_b hB hS
  have b1 := hB.2.1
  intro j
  induction j with
  | zero =>
    intro k y2 y3 σ hk hY h86 h f
    have e : (N 0 0).toNat = k := by omega
    rw [e_X12_best_27, hY.2.2.2.1.1]
    refine y_n (by omega) ?_
    rw [e]
    rcases h with h | ⟨hk0, h3, h2⟩
    · omega
    · have := ybest_b bS k hk0
      refine y_n (by omega) (y_if (fun q => y_i ⟨?_, hY.2.2.2.1, f⟩) (fun q => y_i ⟨?_, hY.2.2.2.1, f⟩))
      · rw [if_pos q]; exact h2
      · rw [if_neg q]; exact h3
  | succ j ih =>
    intro k y2 y3 σ hk hY h86 h f
    have hY2 := hY
    obtain ⟨g1, g2, g3, g4, g5⟩ := hY2
    rw [e_X12_best_27, g4.1]
    refine y_g (by omega) (y_cV (m_word (by omega) 1 g1 g2 g4 (by omega) (by omega)) (fun s hs => ?_))
    have hYs : yY N G p (yw N k 1 m) s := ⟨g1, yw_b (by omega) (by omega) g2, g3, hs.1, yLM_f g5 hs.2 (by decide)⟩
    refine y_cI (m_all hd hYs) (fun v s2 hs2 => ?_)
    refine y_cV (m_again86 (by omega) (m := m) (yM_f hs.1 hs2.2 (by decide)) (fun c a b => by rw [hs2.2 86 c rfl, hs.2 86 c rfl]; exact h86 c a b)) (fun s3 hs3 => ?_)
    have f3 : yf yAm σ s3 := yf_tr (yf_tr (yf_le hs.2 (by decide)) (yf_le hs2.2 (by decide))) (yf_le hs3.2 (by decide))
    have hY3 : yY N G p m s3 := ⟨g1, g2, g3, hs3.1, yLM_f g5 f3 (by decide)⟩
    have ev : v = S k := by rw [hs2.1, hS]
    have ih2 := ih (k + 1)
    rw [Int.natCast_succ] at ih2
    rw [zw_i (x := (k : Int) + 1) (by omega) (by omega), ev]
    have b86 : ∀ c, 0 ≤ c → c < 12 → s3 86 c = m c := fun c a b => (f3 86 c rfl).trans (h86 c a b)
    refine y_if (fun q => ?_) (fun q => ?_)
    · rcases h with ⟨hk0, -⟩ | ⟨hk0, h3, h2⟩
      · subst hk0
        have t : S ((0 : Nat) : Int) < (ybest S 0).1 := by have := bS ((0 : Nat) : Int); show S ((0 : Nat) : Int) < 1000000; omega
        refine ih2 _ _ _ (by omega) hY3 b86 (Or.inr ⟨by omega, ?_, ?_⟩) (yf_tr f f3)
        · rw [ybest_t t]
        · rw [ybest_t t]
      · have := ybest_b bS k hk0
        omega
    · rcases h with ⟨hk0, h2⟩ | ⟨hk0, h3, h2⟩
      · exact absurd h2 q
      · refine y_if (fun z => ?_) (fun z => ?_)
        · refine ih2 _ _ _ (by omega) hY3 b86 (Or.inr ⟨by omega, ?_, ?_⟩) (yf_tr f f3)
          · rw [ybest_t (by omega)]
          · rw [ybest_t (by omega)]
        · refine ih2 _ _ _ (by omega) hY3 b86 (Or.inr ⟨by omega, ?_, ?_⟩) (yf_tr f f3)
          · rw [ybest_f (by omega)]; exact h3
          · rw [ybest_f (by omega)]; exact h2
theorem o_best {x : Int} : yStep 121 213 [.inr (.inl x)] := by
  intro d hd c N G σ hI c0 c1
  obtain ⟨d, rfl, hd'⟩ := y_d hd; have hd := hd'
  obtain ⟨n1, n2, n3, n4⟩ := yI_n hI
  rw [e_X11_best, y_rg, n1]
  have mod : ∀ s : zF, zx (d + 1) 213 [.inl (some 57), .inr (.inl x)] s = if 0 ≤ x ∧ x ≤ 1 then zCV LAY (zx d 197 [.inl (some 57), .inl (some 86)] s) (fun s3 => P_X12_best_27 d x (-2) 0 0 s3) else zri (-1) s := by
    intro s
    rw [e_X12_best, k_within (by omega), zCI_ri, y01]
  by_cases h : 0 ≤ x ∧ x ≤ 1
  · rw [if_pos h]
    refine y_if (fun q => y_i ?_) (fun q => ?_)
    · rw [mod, if_pos h]
      refine y_cV (m_keep86 (by omega) hI.2.1.2.2.2.1) (fun t ht => ?_)
      rw [e_X12_best_27, ht.2 57 0 rfl, n2, q]
      exact y_n (by omega) (y_g rfl (y_i ⟨rfl, N, G, yInv_th hI (s := σ) hI.1 (by omega) yf_rf (yM_f hI.2.1.2.2.2.1 ht.2 (by decide)) (yf_le ht.2 (by decide))⟩))
    · obtain ⟨d, rfl, hd'⟩ := y_d (k := 140) (d := d) (by omega)
      rw [e_X6_bestThanks]
      have f0 : yf ySC σ (zset (zset σ 24 4 1000000) 24 5 (-1)) := yf_set (yf_set yf_rf rfl) rfl
      have main : yT (zCV LAY (zx d 87 [.inl (some 17), .inr (.inl (-1))] (zset (zset σ 24 4 1000000) 24 5 (-1))) fun s1 => P_X6_bestThanks_21 d 0 s1) (yV fun s => s 24 4 = (ybest (fun r => ysum (yHR N G (N 5) (yw N r 1 (N 6))) (N 0 0).toNat) (N 0 0).toNat).1 ∧ s 24 5 = (ybest (fun r => ysum (yHR N G (N 5) (yw N r 1 (N 6))) (N 0 0).toNat) (N 0 0).toNat).2 ∧ (∃ m, yX N G (σ 17 5 + 1) (-1) m s) ∧ yf ySC σ s) := by
        refine y_cV (c_begin (by omega) (-1) (yP_f hI.1 (A := ([], [(24, 4), (24, 5)])) (yf_set (yf_set yf_rf rfl) rfl) (by decide)) (show σ 17 5 < 5000000 from yI_t hI c1)) (fun s hs => ?_)
        refine y_mV (c_best_l (by omega) (σ0 := s) (S := fun r => ysum (yHR N G (N 5) (yw N r 1 (N 6))) (N 0 0).toNat) (fun r => by rw [yHR_w]) (N 0 0).toNat 0 (N 6) s (by omega) hs.1 ?_ ?_ yf_rf) (fun t ht => ⟨ht.1, ht.2.1, ht.2.2.1, yf_tr (yf_tr f0 (yf_le hs.2 (by decide))) (yf_le ht.2.2.2 (by decide))⟩)
        · rw [hs.2 24 4 rfl]; rfl
        · rw [hs.2 24 5 rfl]; rfl
      refine y_cV main (fun s hs => ?_)
      obtain ⟨e4, e5, ⟨m', hX⟩, f⟩ := hs
      have hY := yY_f hI.2.1 f (by decide)
      have fin : ∀ v, v = (if x = 0 then (ybest (fun r => ysum (yHR N G (N 5) (yw N r 1 (N 6))) (N 0 0).toNat) (N 0 0).toNat).2 else (ybest (fun r => ysum (yHR N G (N 5) (yw N r 1 (N 6))) (N 0 0).toNat) (N 0 0).toNat).1) → yT (zri v s) (yI fun v s => yT (zx (d + 1 + 1) 213 [.inl (some 57), .inr (.inl x)] s) (yI fun w t => w = v ∧ ∃ N' G', yInv (c + 1) N' G' t)) := by
        intro v hv
        refine y_i ?_
        rw [mod, if_pos h]
        refine y_cV (m_keep86 (by omega) hY.2.2.2.1) (fun t ht => ?_)
        refine y_mI (m_best_l (by omega) (σ0 := t) (S := fun r => ysum (yHR N G (N 5) (yw N r 1 (N 6))) (N 0 0).toNat) hI.1.1 (fun r => rfl) (by omega) (N 0 0).toNat 0 (-2) 0 t (by omega) (yY_f hY ht.2 (by decide)) ht.1 (Or.inl ⟨rfl, rfl⟩) yf_rf) (fun w u hu => ⟨by rw [hu.1, hv], N, G, yth hI hX (by omega) f hu.2.1 (yf_tr (yf_le ht.2 (by decide)) (yf_le hu.2.2 (by decide)))⟩)
      refine y_if (fun z => fin _ ?_) (fun z => fin _ ?_)
      · rw [if_pos z]; exact e5
      · rw [if_neg z]; exact e4
  · rw [if_neg h]
    refine y_i ?_
    rw [mod, if_neg h]
    exact y_i ⟨rfl, N, G, yInv_id hI⟩
