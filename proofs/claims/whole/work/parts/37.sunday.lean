/-! deeds; Sundays by one and by two -/
def ydd (N : zF) (t : Int) (m : Int → Int) : Int → Int := if 0 < t then yw N ((t - 1) / 2) (1 + (t - 1) % 2) m else m
def ynum (t : Int) : Int := if t = 0 then -1 else 3 * ((t - 1) / 2) + 1 + (t - 1) % 2
theorem ydd_b {N : zF} {t : Int} {m : Int → Int} (hB : yBn N) (h0 : 0 ≤ t) (h1 : t ≤ 2 * N 0 0) (hm : yBm m) : yBm (ydd N t m) := by
  have := hB.2.1
  unfold ydd
  split
  · exact yw_b (by omega) (by omega) hm
  · exact hm
theorem c_perform {d : Nat} (hd : 2 ≤ d) {N : zF} {G : yG} {T w : Int} {m : Int → Int} {σ : zF} {t : Int} (h : yX N G T w m σ) (h0 : 0 ≤ t) (h1 : t ≤ 2 * N 0 0) : yT (zx d 57 [.inl (some 24), .inr (.inl t)] σ) (yV fun s => yX N G T w (ydd N t m) s ∧ yf ([18], []) σ s) := by
  obtain ⟨d, rfl, hd'⟩ := y_d hd; have hd := hd'
  have b1 := h.1.2.1
  rw [e_X6_perform]
  unfold ydd
  refine y_if (fun q => y_n (by decide) (y_n (by decide) ?_)) (fun q => ?_)
  · rw [zw_i (x := t - 1) (by omega) (by omega), zdiv_p (by omega) (by omega) (by decide), zrem_p (by omega), zw_i (x := 1 + (t - 1) % 2) (by omega) (by omega), if_pos q]
    exact y_cV (c_say hd _ h (by omega) (by omega)) (fun s hs => y_v hs)
  · rw [if_neg q]
    exact y_v ⟨h, yf_rf⟩
theorem c_numberOf {d : Nat} (hd : 1 ≤ d) {σ : zF} {t : Int} (h0 : 0 < t) (h1 : t ≤ 24) : zx d 59 [.inr (.inl t)] σ = zri (ynum t) σ := by
  obtain ⟨d, rfl, -⟩ := y_d hd
  rw [e_X6_numberOf, if_neg (by decide), if_neg (by decide), zw_i (x := t - 1) (by omega) (by omega), zdiv_p (by omega) (by omega) (by decide), zrem_p (by omega), zw_i (x := 3 * ((t - 1) / 2)) (by omega) (by omega), zw_i (x := 3 * ((t - 1) / 2) + 1) (by omega) (by omega), zw_i (by omega) (by omega)]
  unfold ynum
  rw [if_neg (by omega)]
theorem c_first {d : Nat} (hd : 3 ≤ d) {N : zF} {G : yG} {T w : Int} {m : Int → Int} {σ : zF} {t : Int} (h : yX N G T w m σ) (h0 : 0 ≤ t) (h1 : t ≤ 2 * N 0 0) : yT (zx d 62 [.inl (some 24), .inr (.inl t)] σ) (yV fun s => yX N G T w (ydd N t (N 6)) s ∧ (∀ c, 0 ≤ c → c < 12 → s 26 c = ydd N t (N 6) c) ∧ yf ([18, 26], []) σ s) := by
  obtain ⟨d, rfl, hd'⟩ := y_d hd; have hd := hd'
  rw [e_X6_performFirst]
  refine y_cV (c_now (by omega) h) (fun s hs => y_cV (c_perform (by omega) hs.1 h0 h1) (fun s2 hs2 => y_g (by omega) (y_v ⟨?_, fun c a b => ?_, yf_cpy (yf_tr (yf_le hs.2 (by decide)) (yf_le hs2.2 (by decide))) rfl⟩)))
  · exact yX_f hs2.1 (A := ([26], [])) (yf_cpy yf_rf rfl) (by decide)
  · rw [zcpy_eq, if_pos ⟨rfl, by omega, by omega⟩, Int.zero_add, Int.sub_zero]
    exact hs2.1.2.2.2.2.2.2.2.2.1 c a b
theorem c_second {d : Nat} (hd : 3 ≤ d) {N : zF} {G : yG} {T w : Int} {m m1 : Int → Int} {σ : zF} {t : Int} (h : yX N G T w m σ) (hm : yBm m1) (h26 : ∀ c, 0 ≤ c → c < 12 → σ 26 c = m1 c) (h0 : 0 ≤ t) (h1 : t ≤ 2 * N 0 0) : yT (zx d 63 [.inl (some 24), .inr (.inl t)] σ) (yV fun s => yX N G T w (ydd N t m1) s ∧ yf ([18], []) σ s) := by
  obtain ⟨d, rfl, hd'⟩ := y_d hd; have hd := hd'
  rw [e_X6_performSecond]
  have f : yf ([18], []) σ (zcpy σ 26 0 18 0 12) := yf_cpy yf_rf rfl
  refine y_g (by omega) (y_cV (c_perform (by omega) (yX_mood h f hm (fun c a b => ?_)) h0 h1) (fun s hs => y_v ⟨hs.1, yf_tr f hs.2⟩))
  rw [zcpy_eq, if_pos ⟨rfl, by omega, by omega⟩, Int.zero_add, Int.sub_zero]
  exact h26 c a b
theorem c_turns {d : Nat} (hd : 1 ≤ d) {N σ : zF} (hB : yBn N) (hC : yC N σ) : zx d 58 [.inl (some 24)] σ = zri (1 + 2 * N 0 0) σ := by
  obtain ⟨d, rfl, -⟩ := y_d hd
  have := hB.1
  have := hB.2.1
  rw [e_X6_turns, hC.1, zw_i (x := 2 * N 0 0) (by omega) (by omega), zw_i (by omega) (by omega)]
/-! the model's deeds -/
theorem m_deed {d : Nat} (hd : 3 ≤ d) {N : zF} {G : yG} {p m : Int → Int} {σ : zF} {v : Int} (hY : yY N G p m σ) (h0 : 0 ≤ v) (h1 : v < 3 * N 0 0) (h3 : 0 < v % 3) : yT (zx d 221 [.inl (some 57), .inr (.inl v)] σ) (yV fun s => yY N G p (ydd N (2 * (v / 3) + v % 3) m) s ∧ yf ([60], []) σ s) := by
  obtain ⟨d, rfl, hd'⟩ := y_d hd; have hd := hd'
  obtain ⟨hB, hm, hp, hM, hL⟩ := hY
  have b1 := hB.2.1
  have e : ydd N (2 * (v / 3) + v % 3) m = yw N (v / 3) (v % 3) m := by
    unfold ydd
    rw [if_pos (by omega), show (2 * (v / 3) + v % 3 - 1) / 2 = v / 3 by omega, show 1 + (2 * (v / 3) + v % 3 - 1) % 2 = v % 3 by omega]
  rw [e_X12_deed, zdiv_p h0 (by omega) (by decide), zrem_p h0, e]
  refine y_n (by omega) (y_n (by decide) (y_n (by decide) (y_cV (m_word (by omega) (v % 3) hB hm hM (by omega) (by omega)) (fun s hs => y_v ⟨⟨hB, yw_b (by omega) (by omega) hm, hp, hs.1, yLM_f hL hs.2 (by decide)⟩, hs.2⟩))))
theorem m_isDeed {d : Nat} (hd : 1 ≤ d) {N σ : zF} {p m : Int → Int} (hB : yBn N) (hM : yM N p m σ) {v : Int} (h0 : 0 ≤ v) (h1 : v < 3 * N 0 0) : zx d 222 [.inl (some 57), .inr (.inl v)] σ = zri (if 0 < v % 3 then 1 else 0) σ := by
  obtain ⟨d, rfl, -⟩ := y_d hd
  have b1 := hB.2.1
  rw [e_X12_isDeed, hM.1, if_neg (by omega), zw_i (by omega) (by omega), if_pos h1, if_neg (by decide), zrem_p h0, y_ri]
/-! counts and firsts -/
def ysc (f : Int → Bool) : Nat → Int → Int
  | 0, _ => 0
  | j + 1, k => (if f k = true then 1 else 0) + ysc f j (k + 1)
def ysf (f : Int → Bool) : Nat → Int → Int
  | 0, _ => -1
  | j + 1, k => if f k = true then k else ysf f j (k + 1)
theorem ysc_b (f : Int → Bool) : ∀ (j : Nat) (k : Int), 0 ≤ ysc f j k ∧ ysc f j k ≤ j
  | 0, _ => by unfold ysc; omega
  | j + 1, k => by
    have := ysc_b f j (k + 1)
    unfold ysc
    split <;> omega
theorem ysf_b (f : Int → Bool) : ∀ (j : Nat) (k : Int), 0 ≤ k → ysf f j k = -1 ∨ k ≤ ysf f j k
  | 0, _, _ => Or.inl rfl
  | j + 1, k, h => by
    have := ysf_b f j (k + 1) (by omega)
    unfold ysf
    split <;> omega
def yfn (F : Int) : Int := if F = -1 then -9 else ynum F
abbrev yAu : List Nat × List (Nat × Int) := ([16, 18, 19, 20, 21, 26], [(14, 3), (24, 4), (24, 5)])
theorem c_one_l {d : Nat} (hd : 6 ≤ d) {N σ0 : zF} {G : yG} {T w s : Int} {el : Int → Int} {sz tot F : Int} {f : Int → Bool} (h0 : 0 ≤ s) (h1 : s < 6) (hsz : 0 ≤ sz ∧ sz ≤ 60) (hf : ∀ t, f t = decide (yun (N 0 0) (yHR N G (ypw N w) (ydd N t (N 6))) el sz.toNat 0 = -2)) (hF : F = -1 ∨ 0 ≤ F) : ∀ (j : Nat) (t : Int) (m : Int → Int) (σ : zF), 0 ≤ t → t + j = 1 + 2 * N 0 0 → yX N G T w m σ → σ (ysh s) 1 = sz → (∀ i, 0 ≤ i → i < 60 → σ (ysr s) i = el i) → 0 ≤ σ 24 4 → σ 24 4 + ysc f j t = tot → tot ≤ 25 → (σ 24 4 = 0 ∧ σ 24 5 = -9 ∧ ysf f j t = F ∨ 0 < σ 24 4 ∧ σ 24 5 = yfn F) → yf yAu σ0 σ → yT (P_X6_deedsThatFit_26 d (ysh s) (1 + 2 * N 0 0) t σ) (yV fun u => u 24 4 = tot ∧ u 24 5 = yfn F ∧ (∃ m, yX N G T w m u) ∧ yf yAu σ0 u) := by
  intro j
  induction j with
  | zero =>
    intro t m σ t0 ht hX hs hel v0 htot ht25 hd2 g
    rw [e_X6_deedsThatFit_26]
    have e : ysc f 0 t = 0 := rfl
    refine y_n (by omega) (y_v ⟨by omega, ?_, ⟨m, hX⟩, g⟩)
    rcases hd2 with ⟨_, b, c⟩ | ⟨_, b⟩
    · have : F = -1 := c.symm
      rw [b, this]
      rfl
    · exact b
  | succ j ih =>
    intro t m σ t0 ht hX hs hel v0 htot ht25 hd2 g
    have b1 := hX.1.2.1
    have o := fun A (hA : yds A yDSh = true) i => yoff hA h0 h1 i
    rw [e_X6_deedsThatFit_26]
    refine y_g (by omega) (y_cV (c_now (by omega) hX) (fun s1 hs1 => ?_))
    refine y_cV (c_perform (by omega) hs1.1 t0 (by omega)) (fun s2 hs2 => ?_)
    have f2 : yf ([18], []) σ s2 := yf_tr hs1.2 hs2.2
    have z2 : s2 (ysh s) 1 = sz := (f2 _ _ (o ([18], []) (by decide) 1).1).trans hs
    refine y_cI (c_unl hd (el := el) h0 h1 (by rw [z2]; exact hsz) (fun i a b => (f2 _ _ (o ([18], []) (by decide) i).2).trans (hel i a b)) hs2.1) (fun v s3 hs3 => ?_)
    have f3 : yf yAu σ s3 := yf_tr (yf_le f2 (by decide)) (yf_le hs3.2.2 (by decide))
    have e4 : s3 24 4 = σ 24 4 := (hs3.2.2 24 4 rfl).trans (f2 24 4 rfl)
    have e5 : s3 24 5 = σ 24 5 := (hs3.2.2 24 5 rfl).trans (f2 24 5 rfl)
    have z3 : ∀ v4 v5, (zset (zset s3 24 5 v5) 24 4 v4) (ysh s) 1 = sz ∧ (∀ i, 0 ≤ i → i < 60 → (zset (zset s3 24 5 v5) 24 4 v4) (ysr s) i = el i) := by
      intro v4 v5
      have ff : yf yAu σ (zset (zset s3 24 5 v5) 24 4 v4) := yf_set (yf_set f3 rfl) rfl
      exact ⟨(ff _ _ (o yAu (by decide) 1).1).trans hs, fun i a b => (ff _ _ (o yAu (by decide) i).2).trans (hel i a b)⟩
    have z4 : s3 (ysh s) 1 = sz ∧ (∀ i, 0 ≤ i → i < 60 → s3 (ysr s) i = el i) := ⟨(f3 _ _ (o yAu (by decide) 1).1).trans hs, fun i a b => (f3 _ _ (o yAu (by decide) i).2).trans (hel i a b)⟩
    have ev : v = yun (N 0 0) (yHR N G (ypw N w) (ydd N t (N 6))) el sz.toNat 0 := by rw [hs3.1, z2]
    have hft := hf t
    have bsc := ysc_b f j (t + 1)
    rw [zw_i (x := t + 1) (by omega) (by omega), e4]
    refine y_if (fun q => ?_) (fun q => ?_)
    · have ft : f t = true := by rw [hft, ← ev, q]; rfl
      have c1 : ysc f (j + 1) t = 1 + ysc f j (t + 1) := by show (if _ then _ else _) + _ = _; rw [if_pos ft]
      have c2 : ysf f (j + 1) t = t := by show (if _ then _ else _) = _; rw [if_pos ft]
      rw [zw_i (x := σ 24 4 + 1) (by omega) (by omega)]
      refine y_if (fun q0 => ?_) (fun q0 => ?_)
      · have eF : F = t := by
          rcases hd2 with ⟨_, _, c⟩ | ⟨a, _⟩
          · rw [← c, c2]
          · omega
        refine y_if (fun q1 => ?_) (fun q1 => ?_)
        · refine ih (t + 1) _ _ (by omega) (by omega) (yX_f hs3.2.1 (A := ([], [(24, 4), (24, 5)])) (yf_set (yf_set yf_rf rfl) rfl) (by decide)) (z3 _ _).1 (z3 _ _).2 ?_ ?_ ht25 (Or.inr ⟨?_, ?_⟩) (yf_set (yf_set (yf_tr g f3) rfl) rfl)
          · rw [zset_hit rfl]; omega
          · rw [zset_hit rfl]; omega
          · rw [zset_hit rfl]; omega
          · show zset s3 24 5 (-1) 24 5 = _
            rw [zset_hit rfl, eF, q1]
            rfl
        · rw [c_numberOf (by omega) (by omega) (by omega), zCI_ri, e4, zw_i (x := σ 24 4 + 1) (by omega) (by omega)]
          refine ih (t + 1) _ _ (by omega) (by omega) (yX_f hs3.2.1 (A := ([], [(24, 4), (24, 5)])) (yf_set (yf_set yf_rf rfl) rfl) (by decide)) (z3 _ _).1 (z3 _ _).2 ?_ ?_ ht25 (Or.inr ⟨?_, ?_⟩) (yf_set (yf_set (yf_tr g f3) rfl) rfl)
          · rw [zset_hit rfl]; omega
          · rw [zset_hit rfl]; omega
          · rw [zset_hit rfl]; omega
          · show zset s3 24 5 (ynum t) 24 5 = _
            rw [zset_hit rfl, eF]
            unfold yfn
            rw [if_neg (by omega)]
      · have z5 : (zset s3 24 4 (σ 24 4 + 1)) (ysh s) 1 = sz ∧ (∀ i, 0 ≤ i → i < 60 → (zset s3 24 4 (σ 24 4 + 1)) (ysr s) i = el i) := by
          have ff : yf yAu σ (zset s3 24 4 (σ 24 4 + 1)) := yf_set f3 rfl
          exact ⟨(ff _ _ (o yAu (by decide) 1).1).trans hs, fun i a b => (ff _ _ (o yAu (by decide) i).2).trans (hel i a b)⟩
        refine ih (t + 1) _ _ (by omega) (by omega) (yX_f hs3.2.1 (A := ([], [(24, 4)])) (yf_set yf_rf rfl) (by decide)) z5.1 z5.2 ?_ ?_ ht25 (Or.inr ⟨?_, ?_⟩) (yf_set (yf_tr g f3) rfl)
        · rw [zset_hit rfl]; omega
        · rw [zset_hit rfl]; omega
        · rw [zset_hit rfl]; omega
        · rw [zset_off (by decide), e5]
          rcases hd2 with ⟨a, _, _⟩ | ⟨_, b⟩
          · exact absurd a q0
          · exact b
    · have ft : ¬ f t = true := by rw [hft, ← ev]; simp [q]
      have c1 : ysc f (j + 1) t = ysc f j (t + 1) := by show (if _ then _ else _) + _ = _; rw [if_neg ft]; omega
      have c2 : ysf f (j + 1) t = ysf f j (t + 1) := by show (if _ then _ else _) = _; rw [if_neg ft]
      refine ih (t + 1) _ _ (by omega) (by omega) hs3.2.1 z4.1 z4.2 (by omega) (by omega) ht25 ?_ (yf_tr g f3)
      rw [e4, e5, ← c2]
      exact hd2
theorem m_one_l {d : Nat} (hd : 7 ≤ d) {N σ0 : zF} {G : yG} {s what : Int} {p m0 el : Int → Int} {sz : Int} {f : Int → Bool} (h0 : 0 ≤ s) (h1 : s < 6) (hsz : 0 ≤ sz ∧ sz ≤ 60) (hr : ∀ i, 0 ≤ i → i < 60 → -32768 ≤ el i ∧ el i < 32768) (hf : ∀ t, f t = decide (yun (N 0 0) (yHR N G p (ydd N t m0)) el sz.toNat 0 = -2)) : ∀ (j : Nat) (v : Int) (q : Nat) (t sum first : Int) (σ : zF), v + 1 = j → t = (if v < 0 then 0 else 2 * (v / 3) + v % 3) → t + q = 2 * N 0 0 → v < 3 * N 0 0 → sum = ysc f q (t + 1) → first = yfn (ysf f q (t + 1)) → yY N G p m0 σ → σ 82 s = sz → (∀ i, 0 ≤ i → i < 60 → σ 83 (60 * s + i) = el i) → (∀ c, 0 ≤ c → c < 12 → σ 86 c = m0 c) → yf yAm σ0 σ → yT (P_X12_byOne_24 d s what sum first v σ) (yI fun w u => w = (if what = 0 then ysc f (q + t.toNat + 1) 0 else yfn (ysf f (q + t.toNat + 1) 0)) ∧ yM N p m0 u ∧ yf yAm σ0 u) := by
  intro j
  induction j with
  | zero =>
    intro v q t sum first σ hv ht hq hv3 hsum hfirst hY h82 h83 h86 g
    have b1 := hY.1.2.1
    have ev : v = -1 := by omega
    subst ev
    rw [if_pos (by omega)] at ht
    subst ht
    have bsc := ysc_b f q (0 + 1)
    rw [e_X12_byOne_24]
    refine y_n (by omega) (y_g (by omega) ?_)
    have dn : zx d 221 [.inl (some 57), .inr (.inl (-1))] σ = zrv σ := by
      obtain ⟨e, rfl, -⟩ := y_d (k := 0) (d := d) (by omega)
      rw [e_X12_deed, if_pos (by omega)]
    rw [dn, zCV_rv]
    refine y_cI (m_unl hd (el := el) h0 h1 hr (by omega) h83 hY) (fun w s2 hs2 => ?_)
    have a := m_again86 (d := d) (by omega) (m := m0) (yM_f hY.2.2.2.1 hs2.2 (by decide)) (fun c a b => (hs2.2 86 c rfl).trans (h86 c a b))
    have ew : w = yun (N 0 0) (yHR N G p (ydd N 0 m0)) el sz.toNat 0 := by rw [hs2.1, h82]; rfl
    have hft := hf 0
    have fin : ∀ (x y : Int) (s3 : zF), x = ysc f (q + 1) 0 → y = yfn (ysf f (q + 1) 0) → yM N p m0 s3 ∧ yf ([60], []) s2 s3 → yT (P_X12_byOne_24 d s what x y (-2) s3) (yI fun w u => w = (if what = 0 then ysc f (q + (0 : Int).toNat + 1) 0 else yfn (ysf f (q + (0 : Int).toNat + 1) 0)) ∧ yM N p m0 u ∧ yf yAm σ0 u) := by
      rintro x y s3 rfl rfl hs3
      rw [e_X12_byOne_24]
      have g3 : yf yAm σ0 s3 := yf_tr g (yf_tr (yf_le hs2.2 (by decide)) (yf_le hs3.2 (by decide)))
      refine y_g (by omega) (y_if (fun z => y_i ⟨?_, hs3.1, g3⟩) (fun z => y_i ⟨?_, hs3.1, g3⟩))
      · rw [if_pos z]; rfl
      · rw [if_neg z]; rfl
    rw [show zw (-1 + -1) = -2 by decide]
    refine y_if (fun z => y_cV a (fun s3 hs3 => ?_)) (fun z => y_cV a (fun s3 hs3 => ?_))
    · have ft : f 0 = true := by rw [hft, ← ew, z]; rfl
      refine fin _ _ s3 ?_ ?_ hs3
      · show _ = (if _ then _ else _) + _
        rw [if_pos ft, zw_i (by omega) (by omega)]
        omega
      · show _ = yfn (if _ then _ else _)
        rw [if_pos ft]
        rfl
    · have ft : ¬ f 0 = true := by rw [hft, ← ew]; simp [z]
      refine fin _ _ s3 ?_ ?_ hs3
      · show _ = (if _ then _ else _) + _
        rw [if_neg ft]
        omega
      · show _ = yfn (if _ then _ else _)
        rw [if_neg ft]
        exact hfirst
  | succ j ih =>
    intro v q t sum first σ hv ht hq hv3 hsum hfirst hY h82 h83 h86 g
    have b1 := hY.1.2.1
    have bsc := ysc_b f q (t + 1)
    rw [if_neg (by omega)] at ht
    rw [e_X12_byOne_24]
    refine y_n (by omega) (y_n (by omega) ?_)
    rw [m_isDeed (by omega) hY.1 hY.2.2.2.1 (by omega) hv3, zCI_ri, y01, zw_i (x := v + -1) (by omega) (by omega)]
    refine y_if (fun z => ?_) (fun z => ?_)
    · refine y_cV (m_deed (by omega) hY (by omega) hv3 z) (fun s1 hs1 => ?_)
      refine y_cI (m_unl hd (el := el) h0 h1 hr (by rw [hs1.2 82 s rfl]; omega) (fun i a b => (hs1.2 83 _ rfl).trans (h83 i a b)) hs1.1) (fun w s2 hs2 => ?_)
      have a := m_again86 (d := d) (by omega) (m := m0) (yM_f hs1.1.2.2.2.1 hs2.2 (by decide)) (fun c a b => ((hs2.2 86 c rfl).trans (hs1.2 86 c rfl)).trans (h86 c a b))
      have ew : w = yun (N 0 0) (yHR N G p (ydd N t m0)) el sz.toNat 0 := by rw [hs2.1, hs1.2 82 s rfl, h82, ht]
      have hft := hf t
      have e1 : (t - 1) + 1 = t := by omega
      have ih2 := fun x y s3 (hx : x = ysc f (q + 1) t) (hy : y = yfn (ysf f (q + 1) t)) (hs3 : yM N p m0 s3 ∧ yf ([60], []) s2 s3) => by
        have g3 : yf yAm σ s3 := yf_tr (yf_le hs1.2 (by decide)) (yf_tr (yf_le hs2.2 (by decide)) (yf_le hs3.2 (by decide)))
        have := ih (v + -1) (q + 1) (t - 1) x y s3 (by omega) (by split <;> omega) (by omega) (by omega) (by rw [e1]; exact hx) (by rw [e1]; exact hy) ⟨hY.1, hY.2.1, hY.2.2.1, hs3.1, yLM_f hY.2.2.2.2 g3 (by decide)⟩ ((g3 82 s rfl).trans h82) (fun i a b => (g3 83 _ rfl).trans (h83 i a b)) (fun c a b => (g3 86 c rfl).trans (h86 c a b)) (yf_tr g g3)
        rw [show q + 1 + (t - 1).toNat + 1 = q + t.toNat + 1 by omega] at this
        exact this
      refine y_if (fun z2 => y_cV a (fun s3 hs3 => ?_)) (fun z2 => y_cV a (fun s3 hs3 => ?_))
      · have ft : f t = true := by rw [hft, ← ew, z2]; rfl
        refine ih2 _ _ s3 ?_ ?_ hs3
        · show _ = (if _ then _ else _) + _
          rw [if_pos ft, zw_i (by omega) (by omega)]
          omega
        · show _ = yfn (if _ then _ else _)
          rw [if_pos ft]
          unfold yfn ynum
          rw [if_neg (by omega), if_neg (by omega)]
          omega
      · have ft : ¬ f t = true := by rw [hft, ← ew]; simp [z2]
        refine ih2 _ _ s3 ?_ ?_ hs3
        · show _ = (if _ then _ else _) + _
          rw [if_neg ft]
          omega
        · show _ = yfn (if _ then _ else _)
          rw [if_neg ft]
          exact hfirst
    · refine ih (v + -1) q t sum first σ (by omega) (by split <;> omega) hq (by omega) hsum hfirst hY h82 h83 h86 g
