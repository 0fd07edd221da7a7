/-! years by draws -/
abbrev yAt3 : List Nat × List (Nat × Int) := ([16, 18, 19, 20, 21], [(14, 3)])
theorem zushr8 (x : Int) : 0 ≤ zushr x 8 ∧ zushr x 8 < 16777216 := by
  unfold zushr
  have h : ((Int32.ofInt 8).toUInt32 &&& Int32.toUInt32 31) = 8 := by decide
  rw [h]
  generalize (Int32.ofInt x).toUInt32 = u
  have hn : (u >>> 8).toNat < 16777216 := by
    rw [UInt32.toNat_shiftRight]
    have := u.toNat_lt
    show u.toNat >>> 8 < 16777216
    rw [Nat.shiftRight_eq_div_pow]
    omega
  have e : (u >>> 8).toInt32.toInt = ((u >>> 8).toNat : Int) := by
    show (u >>> 8).toBitVec.toInt = ((u >>> 8).toBitVec.toNat : Int)
    refine BitVec.toInt_eq_toNat_of_lt ?_
    have : (u >>> 8).toBitVec.toNat = (u >>> 8).toNat := rfl
    omega
  rw [e]
  omega
def yz1 (N : zF) (mn : Int) (q : Int × (Int → Int)) : Int × (Int → Int) := (zw ((zw (q.1 * 1103515245)) + 12345), yw N (zrem (zushr (zw ((zw (q.1 * 1103515245)) + 12345)) 8) (N 0 0)) (if zrem (zushr (zw ((zw (q.1 * 1103515245)) + 12345)) 16) 12 < mn then 1 else 2) q.2)
def ydz (N : zF) (mn : Int) : Nat → Int × (Int → Int) → Int × (Int → Int)
  | 0, q => q
  | j + 1, q => ydz N mn j (yz1 N mn q)
def yva (N : zF) (G : yG) (road : Int) (m : Int → Int) : Int := if road = -1 then ysum (yHR N G (N 5) m) (N 0 0).toNat else m road
def ysy (N : zF) (G : yG) (mn road : Int) (days : Nat) : Nat → Int × Int → Int × Int
  | 0, q => q
  | j + 1, q => ysy N G mn road days j ((ydz N mn days (q.1, N 6)).1, zw (q.2 + yva N G road (ydz N mn days (q.1, N 6)).2))
theorem ypick {N : zF} (hn : 0 < N 0 0) (z : Int) : 0 ≤ zrem (zushr z 8) (N 0 0) ∧ zrem (zushr z 8) (N 0 0) < N 0 0 := by
  have := zushr8 z
  rw [zrem_p this.1]
  exact ⟨Int.emod_nonneg _ (by omega), Int.emod_lt_of_pos _ hn⟩
theorem c_day_l {d : Nat} (hd : 1 ≤ d) {N σ0 : zF} {G : yG} {T years days mn road sum year : Int} {qf : Int × (Int → Int)} {Q : zR → Prop} (hn : 0 < N 0 0) (hdays : days ≤ 40) (hQ : ∀ σ : zF, yX N G T (-1) qf.2 σ → yf ([18], []) σ0 σ → yT (if road = -1 then (zCI LAY (zx d 93 [.inl (some 17)] σ) fun r102 s101 => P_X6_draw_29 d years days mn road qf.1 (zw (sum + r102)) (zw (year + 1)) s101) else (if 0 ≤ road ∧ road < 12 then P_X6_draw_29 d years days mn road qf.1 (zw (sum + (σ 18 road))) (zw (year + 1)) σ else none)) Q) : ∀ (j : Nat) (k : Int) (q : Int × (Int → Int)) (σ : zF), 0 ≤ k → k + j = days → ydz N mn j q = qf → yX N G T (-1) q.2 σ → yf ([18], []) σ0 σ → yT (P_X6_draw_45 d years days mn road q.1 sum year k σ) Q := by
  intro j
  induction j with
  | zero =>
    intro k q σ k0 hk hq hX g
    have hq' : q = qf := hq
    rw [e_X6_draw_45]
    rw [hq'] at hX ⊢
    exact y_n (by omega) (hQ σ hX g)
  | succ j ih =>
    intro k q σ k0 hk hq hX g
    have hp := ypick hn (zw ((zw (q.1 * 1103515245)) + 12345))
    rw [e_X6_draw_45, hX.2.2.2.2.1.1]
    refine y_g (by omega) (y_n (by decide) (y_if (fun z => y_n (by omega) (y_n (by decide) ?_)) (fun z => y_n (by omega) (y_g rfl ?_))))
    · refine y_cV (c_say hd 1 hX hp.1 hp.2) (fun s hs => ?_)
      rw [zw_i (x := k + 1) (by omega) (by omega)]
      refine ih (k + 1) (yz1 N mn q) s (by omega) (by omega) hq ?_ (yf_tr g hs.2)
      show yX N G T (-1) (yw N _ (if _ then 1 else 2) q.2) s
      rw [if_pos z]
      exact hs.1
    · refine y_cV (c_say hd 2 hX hp.1 hp.2) (fun s hs => ?_)
      rw [zw_i (x := k + 1) (by omega) (by omega)]
      refine ih (k + 1) (yz1 N mn q) s (by omega) (by omega) hq ?_ (yf_tr g hs.2)
      show yX N G T (-1) (yw N _ (if _ then 1 else 2) q.2) s
      rw [if_neg z]
      exact hs.1
theorem c_year_l {d : Nat} (hd : 6 ≤ d) {N σ0 : zF} {G : yG} {T years days mn road : Int} (hn : 0 < N 0 0) (hdays : 0 ≤ days ∧ days ≤ 40) (hy : years ≤ 30) (hr : road = -1 ∨ 0 ≤ road ∧ road < N 0 0) : ∀ (j : Nat) (k : Int) (q : Int × Int) (m : Int → Int) (σ : zF), 0 ≤ k → k + j = years → yX N G T (-1) m σ → yf yAt3 σ0 σ → yT (P_X6_draw_29 d years days mn road q.1 q.2 k σ) (yI fun v u => v = (ysy N G mn road days.toNat j q).2 ∧ (∃ m, yX N G T (-1) m u) ∧ yf yAt3 σ0 u) := by
  intro j
  induction j with
  | zero =>
    intro k q m σ k0 hk hX g
    rw [e_X6_draw_29]
    exact y_n (by omega) (y_i ⟨rfl, ⟨m, hX⟩, g⟩)
  | succ j ih =>
    intro k q m σ k0 hk hX g
    have b1 := hX.1.2.1
    rw [e_X6_draw_29]
    refine y_g (by omega) (y_cV (c_now (by omega) hX) (fun s1 hs1 => ?_))
    have g1 : yf yAt3 σ0 s1 := yf_tr g (yf_le hs1.2 (by decide))
    refine c_day_l (by omega) (σ0 := s1) (qf := ydz N mn days.toNat (q.1, N 6)) hn hdays.2 (fun s2 hX2 f2 => ?_) days.toNat 0 (q.1, N 6) s1 (by omega) (by omega) rfl hs1.1 yf_rf
    have g2 : yf yAt3 σ0 s2 := yf_tr g1 (yf_le f2 (by decide))
    rw [zw_i (x := k + 1) (by omega) (by omega)]
    refine y_if (fun z => ?_) (fun z => y_g (by omega) ?_)
    · refine y_cI (c_all hd hX2) (fun v s3 hs3 => ?_)
      have := ih (k + 1) ((ydz N mn days.toNat (q.1, N 6)).1, zw (q.2 + yva N G road (ydz N mn days.toNat (q.1, N 6)).2)) _ s3 (by omega) (by omega) hs3.2.1 (yf_tr g2 (yf_le hs3.2.2 (by decide)))
      have ev : yva N G road (ydz N mn days.toNat (q.1, N 6)).2 = v := by
        unfold yva
        rw [if_pos z, hs3.1, yHR_w]
      rw [ev] at this
      show yT _ (yI fun v u => v = (ysy N G mn road days.toNat j ((ydz N mn days.toNat (q.1, N 6)).1, zw (q.2 + yva N G road (ydz N mn days.toNat (q.1, N 6)).2))).2 ∧ _)
      rw [ev]
      exact this
    · have := ih (k + 1) ((ydz N mn days.toNat (q.1, N 6)).1, zw (q.2 + yva N G road (ydz N mn days.toNat (q.1, N 6)).2)) _ s2 (by omega) (by omega) hX2 g2
      have ev : yva N G road (ydz N mn days.toNat (q.1, N 6)).2 = s2 18 road := by
        unfold yva
        rw [if_neg z]
        exact (hX2.2.2.2.2.2.2.2.2.1 road (by omega) (by omega)).symm
      rw [ev] at this
      show yT _ (yI fun v u => v = (ysy N G mn road days.toNat j ((ydz N mn days.toNat (q.1, N 6)).1, zw (q.2 + yva N G road (ydz N mn days.toNat (q.1, N 6)).2))).2 ∧ _)
      rw [ev]
      exact this
theorem m_day_l {d : Nat} (hd : 2 ≤ d) {N σ0 : zF} {G : yG} {nmm road sum year : Int} {qf : Int × (Int → Int)} {Q : zR → Prop} (hn : 0 < N 0 0) (hm0 : 0 ≤ nmm ∧ nmm < 2147483648) (hdays : nmm / 100 % 100 ≤ 40) (hQ : ∀ σ : zF, yY N G (N 5) qf.2 σ → yf ([60], []) σ0 σ → yT (if road = -1 then (zCI LAY (zx d 193 [.inl (some 57)] σ) fun r103 s102 => zCV LAY (zx d 198 [.inl (some 57), .inl (some 86)] s102) fun s104 => P_X12_drawn_85 d nmm road qf.1 (zw (sum + r103)) (zw (year + 1)) s104) else (if 0 ≤ zw (12 + road) ∧ zw (12 + road) < 48 then (zCV LAY (zx d 198 [.inl (some 57), .inl (some 86)] σ) fun s101 => P_X12_drawn_85 d nmm road qf.1 (zw (sum + (σ 60 (zw (12 + road))))) (zw (year + 1)) s101) else none)) Q) : ∀ (j : Nat) (k : Int) (q : Int × (Int → Int)) (σ : zF), 0 ≤ k → k + j = nmm / 100 % 100 → ydz N (nmm % 100) j q = qf → yY N G (N 5) q.2 σ → yf ([60], []) σ0 σ → yT (P_X12_drawn_98 d nmm road q.1 sum year k σ) Q := by
  have e1 : zdiv nmm 100 = nmm / 100 := zdiv_p hm0.1 hm0.2 (by decide)
  have e2 : zrem (nmm / 100) 100 = nmm / 100 % 100 := zrem_p (by omega)
  have e3 : zrem nmm 100 = nmm % 100 := zrem_p hm0.1
  intro j
  induction j with
  | zero =>
    intro k q σ k0 hk hq hY g
    have hq' : q = qf := hq
    rw [e_X12_drawn_98, e1, e2, e3]
    rw [hq'] at hY ⊢
    exact y_n (by decide) (y_n (by decide) (y_n (by omega) (hQ σ hY g)))
  | succ j ih =>
    intro k q σ k0 hk hq hY g
    have b1 := hY.1.2.1
    have hp := ypick hn (zw ((zw (q.1 * 1103515245)) + 12345))
    rw [e_X12_drawn_98, e1, e2, e3, hY.2.2.2.1.1]
    refine y_n (by decide) (y_n (by decide) (y_g (by omega) (y_n (by omega) (y_n (by decide) (y_n (by decide) (y_if (fun z => ?_) (fun z => ?_)))))))
    · refine y_cV (m_word hd 1 hY.1 hY.2.1 hY.2.2.2.1 hp.1 hp.2) (fun s hs => ?_)
      rw [zw_i (x := k + 1) (by omega) (by omega)]
      refine ih (k + 1) (yz1 N (nmm % 100) q) s (by omega) (by omega) hq ?_ (yf_tr g hs.2)
      show yY N G (N 5) (yw N _ (if _ then 1 else 2) q.2) s
      rw [if_pos z]
      exact ⟨hY.1, yw_b hp.1 (by omega) hY.2.1, hY.2.2.1, hs.1, yLM_f hY.2.2.2.2 hs.2 (by decide)⟩
    · refine y_cV (m_word hd 2 hY.1 hY.2.1 hY.2.2.2.1 hp.1 hp.2) (fun s hs => ?_)
      rw [zw_i (x := k + 1) (by omega) (by omega)]
      refine ih (k + 1) (yz1 N (nmm % 100) q) s (by omega) (by omega) hq ?_ (yf_tr g hs.2)
      show yY N G (N 5) (yw N _ (if _ then 1 else 2) q.2) s
      rw [if_neg z]
      exact ⟨hY.1, yw_b hp.1 (by omega) hY.2.1, hY.2.2.1, hs.1, yLM_f hY.2.2.2.2 hs.2 (by decide)⟩
theorem m_year_l {d : Nat} (hd : 7 ≤ d) {N σ0 : zF} {G : yG} {nmm road : Int} (hn : 0 < N 0 0) (hm0 : 0 ≤ nmm ∧ nmm < 2147483648) (hdays : nmm / 100 % 100 ≤ 40) (hy : nmm / 10000 ≤ 30) (hr : road = -1 ∨ 0 ≤ road ∧ road < N 0 0) (h860 : ∀ c, 0 ≤ c → c < 12 → σ0 86 c = N 6 c) : ∀ (j : Nat) (k : Int) (q : Int × Int) (σ : zF), 0 ≤ k → k + j = nmm / 10000 → yY N G (N 5) (N 6) σ → yf yAm σ0 σ → yT (P_X12_drawn_85 d nmm road q.1 q.2 k σ) (yI fun v u => v = (ysy N G (nmm % 100) road (nmm / 100 % 100).toNat j q).2 ∧ yM N (N 5) (N 6) u ∧ yf yAm σ0 u) := by
  have e1 : zdiv nmm 10000 = nmm / 10000 := zdiv_p hm0.1 hm0.2 (by decide)
  intro j
  induction j with
  | zero =>
    intro k q σ k0 hk hY g
    rw [e_X12_drawn_85, e1]
    exact y_n (by decide) (y_n (by omega) (y_i ⟨rfl, hY.2.2.2.1, g⟩))
  | succ j ih =>
    intro k q σ k0 hk hY g
    have b1 := hY.1.2.1
    rw [e_X12_drawn_85, e1]
    refine y_n (by decide) (y_g (by omega) ?_)
    refine m_day_l (by omega) (σ0 := σ) (qf := ydz N (nmm % 100) (nmm / 100 % 100).toNat (q.1, N 6)) hn hm0 hdays (fun s2 hY2 f2 => ?_) (nmm / 100 % 100).toNat 0 (q.1, N 6) σ (by omega) (by omega) rfl hY yf_rf
    have g2 : yf yAm σ0 s2 := yf_tr g (yf_le f2 (by decide))
    rw [zw_i (x := k + 1) (by omega) (by omega)]
    refine y_if (fun z => ?_) (fun z => ?_)
    · refine y_cI (m_all hd hY2) (fun v s3 hs3 => ?_)
      have g3 : yf yAm σ0 s3 := yf_tr g2 (yf_le hs3.2 (by decide))
      refine y_cV (m_again86 (by omega) (m := N 6) (yM_f hY2.2.2.2.1 hs3.2 (by decide)) (fun c a b => (g3 86 c rfl).trans (h860 c a b))) (fun s4 hs4 => ?_)
      have := ih (k + 1) ((ydz N (nmm % 100) (nmm / 100 % 100).toNat (q.1, N 6)).1, zw (q.2 + yva N G road (ydz N (nmm % 100) (nmm / 100 % 100).toNat (q.1, N 6)).2)) s4 (by omega) (by omega) ⟨hY.1, hY.2.1, hY.2.2.1, hs4.1, yLM_f (yLM_f hY2.2.2.2.2 hs3.2 (by decide)) hs4.2 (by decide)⟩ (yf_tr g3 (yf_le hs4.2 (by decide)))
      have ev : yva N G road (ydz N (nmm % 100) (nmm / 100 % 100).toNat (q.1, N 6)).2 = v := by
        unfold yva
        rw [if_pos z, hs3.1]
      rw [ev] at this
      show yT _ (yI fun v u => v = (ysy N G (nmm % 100) road (nmm / 100 % 100).toNat j ((ydz N (nmm % 100) (nmm / 100 % 100).toNat (q.1, N 6)).1, zw (q.2 + yva N G road (ydz N (nmm % 100) (nmm / 100 % 100).toNat (q.1, N 6)).2))).2 ∧ _)
      rw [ev]
      exact this
    · rw [zw_i (x := 12 + road) (by omega) (by omega)]
      refine y_g (by omega) (y_cV (m_again86 (by omega) (m := N 6) hY2.2.2.2.1 (fun c a b => (g2 86 c rfl).trans (h860 c a b))) (fun s4 hs4 => ?_))
      have := ih (k + 1) ((ydz N (nmm % 100) (nmm / 100 % 100).toNat (q.1, N 6)).1, zw (q.2 + yva N G road (ydz N (nmm % 100) (nmm / 100 % 100).toNat (q.1, N 6)).2)) s4 (by omega) (by omega) ⟨hY.1, hY.2.1, hY.2.2.1, hs4.1, yLM_f hY2.2.2.2.2 hs4.2 (by decide)⟩ (yf_tr g2 (yf_le hs4.2 (by decide)))
      have ev : yva N G road (ydz N (nmm % 100) (nmm / 100 % 100).toNat (q.1, N 6)).2 = s2 60 (12 + road) := by
        unfold yva
        rw [if_neg z]
        exact (hY2.2.2.2.1.2.2 road (by omega) (by omega)).2.2.2.2.2.symm
      rw [ev] at this
      show yT _ (yI fun v u => v = (ysy N G (nmm % 100) road (nmm / 100 % 100).toNat j ((ydz N (nmm % 100) (nmm / 100 % 100).toNat (q.1, N 6)).1, zw (q.2 + yva N G road (ydz N (nmm % 100) (nmm / 100 % 100).toNat (q.1, N 6)).2))).2 ∧ _)
      rw [ev]
      exact this
theorem o_drawn {x y z : Int} (hy : zin y) : yStep 128 229 [.inr (.inl x), .inr (.inl y), .inr (.inl z)] := by
  intro d hd c N G σ hI c0 c1
  obtain ⟨d, rfl, hd'⟩ := y_d hd; have hd := hd'
  obtain ⟨n1, n2, n3, n4⟩ := yI_n hI
  unfold zin at hy
  have mod : ∀ s : zF, s 57 0 = N 0 0 → zx (d + 1) 229 [.inl (some 57), .inr (.inl x), .inr (.inl y), .inr (.inl z)] s = if (0 ≤ y ∧ (1 ≤ y / 10000 ∧ y / 10000 ≤ 30) ∧ (1 ≤ y / 100 % 100 ∧ y / 100 % 100 ≤ 40) ∧ y % 100 ≤ 12) ∧ (z = -1 ∨ 0 ≤ z ∧ z < N 0 0) then (if N 0 0 = 0 then zri 0 s else zCV LAY (zx d 197 [.inl (some 57), .inl (some 86)] s) fun s5 => P_X12_drawn_85 d y z x 0 0 s5) else zri (-2000000000) s := by
    intro s hs
    rw [e_X12_drawn]
    by_cases q0 : y < 0
    · rw [if_pos q0, if_neg (by omega)]
    · rw [if_neg q0, if_neg (by decide), zdiv_p (by omega) hy.2 (by decide), zdiv_p (by omega) hy.2 (by decide), zrem_p (x := y) (by omega), zrem_p (x := y / 100) (by omega), k_within (by omega), zCI_ri, y01]
      by_cases q1 : 1 ≤ y / 10000 ∧ y / 10000 ≤ 30
      · rw [if_pos q1, if_neg (by decide), if_neg (by decide), k_within (by omega), zCI_ri, y01]
        by_cases q2 : 1 ≤ y / 100 % 100 ∧ y / 100 % 100 ≤ 40
        · rw [if_pos q2, if_neg (by decide)]
          by_cases q3 : 12 < y % 100
          · rw [if_pos q3, if_neg (by omega)]
          · rw [if_neg q3]
            by_cases q4 : z = -1
            · rw [if_pos q4, hs]
              exact (if_pos ⟨⟨by omega, q1, q2, by omega⟩, Or.inl q4⟩).symm
            · rw [if_neg q4, k_mRoad (by omega) z (by omega), zCI_ri, y01, hs]
              by_cases q5 : 0 ≤ z ∧ z < N 0 0
              · rw [if_pos q5]
                exact (if_pos ⟨⟨by omega, q1, q2, by omega⟩, Or.inr q5⟩).symm
              · rw [if_neg q5, if_neg (by omega)]
        · rw [if_neg q2, if_neg (by omega)]
      · rw [if_neg q1, if_neg (by omega)]
  have cmp : zx (d + 1) 128 [.inl (some 0), .inr (.inl x), .inr (.inl y), .inr (.inl z)] σ = if (0 ≤ y ∧ (1 ≤ y / 10000 ∧ y / 10000 ≤ 30) ∧ (1 ≤ y / 100 % 100 ∧ y / 100 % 100 ≤ 40) ∧ y % 100 ≤ 12) ∧ (z = -1 ∨ 0 ≤ z ∧ z < N 0 0) then (zCI LAY (zx d 66 [.inl (some 24), .inr (.inl x), .inr (.inl (y / 10000)), .inr (.inl (y / 100 % 100)), .inr (.inl (y % 100)), .inr (.inl z)] σ) fun r102 s101 => zri r102 s101) else zri (-2000000000) σ := by
    rw [e_X11_drawn, if_neg (by decide), if_neg (by decide), if_neg (by decide), if_neg (by decide)]
    have e0 : ∀ a b e, P_X11_drawn_64 d x z a b e 0 σ = zri (-2000000000) σ := by
      intro a b e
      rw [e_X11_drawn_64, if_pos rfl]
    by_cases q0 : y < 0
    · rw [if_pos q0, e0, if_neg (by omega)]
    · rw [if_neg q0, zdiv_p (by omega) hy.2 (by decide), zdiv_p (by omega) hy.2 (by decide), zrem_p (x := y) (by omega), zrem_p (x := y / 100) (by omega)]
      by_cases q1 : 1 ≤ y / 10000 ∧ y / 10000 ≤ 30
      · rw [if_neg (by omega), if_neg (by omega)]
        by_cases q2 : 1 ≤ y / 100 % 100 ∧ y / 100 % 100 ≤ 40
        · rw [if_neg (by omega), if_neg (by omega)]
          by_cases q3 : 12 < y % 100
          · rw [if_pos q3, e0, if_neg (by omega)]
          · rw [if_neg q3, e_X11_drawn_64, if_neg (by decide)]
            by_cases q4 : z = -1
            · rw [if_pos q4, if_pos (by omega)]
            · rw [if_neg q4, k_isRoad (by omega), zCI_ri, y01, n1]
              by_cases q5 : 0 ≤ z ∧ z < N 0 0
              · rw [if_pos q5, if_pos (by omega)]
              · rw [if_neg q5, if_neg (by omega)]
        · by_cases q3 : y / 100 % 100 < 1
          · rw [if_pos q3, e0, if_neg (by omega)]
          · rw [if_neg q3, if_pos (by omega), e0, if_neg (by omega)]
      · by_cases q3 : y / 10000 < 1
        · rw [if_pos q3, e0, if_neg (by omega)]
        · rw [if_neg q3, if_pos (by omega), e0, if_neg (by omega)]
  rw [cmp]
  refine y_if (fun h => ?_) (fun h => y_i ?_)
  · by_cases hn : N 0 0 = 0
    · obtain ⟨d, rfl, hd'⟩ := y_d (k := 140) (d := d) (by omega)
      rw [e_X6_draw, n1, if_pos hn, zCI_ri]
      refine y_i ?_
      rw [mod σ n2, if_pos h, if_pos hn]
      exact y_i ⟨rfl, N, G, yInv_id hI⟩
    · have main : yT (zx d 66 [.inl (some 24), .inr (.inl x), .inr (.inl (y / 10000)), .inr (.inl (y / 100 % 100)), .inr (.inl (y % 100)), .inr (.inl z)] σ) (yI fun v u => v = (ysy N G (y % 100) z (y / 100 % 100).toNat (y / 10000).toNat (x, 0)).2 ∧ (∃ m, yX N G (σ 17 5 + 1) (-1) m u) ∧ yf ySC σ u) := by
        obtain ⟨d, rfl, hd'⟩ := y_d (k := 140) (d := d) (by omega)
        rw [e_X6_draw, n1, if_neg hn]
        refine y_cV (c_begin (by omega) (-1) hI.1 (yI_t hI c1)) (fun s hs => ?_)
        exact y_mI (c_year_l (by omega) (σ0 := s) (by omega) (by omega) (by omega) h.2 (y / 10000).toNat 0 (x, 0) (N 6) s (by omega) (by omega) hs.1 yf_rf) (fun v u hu => ⟨hu.1, hu.2.1, yf_tr (yf_le hs.2 (by decide)) (yf_le hu.2.2 (by decide))⟩)
      refine y_cI main (fun v s hs => y_i ?_)
      obtain ⟨hv, ⟨m', hX⟩, f⟩ := hs
      have hY := yY_f hI.2.1 f (by decide)
      rw [mod s hY.2.2.2.1.1, if_pos h, if_neg hn]
      refine y_cV (m_keep86 (by omega) hY.2.2.2.1) (fun t ht => ?_)
      have ft : yf ([86], []) s t := ht.2
      exact y_mI (m_year_l (by omega) (σ0 := t) (by omega) ⟨h.1.1, hy.2⟩ (by omega) (by omega) h.2 ht.1 (y / 10000).toNat 0 (x, 0) t (by omega) (by omega) (yY_f hY ft (by decide)) yf_rf) (fun w u hu => ⟨by rw [hu.1, hv], N, G, yth hI hX (by omega) f hu.2.1 (yf_tr (yf_le ft (by decide)) (yf_le hu.2.2 (by decide)))⟩)
  · rw [mod σ n2, if_neg h]
    exact y_i ⟨rfl, N, G, yInv_id hI⟩
