/-! roads, travellers, bodies, bytes come -/
theorem yfit_mono {n n' q q' k a v : Int} (hn : n ≤ n') (hq : q ≤ q') (h : yfit n q k a v) : yfit n' q' k a v := by
  rcases h with h | h | h | h | h | h
  · exact Or.inl ⟨h.1, h.2.1, by omega, h.2.2.2⟩
  · exact Or.inr (Or.inl ⟨h.1, h.2.1, by omega, h.2.2.2⟩)
  · exact Or.inr (Or.inr (Or.inl ⟨h.1, h.2.1, by omega, by rcases h.2.2.2 with w | w; exact Or.inl w; exact Or.inr ⟨w.1, by omega, w.2.2⟩⟩))
  · exact Or.inr (Or.inr (Or.inr (Or.inl ⟨h.1, h.2.1, by omega, h.2.2.2⟩)))
  · exact Or.inr (Or.inr (Or.inr (Or.inr (Or.inl ⟨h.1, h.2.1, by omega, h.2.2.2⟩))))
  · exact Or.inr (Or.inr (Or.inr (Or.inr (Or.inr ⟨h.1, h.2.1, by omega, h.2.2.2⟩))))
def yNr (N : zF) (a b l : Int) : zF := fun k i => if k = 0 ∧ i = 0 then N 0 0 + 1 else if i = N 0 0 ∧ k = 1 then a else if i = N 0 0 ∧ k = 2 then b else if i = N 0 0 ∧ k = 3 then l else if i = N 0 0 ∧ k = 4 then -1 else N k i
/-- a road comes to both -/
abbrev yAr : List Nat × List (Nat × Int) := ([2, 3, 4, 6, 58, 59, 60], [(1, 0), (57, 0)])
set_option maxHeartbeats 3000000 in
theorem y_road {c : Int} {N : zF} {G : yG} {σ s t : zF} {a b l : Int} (hI : yInv c N G σ) (hn : N 0 0 < 12) (ha : 0 ≤ a ∧ a < 8) (hb : 0 ≤ b ∧ b < 8) (hab : ¬ a = b) (hl : 1 ≤ l ∧ l ≤ 99) (hs : s = zset (zset (zset (zset (zset σ 2 (N 0 0) a) 3 (N 0 0) b) 4 (N 0 0) l) 6 (N 0 0) (-1)) 1 0 (N 0 0 + 1)) (ht : t = zset (zset (zset (zset (zset (zset (zset s 58 (N 0 0) a) 59 (N 0 0) b) 60 (N 0 0) l) 60 (12 + N 0 0) 0) 60 (24 + N 0 0) (-1)) 60 (36 + N 0 0) 0) 57 0 (N 0 0 + 1)) : yInv c (yNr N a b l) G t := by
  obtain ⟨⟨b1, b2, b3, b4, b5⟩, ⟨q1, q2, q3, q4, q5⟩, hT, hTr, hLd, hTp, hHs, hIm, hSt, hSh⟩ := hI
  have n0 := b1.1
  have n1 := b1.2.1
  have f : yf yAr σ t := by
    rw [ht, hs]
    exact yf_set (yf_set (yf_set (yf_set (yf_set (yf_set (yf_set (yf_set (yf_set (yf_set (yf_set (yf_set yf_rf rfl) rfl) rfl) rfl) rfl) rfl) rfl) rfl) rfl) rfl) rfl) rfl
  have e00 : yNr N a b l 0 0 = N 0 0 + 1 := if_pos ⟨rfl, rfl⟩
  have e1 : ∀ i, yNr N a b l 1 i = if i = N 0 0 then a else N 1 i := fun i => by
    show (if 1 = 0 ∧ i = 0 then _ else if i = N 0 0 ∧ 1 = 1 then a else _) = _
    rw [if_neg (by omega)]
    by_cases e : i = N 0 0
    · rw [if_pos ⟨e, rfl⟩, if_pos e]
    · rw [if_neg (fun h => e h.1), if_neg (fun h => e h.1), if_neg (fun h => e h.1), if_neg (fun h => e h.1), if_neg e]
  have e2 : ∀ i, yNr N a b l 2 i = if i = N 0 0 then b else N 2 i := fun i => by
    show (if 2 = 0 ∧ i = 0 then _ else if i = N 0 0 ∧ 2 = 1 then a else if i = N 0 0 ∧ 2 = 2 then b else _) = _
    rw [if_neg (by omega), if_neg (by omega)]
    by_cases e : i = N 0 0
    · rw [if_pos ⟨e, rfl⟩, if_pos e]
    · rw [if_neg (fun h => e h.1), if_neg (fun h => e h.1), if_neg (fun h => e h.1), if_neg e]
  have e3 : ∀ i, yNr N a b l 3 i = if i = N 0 0 then l else N 3 i := fun i => by
    show (if 3 = 0 ∧ i = 0 then _ else if i = N 0 0 ∧ 3 = 1 then a else if i = N 0 0 ∧ 3 = 2 then b else if i = N 0 0 ∧ 3 = 3 then l else _) = _
    rw [if_neg (by omega), if_neg (by omega), if_neg (by omega)]
    by_cases e : i = N 0 0
    · rw [if_pos ⟨e, rfl⟩, if_pos e]
    · rw [if_neg (fun h => e h.1), if_neg (fun h => e h.1), if_neg e]
  have e4 : ∀ i, yNr N a b l 4 i = if i = N 0 0 then -1 else N 4 i := fun i => by
    show (if 4 = 0 ∧ i = 0 then _ else if i = N 0 0 ∧ 4 = 1 then a else if i = N 0 0 ∧ 4 = 2 then b else if i = N 0 0 ∧ 4 = 3 then l else if i = N 0 0 ∧ 4 = 4 then -1 else _) = _
    rw [if_neg (by omega), if_neg (by omega), if_neg (by omega), if_neg (by omega)]
    by_cases e : i = N 0 0
    · rw [if_pos ⟨e, rfl⟩, if_pos e]
    · rw [if_neg (fun h => e h.1), if_neg e]
  have ek : ∀ k i, 4 < k → yNr N a b l k i = N k i := fun k i hk => by
    show (if k = 0 ∧ i = 0 then _ else if i = N 0 0 ∧ k = 1 then a else if i = N 0 0 ∧ k = 2 then b else if i = N 0 0 ∧ k = 3 then l else if i = N 0 0 ∧ k = 4 then -1 else _) = _
    rw [if_neg (by omega), if_neg (by omega), if_neg (by omega), if_neg (by omega), if_neg (by omega)]
  have hB' : yBn (yNr N a b l) := by
    unfold yBn
    rw [e00]
    refine ⟨by omega, by omega, fun r r0 r1 => ?_, fun r r0 r1 => ?_, fun r r0 r1 => ?_⟩
    · rw [e1, e2, e3, e4, ek 5 r (by decide)]
      by_cases e : r = N 0 0
      · rw [if_pos e, if_pos e, if_pos e, if_pos e]
        have := (b1.2.2.2.2 r (by omega) (by omega)).2
        exact ⟨ha.1, ha.2, hb.1, hb.2, hab, hl.1, hl.2, Or.inl rfl, Or.inl this⟩
      · rw [if_neg e, if_neg e, if_neg e, if_neg e]
        have z := b1.2.2.1 r r0 (by omega)
        refine ⟨z.1, z.2.1, z.2.2.1, z.2.2.2.1, z.2.2.2.2.1, z.2.2.2.2.2.1, z.2.2.2.2.2.2.1, ?_, z.2.2.2.2.2.2.2.2⟩
        rcases z.2.2.2.2.2.2.2.1 with w | w
        · exact Or.inl w
        · exact Or.inr ⟨w.1, by omega, w.2.2⟩
    · rw [ek 6 r (by decide)]; exact b1.2.2.2.1 r r0 r1
    · rw [ek 6 r (by decide), ek 5 r (by decide)]; exact b1.2.2.2.2 r (by omega) r1
  have c1 : t 1 0 = N 0 0 + 1 := by rw [ht, hs]; rfl
  have c57 : t 57 0 = N 0 0 + 1 := by rw [ht]; rfl
  have s2 : ∀ i, t 2 i = if i = N 0 0 then a else σ 2 i := fun i => by
    rw [ht, hs]
    show (if 2 = 2 ∧ i = N 0 0 then a else σ 2 i) = _
    exact y_cc ⟨fun h => h.2, fun h => ⟨rfl, h⟩⟩
  have s3 : ∀ i, t 3 i = if i = N 0 0 then b else σ 3 i := fun i => by
    rw [ht, hs]
    show (if 3 = 3 ∧ i = N 0 0 then b else σ 3 i) = _
    exact y_cc ⟨fun h => h.2, fun h => ⟨rfl, h⟩⟩
  have s4 : ∀ i, t 4 i = if i = N 0 0 then l else σ 4 i := fun i => by
    rw [ht, hs]
    show (if 4 = 4 ∧ i = N 0 0 then l else σ 4 i) = _
    exact y_cc ⟨fun h => h.2, fun h => ⟨rfl, h⟩⟩
  have s6 : ∀ i, t 6 i = if i = N 0 0 then -1 else σ 6 i := fun i => by
    rw [ht, hs]
    show (if 6 = 6 ∧ i = N 0 0 then -1 else σ 6 i) = _
    exact y_cc ⟨fun h => h.2, fun h => ⟨rfl, h⟩⟩
  have s58 : ∀ i, t 58 i = if i = N 0 0 then a else σ 58 i := fun i => by
    rw [ht, hs]
    show (if 58 = 58 ∧ i = N 0 0 then a else σ 58 i) = _
    exact y_cc ⟨fun h => h.2, fun h => ⟨rfl, h⟩⟩
  have s59 : ∀ i, t 59 i = if i = N 0 0 then b else σ 59 i := fun i => by
    rw [ht, hs]
    show (if 59 = 59 ∧ i = N 0 0 then b else σ 59 i) = _
    exact y_cc ⟨fun h => h.2, fun h => ⟨rfl, h⟩⟩
  have s60 : ∀ i, t 60 i = if i = 36 + N 0 0 then 0 else if i = 24 + N 0 0 then -1 else if i = 12 + N 0 0 then 0 else if i = N 0 0 then l else σ 60 i := fun i => by
    rw [ht, hs]
    show (if 60 = 60 ∧ i = 36 + N 0 0 then 0 else if 60 = 60 ∧ i = 24 + N 0 0 then -1 else if 60 = 60 ∧ i = 12 + N 0 0 then 0 else if 60 = 60 ∧ i = N 0 0 then l else σ 60 i) = _
    simp only [true_and]
  refine ⟨⟨hB', ⟨c1.trans e00.symm, ?_, fun r r0 r1 => ?_⟩, yLC_g (yf_g f (by decide)) b3, by rw [f 17 5 rfl]; exact b4, fun i i0 i1 => by rw [f 17 5 rfl, f 20 i rfl]; exact b5 i i0 i1⟩, ⟨hB', ?_, ?_, ⟨c57.trans e00.symm, ?_, fun r r0 r1 => ?_⟩, yLM_g (yf_g f (by decide)) q5⟩, by rw [f 17 5 rfl]; exact hT, yTr_g (yf_g f (by decide)) hTr, yLd_g (yf_g f (by decide)) hLd, yTp_g (yf_g f (by decide)) hTp, ?_, ?_, ySt_g (yf_g f (by decide)) hSt, ySh_g (yf_g f (by decide)) hSh⟩
  · rw [ek 9 4 (by decide), f 10 4 rfl]; exact b2.2.1
  · have z := b2.2.2 r r0 r1
    rw [e1, e2, e3, e4, ek 5 r (by decide), ek 6 r (by decide), s2, s3, s4, s6, f 7 r rfl, f 5 r rfl]
    by_cases e : r = N 0 0
    · simp only [if_pos e]
      exact ⟨trivial, trivial, trivial, trivial, z.2.2.2.2.1, z.2.2.2.2.2⟩
    · simp only [if_neg e]
      exact z
  · intro r r0 r1
    rw [ek 6 r (by decide)]
    exact q2 r r0 r1
  · intro r r0 r1
    rw [e00] at r1
    rw [ek 5 r (by decide)]
    by_cases e : r = N 0 0
    · exact Or.inl (b1.2.2.2.2 r (by omega) (by omega)).2
    · exact q3 r r0 (by omega)
  · rw [ek 9 4 (by decide), f 74 4 rfl]; exact q4.2.1
  · have z := q4.2.2 r r0 r1
    rw [e1, e2, e3, e4, ek 5 r (by decide), ek 6 r (by decide), s58, s59, s60, s60, s60, s60]
    by_cases e : r = N 0 0
    · have w := b1.2.2.2.2 r (by omega) r1
      simp only [if_pos e, if_neg (show ¬ r = 36 + N 0 0 by omega), if_neg (show ¬ r = 24 + N 0 0 by omega), if_neg (show ¬ r = 12 + N 0 0 by omega), if_neg (show ¬ 24 + r = 36 + N 0 0 by omega), if_pos (show 24 + r = 24 + N 0 0 by omega), if_pos (show 36 + r = 36 + N 0 0 by omega), if_neg (show ¬ 12 + r = 36 + N 0 0 by omega), if_neg (show ¬ 12 + r = 24 + N 0 0 by omega), if_pos (show 12 + r = 12 + N 0 0 by omega)]
      exact ⟨trivial, trivial, trivial, trivial, w.2.symm, w.1.symm⟩
    · simp only [if_neg e, if_neg (show ¬ r = 36 + N 0 0 by omega), if_neg (show ¬ r = 24 + N 0 0 by omega), if_neg (show ¬ r = 12 + N 0 0 by omega), if_neg (show ¬ 24 + r = 36 + N 0 0 by omega), if_neg (show ¬ 24 + r = 24 + N 0 0 by omega), if_neg (show ¬ 24 + r = 12 + N 0 0 by omega), if_neg (show ¬ 24 + r = N 0 0 by omega), if_neg (show ¬ 36 + r = 36 + N 0 0 by omega), if_neg (show ¬ 36 + r = 24 + N 0 0 by omega), if_neg (show ¬ 36 + r = 12 + N 0 0 by omega), if_neg (show ¬ 36 + r = N 0 0 by omega), if_neg (show ¬ 12 + r = 36 + N 0 0 by omega), if_neg (show ¬ 12 + r = 24 + N 0 0 by omega), if_neg (show ¬ 12 + r = 12 + N 0 0 by omega)]
      by_cases e5 : 12 + r = N 0 0
      · omega
      · rw [if_neg e5]
        exact z
  · have n1' : σ 1 0 = N 0 0 := b2.1
    unfold yHs at hHs ⊢
    rw [f 32 5 rfl, f 32 6 rfl, f 57 32 rfl, f 57 33 rfl, f 1 1 rfl, c1]
    rw [n1'] at hHs
    refine ⟨hHs.1, hHs.2.1, hHs.2.2.1, hHs.2.2.2.1, hHs.2.2.2.2.1, fun i i0 i1 => ?_⟩
    rw [f 33 i rfl, f 34 i rfl, f 35 i rfl, f 36 i rfl, f 78 (4 * i) rfl, f 78 (4 * i + 1) rfl, f 78 (4 * i + 2) rfl, f 78 (4 * i + 3) rfl]
    have z := hHs.2.2.2.2.2 i i0 i1
    have le : N 0 0 ≤ N 0 0 + 1 := by omega
    exact ⟨z.1, z.2.1, z.2.2.1, z.2.2.2.1, yfit_mono le (Int.le_refl _) z.2.2.2.2.1, yfit_mono le (Int.le_refl _) z.2.2.2.2.2⟩
  · have n1' : σ 1 0 = N 0 0 := b2.1
    unfold yIm at hIm ⊢
    rw [f 37 1 rfl, f 37 2 rfl, f 37 3 rfl, f 57 26 rfl, f 57 27 rfl, f 57 28 rfl, f 1 1 rfl, c1]
    rw [n1'] at hIm
    obtain ⟨i1, i2, i3, i4, i5, i6, i7, i8, i9, i10⟩ := hIm
    refine ⟨i1, i2, i3, i4, by omega, i6, i7, fun i a b => ?_, fun i a b => ?_, fun i a b => ?_⟩
    · rw [f 38 i rfl, f 75 i rfl]; exact i8 i a b
    · rw [f 39 i rfl, f 76 i rfl]; exact i9 i a b
    · rw [f 40 i rfl, f 77 i rfl]; exact i10 i a b
/-- calls of both, ahead of which both had come to one state -/
theorem c_addRoad {d : Nat} (hd : 1 ≤ d) {σ : zF} {n a b l : Int} (h1 : σ 1 0 = n) (hn : 0 ≤ n ∧ n < 12) : zx d 18 [.inl (some 1), .inr (.inl a), .inr (.inl b), .inr (.inl l)] σ = zri n (zset (zset (zset (zset (zset σ 2 n a) 3 n b) 4 n l) 6 n (-1)) 1 0 (n + 1)) := by
  obtain ⟨d, rfl, -⟩ := y_d hd
  have r : 0 ≤ n ∧ n < 12 := hn
  rw [e_X3_addRoad, h1, if_pos hn.2, if_pos r, if_pos r, if_pos r, if_pos r, zw_i (x := n + 1) (by omega) (by omega), zw_i (x := n + 1 - 1) (by omega) (by omega), show n + 1 - 1 = n by omega]
theorem m_newRoad {d : Nat} (hd : 1 ≤ d) {σ : zF} {n a b l : Int} (h1 : σ 57 0 = n) (hn : 0 ≤ n ∧ n < 12) : zx d 159 [.inl (some 57), .inr (.inl a), .inr (.inl b), .inr (.inl l)] σ = zri n (zset (zset (zset (zset (zset (zset (zset σ 58 n a) 59 n b) 60 n l) 60 (12 + n) 0) 60 (24 + n) (-1)) 60 (36 + n) 0) 57 0 (n + 1)) := by
  obtain ⟨d, rfl, -⟩ := y_d hd
  rw [e_X12_newRoad, h1, zw_i (x := 12 + n) (by omega) (by omega), zw_i (x := 24 + n) (by omega) (by omega), zw_i (x := 36 + n) (by omega) (by omega), zw_i (x := n + 1) (by omega) (by omega), if_pos hn, if_pos hn, if_pos (by omega), if_pos (by omega), if_pos (by omega), if_pos (by omega)]
theorem o_road {x y : Int} (hx : zin x) : yStep 104 160 [.inr (.inl x), .inr (.inl y)] := by
  intro d hd c N G σ hI c0 c1
  obtain ⟨d, rfl, hd'⟩ := y_d hd; have hd := hd'
  obtain ⟨n1, n2, n3, n4⟩ := yI_n hI
  by_cases hp : yPair x
  · have hp' := hp
    unfold yPair at hp'
    have hx' := hx
    unfold zin at hx'
    rw [e_X11_road, k_isPair1 (by omega) hx hp, zCI_ri, if_neg (by decide), k_isLen (by omega), zCI_ri, y01]
    have mod : ∀ s : zF, s 57 0 = N 0 0 → zx (d + 1) 160 [.inl (some 57), .inr (.inl x), .inr (.inl y)] s = if 1 ≤ y ∧ y ≤ 99 then (if N 0 0 = 12 then zri (-3) s else (zCI LAY (zx d 159 [.inl (some 57), .inr (.inl (x / 10)), .inr (.inl (x % 10)), .inr (.inl y)] s) fun r6 s5 => zri r6 s5)) else zri (-1) s := by
      intro s hs
      rw [e_X12_road, k_mTwo1 (by omega) hx hp, zCI_ri, if_neg (by decide), k_within (by omega), zCI_ri, y01, hs, if_neg (show ¬ (10 : Int) = 0 by decide), if_neg (show ¬ (10 : Int) = 0 by decide), zdiv_p hp'.1 hx'.2 (by decide), zrem_p hp'.1]
    refine y_if (fun h => ?_) (fun h => y_i ?_)
    · rw [if_neg (by decide), if_neg (by decide), zdiv_p hp'.1 hx'.2 (by decide), zrem_p hp'.1]
      by_cases q : N 0 0 < 12
      · rw [c_addRoad (by omega) n1 ⟨n3, q⟩, zCI_ri]
        refine y_i ?_
        have n2' : (zset (zset (zset (zset (zset σ 2 (N 0 0) (x / 10)) 3 (N 0 0) (x % 10)) 4 (N 0 0) y) 6 (N 0 0) (-1)) 1 0 (N 0 0 + 1)) 57 0 = N 0 0 := n2
        rw [mod _ n2', if_pos h, if_neg (by omega), m_newRoad (by omega) (σ := zset (zset (zset (zset (zset σ 2 (N 0 0) (x / 10)) 3 (N 0 0) (x % 10)) 4 (N 0 0) y) 6 (N 0 0) (-1)) 1 0 (N 0 0 + 1)) n2 ⟨n3, q⟩, zCI_ri]
        exact y_i ⟨rfl, _, G, y_road (yInv_id hI) q (by omega) (by omega) hp'.2.2.2 h rfl rfl⟩
      · have e18 : zx d 18 [.inl (some 1), .inr (.inl (x / 10)), .inr (.inl (x % 10)), .inr (.inl y)] σ = zri (-3) σ := by
          obtain ⟨e, rfl, -⟩ := y_d (k := 0) (d := d) (by omega)
          rw [e_X3_addRoad, n1, if_neg q]
        rw [e18, zCI_ri]
        refine y_i ?_
        rw [mod σ n2, if_pos h, if_pos (by omega)]
        exact y_i ⟨rfl, N, G, yInv_id hI⟩
    · rw [mod σ n2, if_neg h]
      exact y_i ⟨rfl, N, G, yInv_id hI⟩
  · rw [e_X11_road, k_isPair0 (by omega) hx hp, zCI_ri, if_pos rfl]
    refine y_i ?_
    rw [e_X12_road, k_mTwo0 (by omega) hx hp, zCI_ri, if_pos rfl]
    exact y_i ⟨rfl, N, G, yInv_id hI⟩
