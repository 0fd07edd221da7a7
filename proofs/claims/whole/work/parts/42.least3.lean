/-! the fewest thanks, 3: the model -/
abbrev yAe : List Nat × List (Nat × Int) := ([60, 72, 73, 84, 85, 92], [])
theorem m_words_l {d : Nat} (hd : 2 ≤ d) {N σ0 : zF} {G : yG} {x t n r : Int} {i : Int} {mf : Int → Int} {Q : zR → Prop} (hB : yBn N) (hi : i ≤ 2) (hQ : ∀ σ : zF, yY N G (N 5) mf σ → yf ([60], []) σ0 σ → yT (zCI LAY (zx d 211 [.inl (some 57), .inr (.inl x), .inr (.inl t), .inr (.inl (zw (i + 1))), .inr (.inl n), .inr (.inl r)] σ) fun r102 s101 => if r102 = 0 then P_X12_isEnough_36 d x t i n (zw (r + 1)) s101 else zri 1 s101) Q) : ∀ (rs : List Int) (k : Int) (m : Int → Int) (σ : zF), 0 ≤ k → k + rs.length = i + 1 → yGd N rs → (∀ c : Nat, c < rs.length → σ 92 (k + c) = rs.getD c 0) → ymo N rs m = mf → yY N G (N 5) m σ → yf ([60], []) σ0 σ → yT (P_X12_isEnough_64 d x t i n r k σ) Q := by
  intro rs
  induction rs with
  | nil =>
    intro k m σ k0 hk hg h92 hmf hY g
    simp at hk
    rw [e_X12_isEnough_64]
    have hmf' : m = mf := hmf
    rw [hmf'] at hY
    exact y_g (by omega) (hQ σ hY g)
  | cons a rs ih =>
    intro k m σ k0 hk hg h92 hmf hY g
    have ha := hg a List.mem_cons_self
    have e0 := h92 0 (by simp)
    simp only [List.length_cons, Int.natCast_succ] at hk
    have e0' : σ 92 k = a := by
      have : k + ((0 : Nat) : Int) = k := by omega
      rw [this] at e0
      exact e0
    have b1 := hB.2.1
    rw [e_X12_isEnough_64, e0', zw_i (x := k + 1) (by omega) (by omega)]
    refine y_n (by omega) (y_g (by omega) (y_cV (m_word hd 1 hB hY.2.1 hY.2.2.2.1 ha.1 ha.2) (fun s1 hs1 => ?_)))
    refine ih (k + 1) _ s1 (by omega) (by omega) (fun q hq => hg q (List.mem_cons_of_mem _ hq)) (fun c hc => ?_) hmf ⟨hB, yw_b ha.1 (by omega) hY.2.1, hY.2.2.1, hs1.1, yLM_f hY.2.2.2.2 hs1.2 (by decide)⟩ (yf_tr g hs1.2)
    rw [hs1.2 92 _ rfl]
    have := h92 (c + 1) (by simp; omega)
    rw [show k + 1 + (c : Int) = k + ((c + 1 : Nat) : Int) by omega, this]
    rfl
theorem m_en {N : zF} {G : yG} {x t n : Int} (hx : zin x) (hP : yPair x) (hB : yBn N) (ht : t ≤ 999) (hn : n ≤ 3) : ∀ (k : Nat) (d : Nat) (pre : List Int) (a : Int) (m : Int → Int) (σ : zF), 9 + k ≤ d → (pre.length : Int) + k = n → 0 ≤ a → yGd N pre → yPk (σ 92) pre → (k = 0 → m = ymo N pre (N 6)) → (∀ c, 0 ≤ c → c < 12 → σ 86 c = N 6 c) → yY N G (N 5) m σ → yT (zx d 211 [.inl (some 57), .inr (.inl x), .inr (.inl t), .inr (.inl (pre.length : Int)), .inr (.inl n), .inr (.inl a)] σ) (yI fun v u => v = yis (yEn (yok N G x t) (N 0 0) k pre a) ∧ (∀ qs, yEn (yok N G x t) (N 0 0) k pre a = some qs → yPk (u 92) qs ∧ (qs.length : Int) = n) ∧ (yEn (yok N G x t) (N 0 0) k pre a = none → yPk (u 92) pre) ∧ (∃ m, yY N G (N 5) m u) ∧ yf yAe σ u) := by
  have hP' := hP
  unfold yPair at hP'
  intro k
  induction k with
  | zero =>
    intro d pre a m σ hd hl a0 hg h92 hm h86 hY
    obtain ⟨d, rfl, hd'⟩ := y_d (k := 8) (d := d) (by omega)
    have hm' := hm rfl
    have eN : yEn (yok N G x t) (N 0 0) 0 pre a = if yok N G x t pre = true then some pre else none := rfl
    rw [e_X12_isEnough]
    have main : yT (zCI LAY (zx d 200 [.inl (some 57), .inr (.inl x)] σ) fun r2 s1 => if r2 = -2 then zri 0 s1 else (if t < r2 then zri 0 s1 else zri 1 s1)) (yI fun v u => v = yis (if yok N G x t pre = true then some pre else none) ∧ (∀ qs, (if yok N G x t pre = true then some pre else none) = some qs → yPk (u 92) qs ∧ (qs.length : Int) = n) ∧ ((if yok N G x t pre = true then some pre else none) = none → yPk (u 92) pre) ∧ (∃ m, yY N G (N 5) m u) ∧ yf yAe σ u) := by
      refine y_cI (m_wayOf hd' hx hP hY) (fun v u hu => ?_)
      have k92 : yPk (u 92) pre := fun c hc => by rw [hu.2.2.2 92 _ rfl]; exact h92 c hc
      have b2 := yD_b (p := N 5) (s := x % 10) hB.1 (yOK_of (G := G) hB (N 5) (N 5) m) (x / 10)
      have es : yok N G x t pre = decide (¬ t < yD (N 0 0) (N 1) (N 2) (yHR N G (N 5) m) (N 5) (x % 10) (x / 10)) := by
        unfold yok
        rw [← hm', yDs _ hB (by omega) (by omega)]
      have hYu := yY_f hY hu.2.2.2 (by decide)
      have fu := yf_le (B := yAe) hu.2.2.2 (by decide)
      rw [hu.1]
      unfold yW
      by_cases q : yD (N 0 0) (N 1) (N 2) (yHR N G (N 5) m) (N 5) (x % 10) (x / 10) < 1000000
      · rw [if_pos q]
        refine y_n (by omega) (y_if (fun z => ?_) (fun z => ?_))
        · have no : ¬ yok N G x t pre = true := by rw [es]; simp; omega
          refine y_i ⟨by rw [if_neg no]; rfl, fun qs hq => ?_, fun _ => k92, ⟨m, hYu⟩, fu⟩
          rw [if_neg no] at hq
          cases hq
        · have yes : yok N G x t pre = true := by rw [es]; simp; omega
          refine y_i ⟨by rw [if_pos yes]; rfl, fun qs hq => ?_, fun hq => ?_, ⟨m, hYu⟩, fu⟩
          · rw [if_pos yes] at hq
            cases hq
            exact ⟨k92, by omega⟩
          · rw [if_pos yes] at hq
            cases hq
      · rw [if_neg q]
        have no : ¬ yok N G x t pre = true := by rw [es]; simp; omega
        refine y_g rfl (y_i ⟨by rw [if_neg no]; rfl, fun qs hq => ?_, fun _ => k92, ⟨m, hYu⟩, fu⟩)
        rw [if_neg no] at hq
        cases hq
    exact y_g (by omega) main
  | succ k ih =>
    intro d pre a m σ hd hl a0 hg h92 hm h86 hY
    obtain ⟨d, rfl, hd'⟩ := y_d (k := 9 + k) (d := d) (by omega)
    have b1 := hB.2.1
    rw [e_X12_isEnough]
    refine y_n (by omega) ?_
    have eN : yEn (yok N G x t) (N 0 0) (k + 1) pre a = yfst (fun r => yEn (yok N G x t) (N 0 0) k (pre ++ [r]) r) (N 0 0 - a).toNat a := rfl
    rw [eN]
    have loop : ∀ (j : Nat) (a : Int) (m : Int → Int) (τ : zF), (N 0 0 - a).toNat = j → 0 ≤ a → yPk (τ 92) pre → yY N G (N 5) m τ → yf yAe σ τ → yT (P_X12_isEnough_36 d x t (pre.length : Int) n a τ) (yI fun v u => v = yis (yfst (fun r => yEn (yok N G x t) (N 0 0) k (pre ++ [r]) r) j a) ∧ (∀ qs, yfst (fun r => yEn (yok N G x t) (N 0 0) k (pre ++ [r]) r) j a = some qs → yPk (u 92) qs ∧ (qs.length : Int) = n) ∧ (yfst (fun r => yEn (yok N G x t) (N 0 0) k (pre ++ [r]) r) j a = none → yPk (u 92) pre) ∧ (∃ m, yY N G (N 5) m u) ∧ yf yAe σ u) := by
      intro j
      induction j with
      | zero =>
        intro a m τ hj a0 k92 hYt f
        rw [e_X12_isEnough_36, hYt.2.2.2.1.1]
        exact y_n (by omega) (y_i ⟨rfl, fun qs hq => (by cases hq), fun _ => k92, ⟨m, hYt⟩, f⟩)
      | succ j ihj =>
        intro a m τ hj a0 k92 hYt f
        rw [e_X12_isEnough_36, hYt.2.2.2.1.1]
        have f1 : yf ([92], []) τ (zset τ 92 (pre.length : Int) a) := yf_set yf_rf rfl
        refine y_g (by omega) (y_g (by omega) (y_cV (m_again86 (by omega) (m := N 6) (yM_f hYt.2.2.2.1 f1 (by decide)) (fun c c0 c1 => (f1 86 c rfl).trans ((f 86 c rfl).trans (h86 c c0 c1)))) (fun s1 hs1 => ?_)))
        have pk1 : yPk (s1 92) (pre ++ [a]) := by
          intro c hc
          rw [hs1.2 92 _ rfl]
          simp at hc
          by_cases e : c = pre.length
          · subst e
            rw [zset_hit rfl]
            simp
          · rw [zset_off (by omega), k92 c (by omega)]
            simp only [List.getD_eq_getElem?_getD]
            rw [List.getElem?_append_left (by omega)]
        have gd1 : yGd N (pre ++ [a]) := by
          intro r hr
          rcases List.mem_append.mp hr with h | h
          · exact hg r h
          · simp at h
            omega
        have fs1 : yf yAe τ s1 := yf_tr (yf_le f1 (by decide)) (yf_le hs1.2 (by decide))
        have hY1 : yY N G (N 5) (N 6) s1 := ⟨hB, hB.2.2.2.1, hYt.2.2.1, hs1.1, yLM_f hYt.2.2.2.2 fs1 (by decide)⟩
        refine m_words_l (σ0 := s1) (mf := ymo N (pre ++ [a]) (N 6)) (by omega) hB (by omega) (fun s2 hY2 f2 => ?_) (pre ++ [a]) 0 (N 6) s1 (by omega) (by simp) gd1 (fun c hc => by rw [show (0 : Int) + (c : Int) = (c : Int) by omega]; exact pk1 c hc) rfl hY1 yf_rf
        have pk2 : yPk (s2 92) (pre ++ [a]) := fun c hc => by rw [f2 92 _ rfl]; exact pk1 c hc
        have fs2 : yf yAe σ s2 := yf_tr f (yf_tr fs1 (yf_le f2 (by decide)))
        rw [zw_i (x := (pre.length : Int) + 1) (by omega) (by omega)]
        have el : ((pre ++ [a]).length : Int) = (pre.length : Int) + 1 := by simp
        rw [← el]
        refine y_cI (ih d (pre ++ [a]) a _ s2 (by omega) (by omega) (by omega) gd1 pk2 (fun _ => rfl) (fun c c0 c1 => (fs2 86 c rfl).trans (h86 c c0 c1)) hY2) (fun v u hu => ?_)
        obtain ⟨u1, u2, u3, ⟨m', u4⟩, u5⟩ := hu
        rw [zw_i (x := a + 1) (by omega) (by omega), u1]
        rcases e : yEn (yok N G x t) (N 0 0) k (pre ++ [a]) a with _ | qs
        · rw [yfst_n (f := fun r => yEn (yok N G x t) (N 0 0) k (pre ++ [r]) r) e]
          have pku : yPk (u 92) pre := by
            intro c hc
            have := u3 e c (by simp; omega)
            rw [this]
            simp only [List.getD_eq_getElem?_getD]
            rw [List.getElem?_append_left (by omega)]
          exact y_g rfl (ihj (a + 1) m' u (by omega) (by omega) pku u4 (yf_tr fs2 u5))
        · rw [yfst_s (f := fun r => yEn (yok N G x t) (N 0 0) k (pre ++ [r]) r) e]
          refine y_n (by show ¬ (1 : Int) = 0; decide) (y_i ⟨rfl, fun qs' hq => ?_, fun hq => (by cases hq), ⟨m', u4⟩, yf_tr fs2 u5⟩)
          cases hq
          exact u2 qs e
    exact loop (N 0 0 - a).toNat a m σ rfl a0 h92 hY yf_rf
/-- the answer -/
def yla (y : Int) : Option (Nat × List Int) → Int
  | none => -2
  | some q => if y < (q.1 : Int) then (if y < 0 then (q.1 : Int) else q.2.getD y.toNat 0) else -2
theorem m_least_l {d : Nat} (hd : 13 ≤ d) {N σ0 : zF} {G : yG} {x t y : Int} (hx : zin x) (hP : yPair x) (hB : yBn N) (ht : t ≤ 999) (hy : -1 ≤ y) (h860 : ∀ c, 0 ≤ c → c < 12 → σ0 86 c = N 6 c) : ∀ (j k : Nat) (σ : zF), k + j = 4 → yY N G (N 5) (N 6) σ → yf yAe σ0 σ → yT (P_X12_least_40 d x t y (-2) (k : Int) σ) (yI fun v u => v = yla y (yFT (yok N G x t) (N 0 0) j k) ∧ yM N (N 5) (N 6) u ∧ yf yAe σ0 u) := by
  intro j
  induction j with
  | zero =>
    intro k σ hk hY g
    rw [e_X12_least_40]
    exact y_n (by omega) (y_g rfl (y_i ⟨rfl, hY.2.2.2.1, g⟩))
  | succ j ih =>
    intro k σ hk hY g
    rw [e_X12_least_40]
    have en := m_en (n := (k : Int)) hx hP hB ht (by omega) k d [] 0 (N 6) σ (by omega) (by simp) (by omega) (fun r hr => by cases hr) (fun c hc => by simp at hc) (fun _ => rfl) (fun c c0 c1 => (g 86 c rfl).trans (h860 c c0 c1)) hY
    refine y_g (by omega) (y_g rfl (y_cI en (fun v u hu => ?_)))
    obtain ⟨u1, u2, u3, ⟨m', u4⟩, u5⟩ := hu
    have a86 := m_again86 (d := d) (by omega) (m := N 6) u4.2.2.2.1 (fun c c0 c1 => (u5 86 c rfl).trans ((g 86 c rfl).trans (h860 c c0 c1)))
    rw [zw_i (x := (k : Int) + 1) (by omega) (by omega), u1]
    rcases e : yEn (yok N G x t) (N 0 0) k [] 0 with _ | ps
    · have ef : yFT (yok N G x t) (N 0 0) (j + 1) k = yFT (yok N G x t) (N 0 0) j (k + 1) := by
        show (match yEn (yok N G x t) (N 0 0) k [] 0 with | some ps => some (k, ps) | none => yFT (yok N G x t) (N 0 0) j (k + 1)) = _
        rw [e]
      rw [ef]
      refine y_g rfl (y_cV a86 (fun s hs => ?_))
      have := ih (k + 1) s (by omega) ⟨hB, hB.2.2.2.1, u4.2.2.1, hs.1, yLM_f u4.2.2.2.2 hs.2 (by decide)⟩ (yf_tr g (yf_tr u5 (yf_le hs.2 (by decide))))
      rw [Int.natCast_succ] at this
      exact this
    · have ef : yFT (yok N G x t) (N 0 0) (j + 1) k = some (k, ps) := by
        show (match yEn (yok N G x t) (N 0 0) k [] 0 with | some ps => some (k, ps) | none => yFT (yok N G x t) (N 0 0) j (k + 1)) = _
        rw [e]
      rw [ef]
      refine y_n (by show ¬ (1 : Int) = 0; decide) (y_cV a86 (fun s hs => ?_))
      have fs : yf yAe σ0 s := yf_tr g (yf_tr u5 (yf_le hs.2 (by decide)))
      have pk := u2 ps e
      have last : yT (if (k : Int) = -2 then zri (k : Int) s else (if y = -1 then zri (k : Int) s else (if y < (k : Int) then (if 0 ≤ y ∧ y < 3 then zri (s 92 y) s else none) else zri (-2) s))) (yI fun v u => v = yla y (some (k, ps)) ∧ yM N (N 5) (N 6) u ∧ yf yAe σ0 u) := by
        refine y_n (by omega) (y_if (fun q => y_i ⟨?_, hs.1, fs⟩) (fun q => y_if (fun q2 => y_g (by omega) (y_i ⟨?_, hs.1, fs⟩)) (fun q2 => y_i ⟨?_, hs.1, fs⟩)))
        · show (k : Int) = if y < (k : Int) then (if y < 0 then (k : Int) else _) else -2
          rw [if_pos (by omega), if_pos (by omega)]
        · show s 92 y = if y < (k : Int) then (if y < 0 then (k : Int) else ps.getD y.toNat 0) else -2
          rw [if_pos q2, if_neg (by omega), hs.2 92 y rfl]
          have := pk.1 y.toNat (by omega)
          rw [show ((y.toNat : Nat) : Int) = y by omega] at this
          exact this
        · show -2 = if y < (k : Int) then (if y < 0 then (k : Int) else ps.getD y.toNat 0) else -2
          rw [if_neg q2]
      rw [e_X12_least_40]
      refine y_if (fun q => y_n (by omega) last) (fun q => last)
theorem o_least {x y z : Int} (hx : zin x) : yStep 120 212 [.inr (.inl x), .inr (.inl y), .inr (.inl z)] := by
  intro d hd c N G σ hI c0 c1
  obtain ⟨d, rfl, hd'⟩ := y_d hd; have hd := hd'
  obtain ⟨n1, n2, n3, n4⟩ := yI_n hI
  have hB := hI.1.1
  have bad : (¬ yPair x ∨ ¬ (0 ≤ y ∧ y ≤ 999) ∨ z < -1) → yT (zri (-1) σ) (yI fun v s => yT (zx (d + 1) 212 [.inl (some 57), .inr (.inl x), .inr (.inl y), .inr (.inl z)] s) (yI fun w t => w = v ∧ ∃ N' G', yInv (c + 1) N' G' t)) := by
    intro h
    refine y_i ?_
    rw [e_X12_least]
    by_cases hp : yPair x
    · rw [k_mTwo1 (by omega) hx hp, zCI_ri, if_neg (by decide), k_within (by omega), zCI_ri, y01]
      by_cases hy : 0 ≤ y ∧ y ≤ 999
      · rw [if_pos hy, if_pos (by rcases h with h | h | h; exact absurd hp h; exact absurd hy h; exact h)]
        exact y_i ⟨rfl, N, G, yInv_id hI⟩
      · rw [if_neg hy]
        exact y_i ⟨rfl, N, G, yInv_id hI⟩
    · rw [k_mTwo0 (by omega) hx hp, zCI_ri, if_pos rfl]
      exact y_i ⟨rfl, N, G, yInv_id hI⟩
  by_cases hp : yPair x
  · have hp' := hp
    unfold yPair at hp'
    have hx' := hx
    unfold zin at hx'
    rw [e_X11_least, k_isPair1 (by omega) hx hp, zCI_ri, if_neg (by decide), k_isTime (by omega), zCI_ri, y01]
    by_cases hy : 0 ≤ y ∧ y ≤ 999
    · rw [if_pos hy]
      refine y_if (fun q => bad (Or.inr (Or.inr q))) (fun hz => ?_)
      rw [if_neg (by decide), if_neg (by decide), zdiv_p hp'.1 hx'.2 (by decide), zrem_p hp'.1]
      have main : yT (zx d 53 [.inl (some 24), .inr (.inl (x / 10)), .inr (.inl (x % 10)), .inr (.inl y)] σ) (yI fun v u => v = yfv (yFT (yok N G x y) (N 0 0) 4 0) ∧ (∀ q, yFT (yok N G x y) (N 0 0) 4 0 = some q → yPk (u 25) q.2 ∧ q.2.length = q.1 ∧ q.1 ≤ 3) ∧ yP N G u ∧ u 17 5 ≤ σ 17 5 + 2 ∧ yf ySC σ u) := by
        obtain ⟨d, rfl, hd'⟩ := y_d (k := 140) (d := d) (by omega)
        have okA := fun m => yOK_of (G := G) hB (N 5) (N 5) m
        rw [e_X6_fewestThanks, c_joins (by omega) (by omega) (by omega) hB hI.1.2.1 (yOK_of (G := G) hB (ypw N (-1)) (ypw N (-1)) (N 6)) (ypw0 _), zCI_ri, y01, yD_w _ n3]
        refine y_if (fun q => ?_) (fun q => ?_)
        · have hn : 0 < N 0 0 := by
            obtain ⟨r, q', g1, g2, -⟩ := yD_pred (s := x / 10) (c := x % 10) (by omega) n3 (okA (N 6)) (by omega) q
            omega
          refine y_cV (c_begin (by omega) (-1) hI.1 (yI_t hI c1)) (fun s hs => ?_)
          refine y_mI (c_few_l (by omega) (σ0 := s) hp hB hn 4 0 (N 6) s rfl hs.1 yf_rf) (fun v u hu => ?_)
          obtain ⟨a1, a2, ⟨m', hX⟩, a4⟩ := hu
          exact ⟨a1, a2, (yX_P hX).1, by rw [(yX_P hX).2]; omega, yf_tr (yf_le hs.2 (by decide)) (yf_le a4 (by decide))⟩
        · have none4 : yFT (yok N G x y) (N 0 0) 4 0 = none := by
            have nok : ∀ ps, yok N G x y ps = false := by
              intro ps
              have h : ¬ yD (N 0 0) (N 1) (N 2) (yHR N G (N 5) (ymo N ps (N 6))) (N 5) (x / 10) (x % 10) < 1000000 := fun h => q ((yfinI (w := -1) (by omega) (by omega) hB hI.1.2.1 (okA _) (okA (N 6)) (fun r r0 r1 => ⟨fun h => ⟨h, by omega⟩, fun h => h.1⟩)).mp h)
              unfold yok
              simp
              omega
            have e := fun k => yEn_none nok k [] 0 (R := N 0 0)
            have step : ∀ j k, yFT (yok N G x y) (N 0 0) j k = none := by
              intro j
              induction j with
              | zero => intro k; rfl
              | succ j ih =>
                intro k
                show (match yEn (yok N G x y) (N 0 0) k [] 0 with | some ps => some (k, ps) | none => yFT (yok N G x y) (N 0 0) j (k + 1)) = _
                rw [e]
                exact ih (k + 1)
            exact step 4 0
          rw [none4]
          exact y_i ⟨rfl, fun q hq => (by cases hq), hI.1, by omega, yf_rf⟩
      refine y_cI main (fun v s hs => ?_)
      obtain ⟨hv, hpk, hPs, hT, f⟩ := hs
      have hY := yY_f hI.2.1 f (by decide)
      have fin : ∀ v, v = yla z (yFT (yok N G x y) (N 0 0) 4 0) → yT (zri v s) (yI fun v s => yT (zx (d + 1) 212 [.inl (some 57), .inr (.inl x), .inr (.inl y), .inr (.inl z)] s) (yI fun w t => w = v ∧ ∃ N' G', yInv (c + 1) N' G' t)) := by
        intro v hv
        refine y_i ?_
        rw [e_X12_least, k_mTwo1 (by omega) hx hp, zCI_ri, if_neg (by decide), k_within (by omega), zCI_ri, y01, if_pos hy, if_neg hz]
        refine y_cV (m_keep86 (by omega) hY.2.2.2.1) (fun t ht => ?_)
        have ft : yf ([86], []) s t := ht.2
        refine y_mI (m_least_l (by omega) (σ0 := t) hx hp hB hy.2 (by omega) ht.1 4 0 t rfl (yY_f hY ft (by decide)) yf_rf) (fun w u hu => ⟨by rw [hu.1, hv], N, G, yInv_th hI hPs hT f hu.2.1 (yf_tr (yf_le ft (by decide)) (yf_le hu.2.2 (by decide)))⟩)
      rw [hv]
      rcases e : yFT (yok N G x y) (N 0 0) 4 0 with _ | ⟨n, ps⟩
      · exact y_g rfl (fin (-2) (by rw [e]; rfl))
      · obtain ⟨p1, p2, p3⟩ := hpk _ e
        have p2' : ps.length = n := p2
        have p3' : n ≤ 3 := p3
        refine y_n (by show ¬ (n : Int) = -2; omega) (y_if (fun q => ?_) (fun q => fin (-2) ?_))
        · have q' : z < (n : Int) := q
          refine y_if (fun q2 => fin _ ?_) (fun q2 => y_g (by omega) (fin _ ?_))
          · rw [e]
            show (n : Int) = if z < (n : Int) then (if z < 0 then (n : Int) else _) else -2
            rw [if_pos q', if_pos q2]
          · rw [e]
            show s 25 z = if z < (n : Int) then (if z < 0 then (n : Int) else ps.getD z.toNat 0) else -2
            rw [if_pos q', if_neg q2]
            have := p1 z.toNat (show z.toNat < ps.length by omega)
            rw [show ((z.toNat : Nat) : Int) = z by omega] at this
            exact this
        · rw [e]
          show -2 = if z < (n : Int) then _ else -2
          rw [if_neg (show ¬ z < (n : Int) from q)]
    · rw [if_neg hy]
      exact bad (Or.inr (Or.inl hy))
  · rw [e_X11_least, k_isPair0 (by omega) hx hp, zCI_ri, if_pos rfl]
    exact bad (Or.inl hp)
