/-! calls that only think, 1 -/
theorem ykn_c {N : zF} {p q : Int → Int} {r : Int} (h : ∀ k, 0 ≤ k → p k = q k) : ∀ k, ykn N p r k = ykn N q r k
  | 0 => rfl
  | k + 1 => by
    unfold ykn
    rw [ykn_c h k, h k (by omega)]
theorem yHR_w (N : zF) (G : yG) (m : Int → Int) : yHR N G (ypw N (-1)) m = yHR N G (N 5) m := by
  funext r
  unfold yHR yHV yKN
  rw [ykn_c (q := N 5) (fun k hk => by unfold ypw; rw [if_neg (by omega)])]
theorem yrk_c {n : Int} {A B H p q d : Int → Int} (h : ∀ r, 0 ≤ r → r < n → p r = q r) : ∀ k : Nat, (k : Int) ≤ n → yrk A B H p d k = yrk A B H q d k
  | 0, _ => rfl
  | k + 1, hk => by
    funext c
    show yrx A B H p (yrk A B H p d k) k c = yrx A B H q (yrk A B H q d k) k c
    rw [yrk_c h k (by omega)]
    unfold yrx
    rw [h k (by omega) (by omega)]
theorem yrs_c {n : Int} {A B H p q d : Int → Int} (h0 : 0 ≤ n) (h : ∀ r, 0 ≤ r → r < n → p r = q r) : ∀ k : Nat, yrs n A B H p d k = yrs n A B H q d k
  | 0 => rfl
  | k + 1 => by
    show yrk A B H p (yrs n A B H p d k) n.toNat = yrk A B H q (yrs n A B H q d k) n.toNat
    rw [yrs_c h0 h k, yrk_c h n.toNat (by omega)]
theorem yD_c {n : Int} {A B H p q : Int → Int} (s : Int) (h0 : 0 ≤ n) (h : ∀ r, 0 ≤ r → r < n → p r = q r) : yD n A B H p s = yD n A B H q s := yrs_c h0 h 8
theorem yD_w {N : zF} {G : yG} {m : Int → Int} (s : Int) (h0 : 0 ≤ N 0 0) : yD (N 0 0) (N 1) (N 2) (yHR N G (ypw N (-1)) m) (ypw N (-1)) s = yD (N 0 0) (N 1) (N 2) (yHR N G (N 5) m) (N 5) s := by
  rw [yHR_w]
  exact yD_c s h0 (fun r h _ => by unfold ypw; rw [if_neg (by omega)])
theorem yth {c T w : Int} {N : zF} {G : yG} {m : Int → Int} {σ s t : zF} (h : yInv c N G σ) (h1 : yX N G T w m s) (hT : T ≤ σ 17 5 + 2) (f1 : yf ySC σ s) (h2 : yM N (N 5) (N 6) t) (f2 : yf ySM s t) : yInv (c + 1) N G t := yInv_th h (yX_P h1).1 (by rw [(yX_P h1).2]; exact hT) f1 h2 f2
theorem yI_t {c : Int} {N : zF} {G : yG} {σ : zF} (hI : yInv c N G σ) (c1 : c < 600) : σ 17 5 < 5000000 := by
  have := hI.2.2.1
  omega
theorem o_hours {x : Int} : yStep 112 194 [.inr (.inl x)] := by
  intro d hd c N G σ hI c0 c1
  obtain ⟨d, rfl, hd'⟩ := y_d hd; have hd := hd'
  obtain ⟨n1, n2, n3, n4⟩ := yI_n hI
  by_cases e : x = -1
  · subst e
    rw [e_X11_hours, if_pos rfl]
    refine y_cV (c_begin (by omega) (-1) hI.1 (yI_t hI c1)) (fun s hs => y_g rfl ?_)
    refine y_cI (c_all (by omega) hs.1) (fun v s2 hs2 => y_i ?_)
    have f : yf ySC σ s2 := yf_tr (yf_le hs.2 (by decide)) (yf_le hs2.2.2 (by decide))
    have hY := yY_f hI.2.1 f (by decide)
    rw [e_X12_hours, if_pos rfl]
    refine y_cI (m_all (by omega) hY) (fun w t ht => y_i ⟨?_, N, G, yth hI hs2.2.1 (by omega) f (yM_f hY.2.2.2.1 ht.2 (by decide)) (yf_le ht.2 (by decide))⟩)
    rw [ht.1, hs2.1, yHR_w]
  · rw [e_X11_hours, if_neg e, k_isRoad (by omega), zCI_ri, y01, n1]
    by_cases h : 0 ≤ x ∧ x < N 0 0
    · rw [if_pos h]
      refine y_cV (c_begin (by omega) (-1) hI.1 (yI_t hI c1)) (fun s hs => y_n e ?_)
      refine y_cI (c_takes (by omega) hs.1 h.1 h.2) (fun v s2 hs2 => y_i ?_)
      have f : yf ySC σ s2 := yf_tr (yf_le hs.2 (by decide)) (yf_le hs2.2.2 (by decide))
      have hY := yY_f hI.2.1 f (by decide)
      have n2' : s2 57 0 = N 0 0 := hY.2.2.2.1.1
      rw [e_X12_hours, if_neg e, k_mRoad (by omega) x (by omega), zCI_ri, y01, n2', if_pos h]
      refine y_cI (m_hours (by omega) hY h.1 h.2) (fun w t ht => y_i ⟨?_, N, G, yth hI hs2.2.1 (by omega) f (yM_f hY.2.2.2.1 ht.2 (by decide)) (yf_le ht.2 (by decide))⟩)
      rw [ht.1, hs2.1, yHR_w]
    · rw [if_neg h]
      refine y_i ?_
      rw [e_X12_hours, if_neg e, k_mRoad (by omega) x (by omega), zCI_ri, y01, n2, if_neg h]
      exact y_i ⟨rfl, N, G, yInv_id hI⟩
/-! longer -/
theorem m_without {d : Nat} (hd : 9 ≤ d) {N : zF} {G : yG} {m : Int → Int} {x r : Int} {σ : zF} (hx : zin x) (hP : yPair x) (hY : yY N G (N 5) m σ) (h0 : 0 ≤ r) (h1 : r < N 0 0) : yT (zx d 204 [.inl (some 57), .inr (.inl x), .inr (.inl r)] σ) (yI fun v t => v = yW N G (ypw N r) m x ∧ yM N (N 5) m t ∧ yf ([60, 72, 73, 84, 85], []) σ t) := by
  obtain ⟨d, rfl, hd'⟩ := y_d hd; have hd := hd'
  obtain ⟨hB, hm, hp, hM, hL⟩ := hY
  have b1 := hB.2.1
  have hr := hM.2.2 r h0 (by omega)
  rw [e_X12_wayWithout, zw_i (x := 36 + r) (by omega) (by omega), hr.2.2.2.2.1]
  have hM2 : yM N (ypw N r) m (zset σ 60 (36 + r) 1) := by
    refine ⟨hM.1, hM.2.1, fun c c0 c2 => ?_⟩
    obtain ⟨a1, a2, a3, a4, a5, a6⟩ := hM.2.2 c c0 c2
    refine ⟨a1, a2, ?_, ?_, ?_, ?_⟩
    · rw [zset_off (by omega), a3]
    · rw [zset_off (by omega), a4]
    · unfold ypw
      by_cases e : c = r
      · rw [zset_hit (by omega), if_pos e]
      · rw [zset_off (by omega), if_neg e, a5]
    · rw [zset_off (by omega), a6]
  have hp2 : yBp N (ypw N r) := by
    intro c c0 c2
    unfold ypw
    split
    · exact Or.inr rfl
    · exact hp c c0 c2
  have f0 : yf ([60], []) σ (zset σ 60 (36 + r) 1) := yf_set yf_rf rfl
  refine y_g (by omega) (y_g (by omega) ?_)
  refine y_cI (m_wayOf hd hx hP ⟨hB, hm, hp2, hM2, yLM_f hL f0 (by decide)⟩) (fun v t ht => y_g (by omega) (y_i ⟨ht.1, ?_, yf_set (yf_tr (yf_le f0 (by decide)) (yf_le ht.2.2.2 (by decide))) rfl⟩))
  have hM3 := yM_f hM2 ht.2.2.2 (by decide)
  refine ⟨hM3.1, hM3.2.1, fun c c0 c2 => ?_⟩
  obtain ⟨a1, a2, a3, a4, a5, a6⟩ := hM3.2.2 c c0 c2
  refine ⟨a1, a2, ?_, ?_, ?_, ?_⟩
  · rw [zset_off (by omega), a3]
  · rw [zset_off (by omega), a4]
  · by_cases e : c = r
    · rw [zset_hit (by omega), e]
    · rw [zset_off (by omega), a5]
      unfold ypw
      rw [if_neg e]
  · rw [zset_off (by omega), a6]
theorem yDs {N : zF} {G : yG} {p m : Int → Int} (q : Int → Int) (hB : yBn N) {a b : Int} (ha : 0 ≤ a ∧ a < 8) (hb : 0 ≤ b ∧ b < 8) : yD (N 0 0) (N 1) (N 2) (yHR N G q m) p a b = yD (N 0 0) (N 1) (N 2) (yHR N G q m) p b a := yD_sym ha hb hB.1 (yOK_of hB _ _ _)
theorem o_longer {x y : Int} (hx : zin x) : yStep 116 206 [.inr (.inl x), .inr (.inl y)] := by
  intro d hd c N G σ hI c0 c1
  obtain ⟨d, rfl, hd'⟩ := y_d hd; have hd := hd'
  obtain ⟨n1, n2, n3, n4⟩ := yI_n hI
  by_cases hp : yPair x
  · have hp' := hp
    unfold yPair at hp'
    unfold zin at hx
    rw [e_X11_longer, k_isPair1 (by omega) hx hp, zCI_ri, if_neg (by decide), k_isRoad (by omega), zCI_ri, y01, n1]
    by_cases h : 0 ≤ y ∧ y < N 0 0
    · rw [if_pos h, zdiv_p hp'.1 hx.2 (by decide), zrem_p hp'.1]
      refine y_cV (c_begin (by omega) (-1) hI.1 (yI_t hI c1)) (fun s hs => y_n (by decide) ?_)
      refine y_cV (c_meas (by omega) (s := x / 10) (by omega) hs.1) (fun s2 hs2 => y_n (by decide) (y_g (by omega) ?_))
      have P2 := yX_P hs2.2.2.1
      have tl := yI_t hI c1
      have hc1 := hI.2.2.1
      refine y_cV (c_begin (by omega) y P2.1 (by omega)) (fun s3 hs3 => y_n (by decide) ?_)
      refine y_cV (c_meas (by omega) (s := x / 10) (by omega) hs3.1) (fun s4 hs4 => y_n (by decide) (y_g (by omega) ?_))
      have f : yf ySC σ s4 := yf_tr (yf_tr (yf_tr (yf_le hs.2 (by decide)) (yf_le hs2.2.2.2 (by decide))) (yf_le hs3.2 (by decide))) (yf_le hs4.2.2.2 (by decide))
      have hY := yY_f hI.2.1 f (by decide)
      have n2' : s4 57 0 = N 0 0 := hY.2.2.2.1.1
      have fin : ∀ v, v = (if yW N G (N 5) (N 6) x = -2 then -2 else if yW N G (ypw N y) (N 6) x = -2 then -2 else max 0 (yW N G (ypw N y) (N 6) x - yW N G (N 5) (N 6) x)) → yT (zri v s4) (yI fun v s => yT (zx (d + 1) 206 [.inl (some 57), .inr (.inl x), .inr (.inl y)] s) (yI fun w t => w = v ∧ ∃ N' G', yInv (c + 1) N' G' t)) := by
        intro v hv
        refine y_i ?_
        rw [e_X12_longer, k_mTwo1 (by omega) hx hp, zCI_ri, if_neg (by decide), k_mRoad (by omega) y (by omega), zCI_ri, y01, n2', if_pos h]
        refine y_cI (m_wayOf (by omega) hx hp hY) (fun w t ht => ?_)
        refine y_cI (m_without (by omega) hx hp (yY_f hY ht.2.2.2 (by decide)) h.1 h.2) (fun w2 t2 ht2 => ?_)
        have inv : yInv (c + 1) N G t2 := yth hI hs4.2.2.1 (by omega) f ht2.2.1 (yf_tr (yf_le ht.2.2.2 (by decide)) (yf_le ht2.2.2 (by decide)))
        rw [ht.1, ht2.1]
        refine y_if (fun q => y_i ⟨?_, N, G, inv⟩) (fun q => y_if (fun q2 => y_i ⟨?_, N, G, inv⟩) (fun q2 => y_i ⟨?_, N, G, inv⟩))
        · rw [hv, if_pos q]
        · rw [hv, if_neg q, if_pos q2]
        · rw [hv, if_neg q, if_neg q2, zmax_eq, zw_i]
          · unfold yW at q q2 ⊢
            have b1 := yD_693 (p := N 5) (s := x % 10) (c := x / 10) (by omega) n3 (yOK_of (G := G) hI.1.1 (N 5) (N 5) (N 6)) (by omega)
            have b2 := yD_b (p := N 5) (s := x % 10) n3 (yOK_of (G := G) hI.1.1 (N 5) (N 5) (N 6)) (x / 10)
            have b3 := yD_b (p := ypw N y) (s := x % 10) n3 (yOK_of (G := G) hI.1.1 (ypw N y) (ypw N y) (N 6)) (x / 10)
            split <;> split <;> omega
          · unfold yW at q q2 ⊢
            have b1 := yD_693 (p := N 5) (s := x % 10) (c := x / 10) (by omega) n3 (yOK_of (G := G) hI.1.1 (N 5) (N 5) (N 6)) (by omega)
            have b2 := yD_b (p := N 5) (s := x % 10) n3 (yOK_of (G := G) hI.1.1 (N 5) (N 5) (N 6)) (x / 10)
            have b3 := yD_b (p := ypw N y) (s := x % 10) n3 (yOK_of (G := G) hI.1.1 (ypw N y) (ypw N y) (N 6)) (x / 10)
            split <;> split <;> omega
      have e1 := hs2.1 (x % 10) (by omega)
      have e2 := hs4.1 (x % 10) (by omega)
      rw [yD_w _ n3, yDs _ hI.1.1 (by omega) (by omega)] at e1
      rw [yDs _ hI.1.1 (by omega) (by omega)] at e2
      rw [e1, e2]
      have b2 := yD_b (p := N 5) (s := x % 10) n3 (yOK_of (G := G) hI.1.1 (N 5) (N 5) (N 6)) (x / 10)
      have b3 := yD_b (p := ypw N y) (s := x % 10) n3 (yOK_of (G := G) hI.1.1 (ypw N y) (ypw N y) (N 6)) (x / 10)
      refine y_if (fun q => y_if (fun q2 => fin _ ?_) (fun q2 => fin _ ?_)) (fun q => fin _ ?_)
      · unfold yW
        rw [if_pos q, if_pos q2, if_neg (by omega), if_neg (by omega), zmax_eq, zw_i (by omega) (by omega)]
      · unfold yW
        rw [if_pos q, if_neg q2, if_neg (by omega), if_pos rfl]
      · unfold yW
        rw [if_neg q, if_pos rfl]
    · rw [if_neg h]
      refine y_i ?_
      rw [e_X12_longer, k_mTwo1 (by omega) hx hp, zCI_ri, if_neg (by decide), k_mRoad (by omega) y (by omega), zCI_ri, y01, n2, if_neg h]
      exact y_i ⟨rfl, N, G, yInv_id hI⟩
  · rw [e_X11_longer, k_isPair0 (by omega) hx hp, zCI_ri, if_pos rfl]
    refine y_i ?_
    rw [e_X12_longer, k_mTwo0 (by omega) hx hp, zCI_ri, if_pos rfl]
    exact y_i ⟨rfl, N, G, yInv_id hI⟩
