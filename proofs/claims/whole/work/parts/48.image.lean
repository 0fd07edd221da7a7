/-! nights, what was led, images -/
def ycm (m : Int → Int) (k c : Int) : Int := if 0 ≤ c ∧ c < k then (if 0 < m c then m c - 1 else if m c < 0 then m c + 1 else m c) else m c
theorem ycm_b {m : Int → Int} {k : Int} (hm : yBm m) : yBm (ycm m k) := by
  intro c a b
  have := hm c a b
  unfold ycm
  split
  · split
    · omega
    · split <;> omega
  · exact this
theorem c_calm_l {d : Nat} {N σ0 : zF} {m : Int → Int} (hB : yBn N) (hm : yBm m) : ∀ (j : Nat) (k : Int) (σ : zF), 0 ≤ k → k + j = N 0 0 → σ 1 0 = N 0 0 → (∀ c, 0 ≤ c → c < 12 → σ 5 c = ycm m k c) → yf ([5], []) σ0 σ → yT (P_X3_calmMoods_2 d k σ) (yV fun s => (∀ c, 0 ≤ c → c < 12 → s 5 c = ycm m (N 0 0) c) ∧ yf ([5], []) σ0 s) := by
  have n1 := hB.2.1
  intro j
  induction j with
  | zero =>
    intro k σ k0 hk h1 h5 f
    rw [e_X3_calmMoods_2]
    refine y_n (by omega) (y_v ⟨?_, f⟩)
    rw [show N 0 0 = k by omega]
    exact h5
  | succ j ih =>
    intro k σ k0 hk h1 h5 f
    have e := h5 k k0 (by omega)
    have ek : ycm m k k = m k := by unfold ycm; rw [if_neg (by omega)]
    have bm := hm k k0 (by omega)
    have r12 : 0 ≤ k ∧ k < 12 := by omega
    rw [e_X3_calmMoods_2, h1, e, ek, zw_i (x := k + 1) (by omega) (by omega)]
    have step : ∀ v, v = (if 0 < m k then m k - 1 else if m k < 0 then m k + 1 else m k) → yT (P_X3_calmMoods_2 d (k + 1) (zset σ 5 k v)) (yV fun s => (∀ c, 0 ≤ c → c < 12 → s 5 c = ycm m (N 0 0) c) ∧ yf ([5], []) σ0 s) := by
      intro v hv
      refine ih (k + 1) _ (by omega) (by omega) h1 (fun c a b => ?_) (yf_set f rfl)
      by_cases q : c = k
      · rw [zset_hit q, hv, q]
        unfold ycm
        exact (if_pos (show 0 ≤ k ∧ k < k + 1 by omega)).symm
      · rw [zset_off q, h5 c a b]
        unfold ycm
        exact y_cc (by omega)
    refine y_g (by omega) (y_g r12 (y_if (fun q => y_g r12 (y_g r12 ?_)) (fun q => y_g r12 (y_if (fun q2 => y_g r12 (y_g r12 ?_)) (fun q2 => ?_)))))
    · exact step _ (by rw [if_pos q, zw_i (by omega) (by omega)])
    · exact step _ (by rw [if_neg q, if_pos q2, zw_i (by omega) (by omega)])
    · refine ih (k + 1) σ (by omega) (by omega) h1 (fun c a b => ?_) f
      rw [h5 c a b]
      unfold ycm
      by_cases w : c = k
      · subst w
        rw [if_neg (by omega), if_pos (by omega), if_neg q, if_neg q2]
      · exact y_cc (by omega)
theorem m_calm_l {d : Nat} {N σ0 : zF} {p m : Int → Int} (hB : yBn N) (hm : yBm m) {Q : zR → Prop} (hQ : ∀ σ : zF, yM N p (ycm m (N 0 0)) σ → yf ([60], []) σ0 σ → yT (zri (zw ((σ 74 4) + 1)) (zset σ 74 4 (zw ((σ 74 4) + 1)))) Q) : ∀ (j : Nat) (k : Int) (σ : zF), 0 ≤ k → k + j = N 0 0 → yM N p (ycm m k) σ → yf ([60], []) σ0 σ → yT (P_X12_night_2 d k σ) Q := by
  have n1 := hB.2.1
  intro j
  induction j with
  | zero =>
    intro k σ k0 hk hM f
    rw [e_X12_night_2, hM.1]
    rw [show k = N 0 0 by omega] at hM ⊢
    have r45 : 0 ≤ (4 : Int) ∧ 4 < 5 := by decide
    exact y_n (by omega) (y_g r45 (y_g r45 (y_g r45 (hQ σ hM f))))
  | succ j ih =>
    intro k σ k0 hk hM f
    have ek : ycm m k k = m k := by unfold ycm; rw [if_neg (by omega)]
    have bm := hm k k0 (by omega)
    rw [e_X12_night_2, hM.1, zw_i (x := 12 + k) (by omega) (by omega), (hM.2.2 k k0 (by omega)).2.2.2.2.2, ek, zw_i (x := k + 1) (by omega) (by omega)]
    have step : ∀ v, v = (if 0 < m k then m k - 1 else if m k < 0 then m k + 1 else m k) → yT (P_X12_night_2 d (k + 1) (zset σ 60 (12 + k) v)) Q := by
      intro v hv
      refine ih (k + 1) _ (by omega) (by omega) (yM_set k0 (by omega) hM ?_ (fun c a b hc => ?_)) (yf_set f rfl)
      · rw [hv]
        unfold ycm
        rw [if_pos (by omega)]
      · unfold ycm
        exact y_cc (by omega)
    refine y_g (by omega) (y_g (by omega) (y_if (fun q => y_g (by omega) ?_) (fun q => y_if (fun q2 => y_g (by omega) ?_) (fun q2 => y_g (by omega) ?_))))
    · exact step _ (by rw [if_pos q, zw_i (by omega) (by omega)])
    · exact step _ (by rw [if_neg q, if_pos q2, zw_i (by omega) (by omega)])
    · exact step _ (by rw [if_neg q, if_neg q2]; omega)
/-- moods and nights anew -/
def yN2 (N : zF) (m : Int → Int) (g : Int) : zF := fun k i => if k = 6 then m i else if k = 9 then g else N k i
theorem yBn_2 {N : zF} {m : Int → Int} {g : Int} (hB : yBn N) (hm : yBm m) (h0 : ∀ r, N 0 0 ≤ r → r < 12 → m r = 0) : yBn (yN2 N m g) := ⟨hB.1, hB.2.1, hB.2.2.1, hm, fun r a b => ⟨h0 r a b, (hB.2.2.2.2 r a b).2⟩⟩
/-- the core between calls, moods and nights anew -/
theorem yInv2 {c : Int} {N : zF} {G : yG} {σ t : zF} {m : Int → Int} {g : Int} {A : List Nat × List (Nat × Int)} (hI : yInv c N G σ) (hA : yds A ([2, 3, 4, 6, 7, 15, 20, 58, 59, 64, 65, 66, 67], [(1, 0), (14, 1), (17, 5), (57, 0), (57, 9), (57, 10)]) = true) (f : yf A σ t) (hm : yBm m) (h0 : ∀ r, N 0 0 ≤ r → r < 12 → m r = 0) (h5 : ∀ r, 0 ≤ r → r < 12 → t 5 r = m r) (h10 : t 10 4 = g) (h74 : t 74 4 = g) (h60 : ∀ r, 0 ≤ r → r < 12 → t 60 r = N 3 r ∧ t 60 (24 + r) = N 4 r ∧ t 60 (36 + r) = N 5 r ∧ t 60 (12 + r) = m r) (hR : yRs t) : yInv (c + 1) (yN2 N m g) G t := by
  obtain ⟨⟨b1, b2, b3, b4, b5⟩, ⟨q1, q2, q3, q4, q5⟩, hT, -⟩ := hI
  have gg := yf_g f hA
  have e17 : t 17 5 = σ 17 5 := gg 17 5 rfl
  refine ⟨⟨yBn_2 b1 hm h0, ⟨(gg 1 0 rfl).trans b2.1, h10, fun r a b => ?_⟩, yLC_g (yg_le gg (by decide)) b3, by rw [e17]; exact b4, fun i a b => ?_⟩, ⟨yBn_2 b1 hm h0, hm, q3, ⟨(gg 57 0 rfl).trans q4.1, h74, fun r a b => ?_⟩, yLM_g (yg_le gg (by decide)) q5⟩, by rw [e17]; omega, hR⟩
  · have q := b2.2.2 r a b
    exact ⟨(gg 2 r rfl).trans q.1, (gg 3 r rfl).trans q.2.1, (gg 4 r rfl).trans q.2.2.1, (gg 6 r rfl).trans q.2.2.2.1, (gg 7 r rfl).trans q.2.2.2.2.1, h5 r a b⟩
  · rw [e17, gg 20 i rfl]
    exact b5 i a b
  · have q := q4.2.2 r a b
    have z := h60 r a b
    exact ⟨(gg 58 r rfl).trans q.1, (gg 59 r rfl).trans q.2.1, z.1, z.2.1, z.2.2.1, z.2.2.2⟩
abbrev yAn : List Nat × List (Nat × Int) := ([5, 60], [(10, 4), (74, 4)])
theorem o_night : yStep 130 231 [] := by
  intro d hd c N G σ hI c0 c1
  obtain ⟨d, rfl, hd'⟩ := y_d hd; have hd := hd'
  obtain ⟨n1, n2, n3, n4⟩ := yI_n hI
  have hB := hI.1.1
  have hC := hI.1.2.1
  have hY := hI.2.1
  obtain ⟨hTr, hLd, hTp, hHs, hIm, hSt, hSh⟩ := hI.2.2.2
  have r45 : 0 ≤ (4 : Int) ∧ 4 < 5 := by decide
  rw [e_X11_night]
  have e26 : yT (zx d 26 [.inl (some 1)] σ) (yV fun s => (∀ c, 0 ≤ c → c < 12 → s 5 c = ycm (N 6) (N 0 0) c) ∧ yf ([5], []) σ s) := by
    obtain ⟨d, rfl, hd'⟩ := y_d (k := 140) (d := d) (by omega)
    rw [e_X3_calmMoods]
    refine c_calm_l hB hB.2.2.2.1 (N 0 0).toNat 0 σ (by omega) (by omega) n1 (fun c a b => ?_) yf_rf
    rw [(hC.2.2 c a b).2.2.2.2.2]
    unfold ycm
    rw [if_neg (by omega)]
  refine y_cV e26 (fun s hs => y_g r45 (y_g r45 (y_g r45 (y_i ?_))))
  have e10 : s 10 4 = N 9 4 := (hs.2 10 4 rfl).trans hC.2.1
  rw [e10]
  have f1 : yf ([5], [(10, 4)]) σ (zset s 10 4 (zw (N 9 4 + 1))) := yf_set (yf_le hs.2 (by decide)) rfl
  rw [e_X12_night]
  refine m_calm_l (σ0 := zset s 10 4 (zw (N 9 4 + 1))) (p := N 5) (m := N 6) hB hB.2.2.2.1 (fun t hM ft => ?_) (N 0 0).toNat 0 _ (by omega) (by omega) ?_ yf_rf
  · have f2 : yf yAn σ t := yf_tr (yf_le f1 (by decide)) (yf_le ft (by decide))
    rw [hM.2.1]
    have f3 : yf yAn σ (zset t 74 4 (zw (N 9 4 + 1))) := yf_set f2 rfl
    have f4 : yf ([60], [(74, 4)]) (zset s 10 4 (zw (N 9 4 + 1))) (zset t 74 4 (zw (N 9 4 + 1))) := yf_set (yf_le ft (by decide)) rfl
    refine y_i ⟨rfl, yN2 N (ycm (N 6) (N 0 0)) (zw (N 9 4 + 1)), G, yInv2 hI (by decide) f3 (ycm_b hB.2.2.2.1) (fun r a b => ?_) (fun r a b => ?_) ?_ rfl (fun r a b => ?_) ?_⟩
    · unfold ycm
      rw [if_neg (by omega)]
      exact (hB.2.2.2.2 r a b).1
    · rw [f4 5 r rfl]
      exact hs.1 r a b
    · rw [f4 10 4 rfl]
      exact zset_hit rfl
    · have q := hM.2.2 r a b
      exact ⟨q.2.2.1, q.2.2.2.1, q.2.2.2.2.1, q.2.2.2.2.2⟩
    · refine ⟨yTr_g (yf_g f3 (by decide)) hTr, fun i a b => ?_, yTp_g (yf_g f3 (by decide)) hTp, yHs_g (yf_g f3 (by decide)) hHs, yIm_g (yf_g f3 (by decide)) hIm, ySt_g (yf_g f3 (by decide)) hSt, ySh_g (yf_g f3 (by decide)) hSh⟩
      rw [f4 10 i rfl]
      by_cases e : i = 4
      · rw [zset_hit e, zset_hit e]
      · rw [zset_off e, zset_off e, hs.2 10 i rfl, ft 74 i rfl]
        show _ = s 74 i
        rw [hs.2 74 i rfl]
        exact hLd i a b
  · have hM0 := yM_f hY.2.2.2.1 f1 (by decide)
    refine ⟨hM0.1, hM0.2.1, fun r a b => ?_⟩
    have q := hM0.2.2 r a b
    refine ⟨q.1, q.2.1, q.2.2.1, q.2.2.2.1, q.2.2.2.2.1, ?_⟩
    rw [q.2.2.2.2.2]
    unfold ycm
    rw [if_neg (by omega)]
theorem o_led {x : Int} : yStep 131 232 [.inr (.inl x)] := by
  intro d hd c N G σ hI c0 c1
  obtain ⟨d, rfl, hd'⟩ := y_d hd; have hd := hd'
  rw [e_X11_led, y_rl]
  refine y_if (fun h => y_g h (y_i ?_)) (fun h => y_i ?_)
  · rw [e_X12_led, k_within (by omega), zCI_ri, y01, if_pos (by omega), if_pos h]
    exact y_i ⟨(hI.2.2.2.2.1 x h.1 h.2).symm, N, G, yInv_id hI⟩
  · rw [e_X12_led, k_within (by omega), zCI_ri, y01, if_neg (by omega)]
    exact y_i ⟨rfl, N, G, yInv_id hI⟩
theorem o_count {x : Int} : yStep 145 252 [.inr (.inl x)] := by
  intro d hd c N G σ hI c0 c1
  obtain ⟨d, rfl, hd'⟩ := y_d hd; have hd := hd'
  obtain ⟨n1, n2, n3, n4⟩ := yI_n hI
  obtain ⟨hTr, hLd, hTp, hHs, hIm, hSt, hSh⟩ := hI.2.2.2
  have inv := yInv_id hI
  rw [e_X11_count]
  refine y_if (fun h => y_i ?_) (fun h => y_if (fun h1 => y_i ?_) (fun h1 => y_if (fun h2 => y_i ?_) (fun h2 => y_if (fun h3 => y_i ?_) (fun h3 => y_if (fun h4 => y_i ?_) (fun h4 => y_if (fun h5 => y_i ?_) (fun h5 => y_i ?_))))))
  · rw [e_X12_count, if_pos h]
    exact y_i ⟨n2.trans n1.symm, N, G, inv⟩
  · rw [e_X12_count, if_neg h, if_pos h1]
    exact y_i ⟨hTr.1.symm, N, G, inv⟩
  · rw [e_X12_count, if_neg h, if_neg h1, if_pos h2]
    exact y_i ⟨hTp.1.symm, N, G, inv⟩
  · rw [e_X12_count, if_neg h, if_neg h1, if_neg h2, if_pos h3]
    exact y_i ⟨hHs.1.symm, N, G, inv⟩
  · rw [e_X12_count, if_neg h, if_neg h1, if_neg h2, if_neg h3, if_pos h4]
    exact y_i ⟨hSt.1.symm, N, G, inv⟩
  · rw [e_X12_count, if_neg h, if_neg h1, if_neg h2, if_neg h3, if_neg h4, if_pos h5]
    exact y_i ⟨hSt.2.2.2.1.symm, N, G, inv⟩
  · rw [e_X12_count, if_neg h, if_neg h1, if_neg h2, if_neg h3, if_neg h4, if_neg h5]
    exact y_i ⟨rfl, N, G, inv⟩
theorem o_trace {x : Int} : yStep 138 243 [.inr (.inl x)] := by
  intro d hd c N G σ hI c0 c1
  obtain ⟨d, rfl, hd'⟩ := y_d hd; have hd := hd'
  have hSt := hI.2.2.2.2.2.2.2.2.1
  have inv := yInv_id hI
  obtain ⟨s1, s2, s3, s4, s5, s6, s7, s8⟩ := hSt
  have e81 : zx d 81 [.inl (some 41)] σ = zri (min (σ 41 3) 24) σ := by
    obtain ⟨d, rfl, hd'⟩ := y_d (k := 140) (d := d) (by omega)
    rw [e_X8_noted, zmin_eq]
  have mod : zx (d + 1) 243 [.inl (some 57), .inr (.inl x)] σ = if 0 ≤ x ∧ x < min (σ 41 3) 24 then (if 0 ≤ x ∧ x < 24 then zri (σ 80 x) σ else none) else zri (-1) σ := by
    rw [e_X12_trace, k_within (by omega), zCI_ri, y01, zmin_eq, ← s4, zw_i (by omega) (by omega)]
    exact y_cc (by omega)
  rw [e_X11_trace]
  refine y_if (fun h => y_i ?_) (fun h => ?_)
  · rw [mod, if_neg (by omega)]
    exact y_i ⟨rfl, N, G, inv⟩
  · rw [e81, zCI_ri]
    refine y_if (fun h2 => y_g (by omega) (y_i ?_)) (fun h2 => y_i ?_)
    · rw [mod, if_pos (by omega), if_pos (by omega)]
      exact y_i ⟨(s8 x (by omega) (by omega) (by omega)).symm, N, G, inv⟩
    · rw [mod, if_neg (by omega)]
      exact y_i ⟨rfl, N, G, inv⟩
