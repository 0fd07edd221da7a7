/-! law itself -/
abbrev yAlc : List Nat × List (Nat × Int) := ([13, 15], [(11, 1), (11, 3), (11, 4), (11, 5), (14, 1)])
abbrev yAlm : List Nat × List (Nat × Int) := ([64, 65, 66, 67, 68, 69, 70, 71], [(57, 7), (57, 9), (57, 10), (57, 15), (57, 16), (57, 17), (57, 18)])
abbrev yAla : List Nat × List (Nat × Int) := ([13, 15, 64, 65, 66, 67, 68, 69, 70, 71], [(11, 1), (11, 3), (11, 4), (11, 5), (14, 1), (57, 7), (57, 9), (57, 10), (57, 15), (57, 16), (57, 17), (57, 18)])
/-- the component: what a text leaves -/
theorem c_read {d : Nat} (hd : 91 ≤ d) {T : Int → Int} {L : Int} {σ : zF} (hL : 0 ≤ L ∧ L ≤ 120) (h1 : σ 11 1 = L) (hT : ∀ i, 0 ≤ i → i < L → σ 12 i = T i) : yT (zx d 35 [.inl (some 11)] σ) (yI fun v s => ((ytx T L 121 0).1 = true → v = -1 ∧ s 11 3 = (ycs (ytx T L 121 0).2.2).length ∧ yAtl (s 13) 0 (ycs (ytx T L 121 0).2.2) ∧ (ycs (ytx T L 121 0).2.2).length ≤ 121 ∧ 1 ≤ (ycs (ytx T L 121 0).2.2).length ∧ ∀ l ∈ (ytx T L 121 0).2.2, yGl l) ∧ (¬ (ytx T L 121 0).1 = true → v = (ytx T L 121 0).2.1 ∧ 0 ≤ v ∧ v ≤ 120) ∧ yf yArd σ s) := by
  obtain ⟨d, rfl, hd'⟩ := y_d (k := 90) (d := d) (by omega)
  have h2 : yRd T L 0 [] (zset (zset (zset σ 11 3 0) 11 4 0) 11 5 (-1)) := by
    refine ⟨?_, ?_, zset_hit rfl, ?_, trivial, fun i i0 i1 => ?_⟩
    · rw [zset_off (by decide), zset_off (by decide), zset_off (by decide)]; exact h1
    · rw [zset_off (by decide), zset_hit rfl]
    · rw [zset_off (by decide), zset_off (by decide), zset_hit rfl]; rfl
    · rw [zset_k (by decide), zset_k (by decide), zset_k (by decide)]; exact hT i i0 i1
  have f0 : yf yArd σ (zset (zset (zset σ 11 3 0) 11 4 0) 11 5 (-1)) := yf_set (yf_set (yf_set yf_rf rfl) rfl) rfl
  rw [e_X4_read]
  refine y_mI (c_text hd' hL 121 0 0 [] _ (by omega) (by omega) hL.1 (by omega) (by omega) (by simp) h2) (fun v s hs => ⟨hs.1, hs.2.1, yf_tr f0 hs.2.2⟩)
theorem yLC_law {ls : List yLn} {t : zF} (hg : ∀ q ∈ ls, yGl q) (h1 : t 14 1 = (ycs ls).length) (h2 : yAtl (t 15) 0 (ycs ls)) (h3 : (ycs ls).length ≤ 121) (h4 : 1 ≤ (ycs ls).length) : yLC (fun l m j n r k => yvl (yNc l m j n r k) ls) t := by
  intro d hd σ' e1 e2 l m j n r k
  obtain ⟨d, rfl, hd'⟩ := y_d (k := 2) (d := d) (by omega)
  have f0 : yf yAev σ' (zset σ' 14 3 0) := yf_set yf_rf rfl
  rw [e_X2_work, if_neg (by omega)]
  refine c_work hd' ls 0 _ hg ?_ (by omega) ?_ ?_ (zset_hit rfl) f0
  · have : (zset σ' 14 3 0) 15 = t 15 := (funext fun i => zset_k (by decide)).trans e2
    rw [this]
    exact h2
  · rw [zset_off (by decide)]; omega
  · rw [zset_off (by decide)]; omega
theorem yLM_law {ls : List yLn} {t : zF} (hg : ∀ q ∈ ls, yGl q) (h9 : t 57 9 = 1) (h10 : t 57 10 = ls.length) (hl : ls.length ≤ 60) (hc : (ykc ls).length ≤ 120) (hb : yLb (t 64) (t 65) (t 66) 0 0 ls) (ha : yAtl (t 67) 0 ((ykc ls).map ytrc)) : yLM (fun l m j n r k => yvl (yNc l m j n r k) ls) t := by
  refine ⟨fun e => absurd e (by omega), fun _ d hd σ' e1 e2 e3 e4 e5 => ?_⟩
  refine m_byl (by omega) ls 0 0 σ' hg ?_ ?_ (by omega) (by omega) (by omega) (by omega) (by omega) (fun i i0 i1 => ?_) yf_rf
  · rw [e2, e3, e4]; exact hb
  · rw [e5]; exact ha
  · rcases (show i = 0 ∨ i = 1 ∨ i = 2 ∨ i = 3 ∨ i = 4 ∨ i = 5 by omega) with rfl | rfl | rfl | rfl | rfl | rfl <;> rfl
set_option maxHeartbeats 1000000 in
theorem o_law : yStep 111 185 [] := by
  intro d hd c N G σ hI c0 c1
  obtain ⟨d, rfl, hd'⟩ := y_d hd; have hd := hd'
  obtain ⟨hTr, hLd, hTp, hHs, hIm, hSt, hSh⟩ := hI.2.2.2
  obtain ⟨p1, p2, p3, p4⟩ := hTp
  have hL : 0 ≤ σ 11 1 ∧ σ 11 1 ≤ 120 := ⟨p2, p3⟩
  show yT (zx (d + 1) 111 [.inl (some 0)] σ) _
  rw [e_X11_law]
  refine y_cI (c_read (T := fun i => σ 12 i) (L := σ 11 1) (by omega) hL rfl (fun i _ _ => rfl)) (fun v s hs => ?_)
  obtain ⟨s1, s2, s3⟩ := hs
  -- what is alike whatever the text says
  have rest : ∀ (N' : zF) (G' : yG) (t : zF), N' = N → yf yAla σ t → t 11 1 = 0 → t 57 7 = 0 → yLC G' t → yLM G' t → yInv (c + 1) N' G' t := fun N' G' t e f a1 a2 lc lm => by
    subst e
    obtain ⟨b1, b2, b3, b4, b5⟩ := hI.1
    obtain ⟨q1, q2, q3, q4, q5⟩ := hI.2.1
    refine ⟨⟨b1, yC_g (yf_g f (by decide)) b2, lc, by rw [f 17 5 rfl]; exact b4, fun i i0 i1 => by rw [f 17 5 rfl, f 20 i rfl]; exact b5 i i0 i1⟩, ⟨q1, q2, q3, yM_g (yf_g f (by decide)) q4, lm⟩, by rw [f 17 5 rfl]; have := hI.2.2.1; omega, yTr_g (yf_g f (by decide)) hTr, yLd_g (yf_g f (by decide)) hLd, ⟨by rw [a1, a2], by omega, by omega, fun i i0 i1 => ?_⟩, yHs_g (yf_g f (by decide)) hHs, yIm_g (yf_g f (by decide)) hIm, ySt_g (yf_g f (by decide)) hSt, ySh_g (yf_g f (by decide)) hSh⟩
    rw [f 12 i rfl, f 63 i rfl, a1]
    exact ⟨(p4 i i0 i1).1, fun h => absurd h (by omega)⟩
  -- the model, from where the component ends
  have mod : ∀ (u : zF) (Q : zR → Prop), yf yAlc σ u → ((ytx (fun i => σ 12 i) (σ 11 1) 121 0).1 = true → ∀ s, yMt (fun i => σ 12 i) (σ 11 1) (σ 11 1) (ytx (fun i => σ 12 i) (σ 11 1) 121 0).2.2 s → (ykc (ytx (fun i => σ 12 i) (σ 11 1) 121 0).2.2).length ≤ 120 → (ytx (fun i => σ 12 i) (σ 11 1) 121 0).2.2.length ≤ 60 → yf yAlm u s → yT (P_X12_law_99 d 0 (zset (zset (zset s 57 7 0) 57 9 1) 57 10 (s 57 18))) Q) → (¬ (ytx (fun i => σ 12 i) (σ 11 1) 121 0).1 = true → ∀ s, yf ([68, 69, 70, 71], [(57, 15), (57, 16), (57, 17), (57, 18)]) u s → yT (zri (zw (-100 - (ytx (fun i => σ 12 i) (σ 11 1) 121 0).2.1)) (zset s 57 7 0)) Q) → yT (zx (d + 1) 185 [.inl (some 57)] u) Q := fun u Q fu H1 H2 => by
    have f0 : yf ([68, 69, 70, 71], [(57, 15), (57, 16), (57, 17), (57, 18)]) u (zset (zset (zset (zset u 57 15 0) 57 16 0) 57 17 0) 57 18 0) := yf_set (yf_set (yf_set (yf_set yf_rf rfl) rfl) rfl) rfl
    rw [e_X12_law]
    refine m_text (T := fun i => σ 12 i) (L := σ 11 1) (by omega) hL (σ0 := u) 121 0 [] _ (by omega) (by omega) hL.1 (by simp [ykc]) (by simp) ⟨⟨?_, ?_, ?_, ?_, trivial, fun i i0 i1 => ?_⟩, zset_hit rfl, trivial⟩ f0 (fun w s a1 a2 a3 a4 => H1 w s a1 a2 a3 (yf_le a4 (by decide))) (fun w s a1 => H2 w s a1)
    · rw [zset_off (by decide), zset_off (by decide), zset_off (by decide), zset_off (by decide), fu 57 7 rfl]; exact p1.symm
    · rw [zset_off (by decide), zset_off (by decide), zset_off (by decide), zset_hit rfl]
    · rw [zset_off (by decide), zset_off (by decide), zset_hit rfl]
    · rw [zset_off (by decide), zset_hit rfl]; rfl
    · rw [zset_k (by decide), zset_k (by decide), zset_k (by decide), zset_k (by decide), fu 63 i rfl]; exact (p4 i i0 (by omega)).1.symm
  generalize ytx (fun i => σ 12 i) (σ 11 1) 121 0 = R at s1 s2 mod
  by_cases z : R.1 = true
  · obtain ⟨rfl, g2, g3, g4, g5, g6⟩ := s1 z
    have z11 : (zset s 11 1 0) 11 1 = 0 := zset_hit rfl
    have z113 : (zset s 11 1 0) 11 3 = s 11 3 := zset_off (by decide)
    have mn : zmin (s 11 3) 121 = s 11 3 := by rw [zmin_eq]; omega
    obtain ⟨e, rfl, he⟩ := y_d (k := 140) (d := d) (by omega)
    rw [if_pos rfl, e_X2_take, mn, g2, if_pos (by omega), zCV_rv]
    refine y_i ?_
    have u11 : (zcpy (zset (zset s 11 1 0) 14 1 ((ycs R.2.2).length : Int)) 13 0 15 0 ((ycs R.2.2).length : Int)) 11 1 = 0 := by rw [zcpy_eq, if_neg (by omega), zset_k (by decide), z11]
    have u14 : (zcpy (zset (zset s 11 1 0) 14 1 ((ycs R.2.2).length : Int)) 13 0 15 0 ((ycs R.2.2).length : Int)) 14 1 = (ycs R.2.2).length := by rw [zcpy_eq, if_neg (by omega), zset_hit rfl]
    have u15 : yAtl ((zcpy (zset (zset s 11 1 0) 14 1 ((ycs R.2.2).length : Int)) 13 0 15 0 ((ycs R.2.2).length : Int)) 15) 0 (ycs R.2.2) := by
      refine yAt_cg _ 0 (fun i i0 i1 => ?_) g3
      rw [zcpy_eq, if_pos (by omega), zset_k (by decide), zset_k (by decide), show 0 + (i - 0) = i by omega]
    have fu : yf yAlc σ (zcpy (zset (zset s 11 1 0) 14 1 ((ycs R.2.2).length : Int)) 13 0 15 0 ((ycs R.2.2).length : Int)) := yf_cpy (yf_set (yf_set (yf_le s3 (by decide)) rfl) rfl) rfl
    generalize (zcpy (zset (zset s 11 1 0) 14 1 ((ycs R.2.2).length : Int)) 13 0 15 0 ((ycs R.2.2).length : Int)) = u at u11 u14 u15 fu
    refine mod u _ fu (fun _ t t1 t2 t3 t4 => ?_) (fun w => absurd z w)
    obtain ⟨⟨m1, m2, m3, m4, m5, m6⟩, m7, m8⟩ := t1
    have o : ∀ k i, ¬ k = 57 → (zset (zset (zset t 57 7 0) 57 9 1) 57 10 (t 57 18)) k i = t k i := fun k i n => by rw [zset_k n, zset_k n, zset_k n]
    have fz : yf yAlm u (zset (zset (zset t 57 7 0) 57 9 1) 57 10 (t 57 18)) := yf_set (yf_set (yf_set t4 rfl) rfl) rfl
    refine y_mI (m_c99 (A := t 68) (S := t 69) (E := t 70) (F := t 71) (n := R.2.2.length) (k := (ykc R.2.2).length) (σ0 := zset (zset (zset t 57 7 0) 57 9 1) 57 10 (t 57 18)) (Q := fun w => yInv (c + 1) N (fun l m j n r k => yvl (yNc l m j n r k) R.2.2) w) (by omega) (by omega) (fun w w1 w2 w3 => ?_) R.2.2.length 0 _ (by omega) (by omega) ?_ ?_ (fun i i0 i1 => ⟨o 68 i (by decide), o 69 i (by decide), o 70 i (by decide)⟩) (fun i i0 i1 => o 71 i (by decide)) (fun q q0 q1 => by omega) yf_rf) (fun w x hx => ⟨hx.1, N, _, hx.2⟩)
    · have fw : yf yAlm u w := yf_tr fz (yf_le w3 (by decide))
      have w7 : w 57 7 = 0 := by rw [w3 57 7 rfl, zset_off (by decide), zset_off (by decide), zset_hit rfl]
      have w9 : w 57 9 = 1 := by rw [w3 57 9 rfl, zset_off (by decide), zset_hit rfl]
      have w10 : w 57 10 = R.2.2.length := by rw [w3 57 10 rfl, zset_hit rfl, m7]
      have w15 : w 15 = u 15 := funext fun i => fw 15 i rfl
      refine rest N _ w rfl (yf_tr (yf_le fu (by decide)) (yf_le fw (by decide))) ((fw 11 1 rfl).trans u11) w7 (yLC_law g6 ((fw 14 1 rfl).trans u14) (by rw [w15]; exact u15) g4 g5) (yLM_law g6 w9 w10 t3 t2 ?_ ?_)
      · exact yLb_cg _ 0 0 (fun j j0 j1 => w1 j j0 (by omega)) m8
      · refine yAt_cg _ 0 (fun j j0 j1 => w2 j j0 ?_) m5
        rw [List.length_map] at j1
        omega
    · rw [zset_hit rfl]; exact m7
    · rw [zset_off (by decide), zset_off (by decide), zset_off (by decide)]; exact m4
  · obtain ⟨g1, g2, g3⟩ := s2 z
    rw [if_neg (by omega), g1]
    refine y_i ?_
    have fu : yf ([13], [(11, 1), (11, 3), (11, 4), (11, 5)]) σ (zset s 11 1 0) := yf_set (yf_le s3 (by decide)) rfl
    refine mod (zset s 11 1 0) _ (yf_le fu (by decide)) (fun w => absurd w z) (fun _ t t1 => y_i ⟨rfl, N, G, ?_⟩)
    have f2 : yf ([68, 69, 70, 71], [(57, 7), (57, 15), (57, 16), (57, 17), (57, 18)]) (zset s 11 1 0) (zset t 57 7 0) := yf_set (yf_le t1 (by decide)) rfl
    have f : yf ([13, 68, 69, 70, 71], [(11, 1), (11, 3), (11, 4), (11, 5), (57, 7), (57, 15), (57, 16), (57, 17), (57, 18)]) σ (zset t 57 7 0) := yf_tr (yf_le fu (by decide)) (yf_le f2 (by decide))
    exact rest N G _ rfl (yf_le f (by decide)) ((f2 11 1 rfl).trans (zset_hit rfl)) (zset_hit rfl) (yLC_g (yf_g f (by decide)) hI.1.2.2.1) (yLM_g (yf_g f (by decide)) hI.2.1.2.2.2.2)
