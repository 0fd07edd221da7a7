/-! the law's loop -/
theorem l_go {ic im : Nat} {vs : List zV} (h : yStep ic im vs) {n : Nat} {xs : Nat → Int} {i c : Int} {N : zF} {G : yG} {σ : zF} {Q : zR → Prop} (hI : yInv c N G σ) (c0 : 0 ≤ c) (c1 : c < 600) (K : ∀ N' G' t, yInv (c + 1) N' G' t → yT (P_L_law_18 n xs (zw (i + 6)) t) Q) : yT (zCI LAY (zx 200 ic (.inl (some 0) :: vs) σ) fun r2 s1 => zCI LAY (zx 200 im (.inl (some 57) :: vs) s1) fun r4 s3 => if r2 = r4 then P_L_law_18 n xs (zw (i + 6)) s3 else zri 0 s3) Q := by
  refine y_cI (h 200 (by decide) c N G σ hI c0 c1) (fun v s hs => y_cI hs (fun w t ht => ?_))
  obtain ⟨rfl, N', G', h'⟩ := ht
  exact y_g rfl (K N' G' t h')
theorem l_goJ {ic im : Nat} {vs : List zV} (h : yStepJ ic im vs) {n : Nat} {xs : Nat → Int} {i c : Int} {N : zF} {G : yG} {σ : zF} {Q : zR → Prop} (hI : yInv c N G σ) (c0 : 0 ≤ c) (c1 : c < 600) (K : ∀ N' G' t, yInv (c + 1) N' G' t → yT (P_L_law_18 n xs (zw (i + 6)) t) Q) : yT (zCJ LAY (zx 200 ic (.inl (some 0) :: vs) σ) fun r2 s1 => zCJ LAY (zx 200 im (.inl (some 57) :: vs) s1) fun r4 s3 => if zcmpl r2 r4 = 0 then P_L_law_18 n xs (zw (i + 6)) s3 else zri 0 s3) Q := by
  refine y_cJ (h 200 (by decide) c N G σ hI c0 c1) (fun v s hs => y_cJ hs (fun w t ht => ?_))
  obtain ⟨rfl, N', G', h'⟩ := ht
  refine y_g ?_ (K N' G' t h')
  unfold zcmpl
  rw [if_neg (by omega), if_pos rfl]
theorem l_turn {n : Nat} {xs : Nat → Int} {i c : Int} {N : zF} {G : yG} {σ : zF} {Q : zR → Prop} (hn : n ≤ 3072) (hz : ∀ i, zin (xs i)) (i0 : 0 ≤ i) (i1 : i + 6 ≤ n) (hI : yInv c N G σ) (c0 : 0 ≤ c) (c1 : c < 600) (K : ∀ N' G' t, yInv (c + 1) N' G' t → yT (P_L_law_18 n xs (zw (i + 6)) t) Q) : yT (P_L_law_18 n xs i σ) Q := by
  have g1 : 0 ≤ zw (i + 1) ∧ zw (i + 1) < (n : Int) := by rw [zw_i (by omega) (by omega)]; omega
  have g2 : 0 ≤ zw (i + 2) ∧ zw (i + 2) < (n : Int) := by rw [zw_i (by omega) (by omega)]; omega
  have g3 : 0 ≤ zw (i + 3) ∧ zw (i + 3) < (n : Int) := by rw [zw_i (by omega) (by omega)]; omega
  have g4 : 0 ≤ zw (i + 4) ∧ zw (i + 4) < (n : Int) := by rw [zw_i (by omega) (by omega)]; omega
  have g5 : 0 ≤ zw (i + 5) ∧ zw (i + 5) < (n : Int) := by rw [zw_i (by omega) (by omega)]; omega
  rw [e_L_law_18, zw_i (x := (n : Int) - 6) (by omega) (by omega)]
  refine y_n (by omega) (y_g (by omega) ?_)
  refine y_if (fun _ => ?_) (fun _ => ?_)
  · rw [e_L_law_c208]
    simp only [if_pos g1, if_pos g2, if_pos g3, if_pos g4, if_pos g5]
    exact l_go (o_road (hz _)) hI c0 c1 K
  refine y_if (fun _ => ?_) (fun _ => ?_)
  · rw [e_L_law_c241]
    simp only [if_pos g1, if_pos g2, if_pos g3, if_pos g4, if_pos g5]
    exact l_go (o_roads (hz _)) hI c0 c1 K
  refine y_if (fun _ => ?_) (fun _ => ?_)
  · rw [e_L_law_c284]
    simp only [if_pos g1, if_pos g2, if_pos g3, if_pos g4, if_pos g5]
    exact l_go o_traveller hI c0 c1 K
  refine y_if (fun _ => ?_) (fun _ => ?_)
  · rw [e_L_law_c307]
    simp only [if_pos g1, if_pos g2, if_pos g3, if_pos g4, if_pos g5]
    exact l_go o_mend hI c0 c1 K
  refine y_if (fun _ => ?_) (fun _ => ?_)
  · rw [e_L_law_c350]
    simp only [if_pos g1, if_pos g2, if_pos g3, if_pos g4, if_pos g5]
    exact l_go o_of hI c0 c1 K
  refine y_if (fun _ => ?_) (fun _ => ?_)
  · rw [e_L_law_c383]
    simp only [if_pos g1, if_pos g2, if_pos g3, if_pos g4, if_pos g5]
    exact l_go o_feed hI c0 c1 K
  refine y_if (fun _ => ?_) (fun _ => ?_)
  · rw [e_L_law_c406]
    exact l_go o_law hI c0 c1 K
  refine y_if (fun _ => ?_) (fun _ => ?_)
  · rw [e_L_law_c419]
    simp only [if_pos g1, if_pos g2, if_pos g3, if_pos g4, if_pos g5]
    exact l_go o_hours hI c0 c1 K
  refine y_if (fun _ => ?_) (fun _ => ?_)
  · rw [e_L_law_c442]
    simp only [if_pos g1, if_pos g2, if_pos g3, if_pos g4, if_pos g5]
    exact l_go (o_way (hz _)) hI c0 c1 K
  refine y_if (fun _ => ?_) (fun _ => ?_)
  · rw [e_L_law_c475]
    simp only [if_pos g1, if_pos g2, if_pos g3, if_pos g4, if_pos g5]
    exact l_go o_reach hI c0 c1 K
  refine y_if (fun _ => ?_) (fun _ => ?_)
  · rw [e_L_law_c518]
    simp only [if_pos g1, if_pos g2, if_pos g3, if_pos g4, if_pos g5]
    exact l_go (o_needed (hz _)) hI c0 c1 K
  refine y_if (fun _ => ?_) (fun _ => ?_)
  · rw [e_L_law_c541]
    simp only [if_pos g1, if_pos g2, if_pos g3, if_pos g4, if_pos g5]
    exact l_go (o_longer (hz _)) hI c0 c1 K
  refine y_if (fun _ => ?_) (fun _ => ?_)
  · rw [e_L_law_c574]
    simp only [if_pos g1, if_pos g2, if_pos g3, if_pos g4, if_pos g5]
    exact l_go (o_trip (hz _)) hI c0 c1 K
  refine y_if (fun _ => ?_) (fun _ => ?_)
  · rw [e_L_law_c617]
    simp only [if_pos g1, if_pos g2, if_pos g3, if_pos g4, if_pos g5]
    exact l_go o_round hI c0 c1 K
  refine y_if (fun _ => ?_) (fun _ => ?_)
  · rw [e_L_law_c660]
    simp only [if_pos g1, if_pos g2, if_pos g3, if_pos g4, if_pos g5]
    exact l_go (o_least (hz _)) hI c0 c1 K
  refine y_if (fun _ => ?_) (fun _ => ?_)
  · rw [e_L_law_c703]
    simp only [if_pos g1, if_pos g2, if_pos g3, if_pos g4, if_pos g5]
    exact l_go o_best hI c0 c1 K
  refine y_if (fun _ => ?_) (fun _ => ?_)
  · rw [e_L_law_c726]
    simp only [if_pos g1, if_pos g2, if_pos g3, if_pos g4, if_pos g5]
    exact l_go o_anger hI c0 c1 K
  refine y_if (fun _ => ?_) (fun _ => ?_)
  · rw [e_L_law_c749]
    simp only [if_pos g1, if_pos g2, if_pos g3, if_pos g4, if_pos g5]
    exact l_go o_peace hI c0 c1 K
  refine y_if (fun _ => ?_) (fun _ => ?_)
  · rw [e_L_law_c772]
    simp only [if_pos g1, if_pos g2, if_pos g3, if_pos g4, if_pos g5]
    exact l_go o_ring hI c0 c1 K
  refine y_if (fun _ => ?_) (fun _ => ?_)
  · rw [e_L_law_c805]
    simp only [if_pos g1, if_pos g2, if_pos g3, if_pos g4, if_pos g5]
    exact l_go o_judge hI c0 c1 K
  refine y_if (fun _ => ?_) (fun _ => ?_)
  · rw [e_L_law_c828]
    simp only [if_pos g1, if_pos g2, if_pos g3, if_pos g4, if_pos g5]
    exact l_go o_sunday hI c0 c1 K
  refine y_if (fun _ => ?_) (fun _ => ?_)
  · rw [e_L_law_c861]
    simp only [if_pos g1, if_pos g2, if_pos g3, if_pos g4, if_pos g5]
    exact l_go (o_byTurns (hz _)) hI c0 c1 K
  refine y_if (fun _ => ?_) (fun _ => ?_)
  · rw [e_L_law_c904]
    simp only [if_pos g1, if_pos g2, if_pos g3, if_pos g4, if_pos g5]
    exact l_go (o_drawn (hz _)) hI c0 c1 K
  refine y_if (fun _ => ?_) (fun _ => ?_)
  · rw [e_L_law_c947]
    simp only [if_pos g1, if_pos g2, if_pos g3, if_pos g4, if_pos g5]
    exact l_go o_goes hI c0 c1 K
  refine y_if (fun _ => ?_) (fun _ => ?_)
  · rw [e_L_law_c990]
    exact l_go o_night hI c0 c1 K
  refine y_if (fun _ => ?_) (fun _ => ?_)
  · rw [e_L_law_c1003]
    simp only [if_pos g1, if_pos g2, if_pos g3, if_pos g4, if_pos g5]
    exact l_go o_led hI c0 c1 K
  refine y_if (fun _ => ?_) (fun _ => ?_)
  · rw [e_L_law_c1026]
    exact l_go o_image hI c0 c1 K
  refine y_if (fun _ => ?_) (fun _ => ?_)
  · rw [e_L_law_c1039]
    exact l_go o_back hI c0 c1 K
  refine y_if (fun _ => ?_) (fun _ => ?_)
  · rw [e_L_law_c1052]
    exact l_go o_undo hI c0 c1 K
  refine y_if (fun _ => ?_) (fun _ => ?_)
  · rw [e_L_law_c1065]
    exact l_go o_redo hI c0 c1 K
  refine y_if (fun _ => ?_) (fun _ => ?_)
  · rw [e_L_law_c1078]
    simp only [if_pos g1, if_pos g2, if_pos g3, if_pos g4, if_pos g5]
    exact l_go o_body hI c0 c1 K
  refine y_if (fun _ => ?_) (fun _ => ?_)
  · rw [e_L_law_c1101]
    simp only [if_pos g1, if_pos g2, if_pos g3, if_pos g4, if_pos g5]
    exact l_go o_act hI c0 c1 K
  refine y_if (fun _ => ?_) (fun _ => ?_)
  · rw [e_L_law_c1144]
    simp only [if_pos g1, if_pos g2, if_pos g3, if_pos g4, if_pos g5]
    exact l_go o_trace hI c0 c1 K
  refine y_if (fun _ => ?_) (fun _ => ?_)
  · rw [e_L_law_c1167]
    simp only [if_pos g1, if_pos g2, if_pos g3, if_pos g4, if_pos g5]
    exact l_go o_keep hI c0 c1 K
  refine y_if (fun _ => ?_) (fun _ => ?_)
  · rw [e_L_law_c1200]
    simp only [if_pos g1, if_pos g2, if_pos g3, if_pos g4, if_pos g5]
    exact l_go o_row hI c0 c1 K
  refine y_if (fun _ => ?_) (fun _ => ?_)
  · rw [e_L_law_c1243]
    simp only [if_pos g1, if_pos g2, if_pos g3, if_pos g4, if_pos g5]
    exact l_go o_put hI c0 c1 K
  refine y_if (fun _ => ?_) (fun _ => ?_)
  · rw [e_L_law_c1316]
    simp only [if_pos g1, if_pos g2, if_pos g3, if_pos g4, if_pos g5]
    exact l_goJ o_element hI c0 c1 K
  refine y_if (fun _ => ?_) (fun _ => ?_)
  · rw [e_L_law_c1350]
    simp only [if_pos g1, if_pos g2, if_pos g3, if_pos g4, if_pos g5]
    exact l_go (o_shift (hz _) (hz _) (hz _)) hI c0 c1 K
  refine y_if (fun _ => ?_) (fun _ => ?_)
  · rw [e_L_law_c1413]
    simp only [if_pos g1, if_pos g2, if_pos g3, if_pos g4, if_pos g5]
    exact l_go o_taken hI c0 c1 K
  refine y_if (fun _ => ?_) (fun _ => ?_)
  · rw [e_L_law_c1446]
    simp only [if_pos g1, if_pos g2, if_pos g3, if_pos g4, if_pos g5]
    exact l_go o_count hI c0 c1 K
  exact K N G σ (yInv_id hI)
theorem l_loop {n : Nat} {xs : Nat → Int} (hn : n ≤ 3072) (hz : ∀ i, zin (xs i)) : ∀ (j : Nat) (i c : Int) (N : zF) (G : yG) (σ : zF), i = 6 * c → 0 ≤ c → (n : Int) < i + 6 * (j + 1) → yInv c N G σ → yT (P_L_law_18 n xs i σ) (yI fun v _ => v = 1) := by
  intro j
  induction j with
  | zero =>
    intro i c N G σ hi c0 hj hI
    rw [e_L_law_18]
    by_cases h : (n : Int) < 6
    · rw [zw_i (x := (n : Int) - 6) (by omega) (by omega)]
      exact y_g (by omega) (y_i rfl)
    · rw [zw_i (x := (n : Int) - 6) (by omega) (by omega)]
      exact y_g (by omega) (y_i rfl)
  | succ j ih =>
    intro i c N G σ hi c0 hj hI
    by_cases h : (n : Int) - 6 < i
    · rw [e_L_law_18, zw_i (x := (n : Int) - 6) (by omega) (by omega)]
      exact y_g h (y_i rfl)
    · refine l_turn hn hz (by omega) (by omega) hI c0 (by omega) (fun N' G' t h' => ?_)
      rw [zw_i (x := i + 6) (by omega) (by omega)]
      exact ih (i + 6) (c + 1) N' G' t (by omega) (by omega) (by omega) h'
