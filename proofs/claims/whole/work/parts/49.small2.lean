/-! images; roads, travellers, bodies, bytes come -/
theorem m_img56 {d : Nat} {σ0 : zF} {Q : zR → Prop} (hQ : ∀ σ : zF, (∀ i, 0 ≤ i → i < 5 → σ 77 i = σ0 74 i) → yf ([77], []) σ0 σ → yT (zri (σ 74 0) σ) Q) : ∀ (j : Nat) (k : Int) (σ : zF), 0 ≤ k → k + j = 5 → (∀ i, 0 ≤ i → i < k → σ 77 i = σ0 74 i) → yf ([77], []) σ0 σ → yT (P_X12_image_56 d k σ) Q := by
  intro j
  induction j with
  | zero =>
    intro k σ k0 hk h f
    rw [e_X12_image_56]
    rw [show k = 5 by omega] at h ⊢
    exact y_n (by omega) (y_g (by decide) (hQ σ h f))
  | succ j ih =>
    intro k σ k0 hk h f
    rw [e_X12_image_56, zw_i (x := k + 1) (by omega) (by omega)]
    refine y_g (by omega) (y_g (by omega) (y_g (by omega) (ih (k + 1) _ (by omega) (by omega) (fun i a b => ?_) (yf_set f rfl))))
    by_cases e : i = k
    · rw [zset_hit e, e, f 74 k rfl]
    · rw [zset_off e]
      exact h i a (by omega)
theorem m_img31 {d : Nat} {σ0 : zF} {Q : zR → Prop} (hQ : ∀ σ : zF, (∀ i, 0 ≤ i → i < 4 → σ 76 i = σ0 61 i) → yf ([76], []) σ0 σ → yT (P_X12_image_56 d 0 σ) Q) : ∀ (j : Nat) (k : Int) (σ : zF), 0 ≤ k → k + j = 4 → (∀ i, 0 ≤ i → i < k → σ 76 i = σ0 61 i) → yf ([76], []) σ0 σ → yT (P_X12_image_31 d k σ) Q := by
  intro j
  induction j with
  | zero =>
    intro k σ k0 hk h f
    rw [e_X12_image_31]
    rw [show k = 4 by omega] at h ⊢
    exact y_n (by omega) (hQ σ h f)
  | succ j ih =>
    intro k σ k0 hk h f
    rw [e_X12_image_31, zw_i (x := k + 1) (by omega) (by omega)]
    refine y_g (by omega) (y_g (by omega) (y_g (by omega) (ih (k + 1) _ (by omega) (by omega) (fun i a b => ?_) (yf_set f rfl))))
    by_cases e : i = k
    · rw [zset_hit e, e, f 61 k rfl]
    · rw [zset_off e]
      exact h i a (by omega)
theorem zcpy0 {σ : zF} {k k2 : Nat} {n i : Int} (h : 0 ≤ i ∧ i < n) : zcpy σ k 0 k2 0 n k2 i = σ k i := by
  rw [zcpy_eq, if_pos ⟨rfl, h.1, by omega⟩, Int.zero_add, Int.sub_zero]
theorem zcpy_k {σ : zF} {k k2 k3 : Nat} {sp dp n i : Int} (h : ¬ k3 = k2) : zcpy σ k sp k2 dp n k3 i = σ k3 i := by
  rw [zcpy_eq, if_neg (fun q => h q.1)]
theorem zcpy_b {σ : zF} {k k2 : Nat} {n i : Int} (h : ¬ i < n) : zcpy σ k 0 k2 0 n k2 i = σ k2 i := by
  rw [zcpy_eq, if_neg (fun q => h (by omega))]
theorem o_image : yStep 132 233 [] := by
  intro d hd c N G σ hI c0 c1
  obtain ⟨d, rfl, hd'⟩ := y_d hd; have hd := hd'
  obtain ⟨n1, n2, n3, n4⟩ := yI_n hI
  have hB := hI.1.1
  have hC := hI.1.2.1
  have hY := hI.2.1
  obtain ⟨hTr, hLd, hTp, hHs, hIm, hSt, hSh⟩ := hI.2.2.2
  have r05 : 0 ≤ (0 : Int) ∧ 0 < 5 := by decide
  rw [e_X11_image]
  have e6 : zx d 6 [.inl (some 37)] σ = zrv (zcpy (zcpy (zcpy (zset (zset (zset σ 37 1 1) 37 2 (σ 1 0)) 37 3 (σ 1 1)) 5 0 38 0 (σ 1 0)) 8 0 39 0 (σ 1 1)) 10 0 40 0 5) := by
    obtain ⟨d, rfl, hd'⟩ := y_d (k := 140) (d := d) (by omega)
    have t1 := hTr.2.1
    have t2 := hTr.2.2.1
    rw [e_X1_take, if_pos (by omega), if_pos (by omega), if_pos (by omega)]
  rw [e6, zCV_rv]
  have f : yf ([38, 39, 40], [(37, 1), (37, 2), (37, 3)]) σ (zcpy (zcpy (zcpy (zset (zset (zset σ 37 1 1) 37 2 (σ 1 0)) 37 3 (σ 1 1)) 5 0 38 0 (σ 1 0)) 8 0 39 0 (σ 1 1)) 10 0 40 0 5) := yf_cpy (yf_cpy (yf_cpy (yf_set (yf_set (yf_set yf_rf rfl) rfl) rfl) rfl) rfl) rfl
  have q38 : ∀ i, 0 ≤ i → i < N 0 0 → (zcpy (zcpy (zcpy (zset (zset (zset σ 37 1 1) 37 2 (σ 1 0)) 37 3 (σ 1 1)) 5 0 38 0 (σ 1 0)) 8 0 39 0 (σ 1 1)) 10 0 40 0 5) 38 i = N 6 i := by
    intro i a b
    rw [zcpy_k (by decide), zcpy_k (by decide), zcpy0 (by omega)]
    exact (hC.2.2 i a (by omega)).2.2.2.2.2
  have q39 : ∀ i, 0 ≤ i → i < σ 1 1 → (zcpy (zcpy (zcpy (zset (zset (zset σ 37 1 1) 37 2 (σ 1 0)) 37 3 (σ 1 1)) 5 0 38 0 (σ 1 0)) 8 0 39 0 (σ 1 1)) 10 0 40 0 5) 39 i = σ 8 i := by
    intro i a b
    rw [zcpy_k (by decide), zcpy0 (by omega)]
    rw [zcpy_k (by decide)]
    rfl
  have q40 : ∀ i, 0 ≤ i → i < 5 → (zcpy (zcpy (zcpy (zset (zset (zset σ 37 1 1) 37 2 (σ 1 0)) 37 3 (σ 1 1)) 5 0 38 0 (σ 1 0)) 8 0 39 0 (σ 1 1)) 10 0 40 0 5) 40 i = σ 10 i := by
    intro i a b
    rw [zcpy0 (by omega), zcpy_k (by decide), zcpy_k (by decide)]
    rfl
  have q371 : (zcpy (zcpy (zcpy (zset (zset (zset σ 37 1 1) 37 2 (σ 1 0)) 37 3 (σ 1 1)) 5 0 38 0 (σ 1 0)) 8 0 39 0 (σ 1 1)) 10 0 40 0 5) 37 1 = 1 := rfl
  have q372 : (zcpy (zcpy (zcpy (zset (zset (zset σ 37 1 1) 37 2 (σ 1 0)) 37 3 (σ 1 1)) 5 0 38 0 (σ 1 0)) 8 0 39 0 (σ 1 1)) 10 0 40 0 5) 37 2 = σ 1 0 := rfl
  have q373 : (zcpy (zcpy (zcpy (zset (zset (zset σ 37 1 1) 37 2 (σ 1 0)) 37 3 (σ 1 1)) 5 0 38 0 (σ 1 0)) 8 0 39 0 (σ 1 1)) 10 0 40 0 5) 37 3 = σ 1 1 := rfl
  generalize (zcpy (zcpy (zcpy (zset (zset (zset σ 37 1 1) 37 2 (σ 1 0)) 37 3 (σ 1 1)) 5 0 38 0 (σ 1 0)) 8 0 39 0 (σ 1 1)) 10 0 40 0 5) = s at f q38 q39 q40 q371 q372 q373
  refine y_g r05 (y_i ?_)
  rw [e_X12_image]
  have fz : yf ([], [(57, 26), (57, 27), (57, 28)]) s (zset (zset (zset s 57 26 1) 57 27 (s 57 0)) 57 28 (s 57 4)) := yf_set (yf_set (yf_set yf_rf rfl) rfl) rfl
  have hYs := yY_f hY f (by decide)
  refine y_cV (m_keep75 (by omega) (yM_f hYs.2.2.2.1 fz (by decide))) (fun t ht => ?_)
  refine m_img31 (σ0 := t) (fun u hu fu => ?_) 4 0 t (by omega) (by omega) (fun i a b => by omega) yf_rf
  refine m_img56 (σ0 := u) (fun w hw fw => y_i ?_) 5 0 u (by omega) (by omega) (fun i a b => by omega) yf_rf
  have fA : yf ([75, 76, 77], [(57, 26), (57, 27), (57, 28)]) s w := yf_tr (yf_le fz (by decide)) (yf_tr (yf_le ht.2 (by decide)) (yf_tr (yf_le fu (by decide)) (yf_le fw (by decide))))
  have fB : yf ([38, 39, 40, 75, 76, 77], [(37, 1), (37, 2), (37, 3), (57, 26), (57, 27), (57, 28)]) σ w := yf_tr (yf_le f (by decide)) (yf_le fA (by decide))
  refine ⟨?_, N, G, yP_f hI.1 fB (by decide), yY_f hY fB (by decide), ?_, yTr_g (yf_g fB (by decide)) hTr, yLd_g (yf_g fB (by decide)) hLd, yTp_g (yf_g fB (by decide)) hTp, yHs_g (yf_g fB (by decide)) hHs, ?_, ySt_g (yf_g fB (by decide)) hSt, ySh_g (yf_g fB (by decide)) hSh⟩
  · rw [fB 74 0 rfl, f 10 0 rfl]
    exact (hLd 0 (by decide) (by decide)).symm
  · rw [fB 17 5 rfl]
    have := hI.2.2.1
    omega
  · have w26 : w 57 26 = 1 := by rw [fw 57 26 rfl, fu 57 26 rfl, ht.2 57 26 rfl]; rfl
    have w27 : w 57 27 = N 0 0 := by
      rw [fw 57 27 rfl, fu 57 27 rfl, ht.2 57 27 rfl]
      show s 57 0 = _
      rw [f 57 0 rfl, n2]
    have w28 : w 57 28 = σ 1 1 := by
      rw [fw 57 28 rfl, fu 57 28 rfl, ht.2 57 28 rfl]
      show s 57 4 = _
      rw [f 57 4 rfl, hTr.1]
    have w371 : w 37 1 = 1 := by rw [fA 37 1 rfl]; exact q371
    have w372 : w 37 2 = N 0 0 := by rw [fA 37 2 rfl, q372]; exact n1
    have w373 : w 37 3 = σ 1 1 := by rw [fA 37 3 rfl]; exact q373
    unfold yIm
    rw [w26, w27, w28, w371, w372, w373, fB 1 0 rfl, fB 1 1 rfl, n1]
    refine ⟨rfl, rfl, rfl, n3, Int.le_refl _, hTr.2.1, Int.le_refl _, fun i a b => ?_, fun i a b => ?_, fun i a b => ?_⟩
    · have e75 : w 75 i = N 6 i := by rw [fw 75 i rfl, fu 75 i rfl]; exact ht.1 i a (by omega)
      rw [fA 38 i rfl, q38 i a b, e75]
      have := hB.2.2.2.1 i a (by omega)
      exact ⟨rfl, this.1, this.2⟩
    · have t2 := hTr.2.2.1
      have q := hTr.2.2.2 i a (by omega)
      have e76 : w 76 i = σ 61 i := by
        rw [fw 76 i rfl, hu i a (by omega), ht.2 61 i rfl]
        show s 61 i = _
        rw [f 61 i rfl]
      rw [fA 39 i rfl, q39 i a b, e76]
      have := q.2.2 b
      exact ⟨q.1, this.1, this.2.1⟩
    · have e77 : w 77 i = σ 74 i := by
        rw [hw i a b, fu 74 i rfl, ht.2 74 i rfl]
        show s 74 i = _
        rw [f 74 i rfl]
      rw [fA 40 i rfl, q40 i a b, e77]
      exact hLd i a b
/-! laid back -/
theorem m_bk71 {d : Nat} {σ0 : zF} {Q : zR → Prop} (hQ : ∀ σ : zF, (∀ i, 0 ≤ i → i < 5 → σ 74 i = σ0 77 i) → yf ([74], []) σ0 σ → yT (zri (σ 74 0) σ) Q) : ∀ (j : Nat) (k : Int) (σ : zF), 0 ≤ k → k + j = 5 → (∀ i, 0 ≤ i → i < k → σ 74 i = σ0 77 i) → yf ([74], []) σ0 σ → yT (P_X12_back_71 d k σ) Q := by
  intro j
  induction j with
  | zero =>
    intro k σ k0 hk h f
    rw [e_X12_back_71]
    rw [show k = 5 by omega] at h ⊢
    exact y_n (by omega) (y_g (by decide) (hQ σ h f))
  | succ j ih =>
    intro k σ k0 hk h f
    rw [e_X12_back_71, zw_i (x := k + 1) (by omega) (by omega)]
    refine y_g (by omega) (y_g (by omega) (y_g (by omega) (ih (k + 1) _ (by omega) (by omega) (fun i a b => ?_) (yf_set f rfl))))
    by_cases e : i = k
    · rw [zset_hit e, e, f 77 k rfl]
    · rw [zset_off e]
      exact h i a (by omega)
theorem m_bk43 {d : Nat} {σ0 : zF} {n : Int} {Q : zR → Prop} (hn : 0 ≤ n ∧ n ≤ 4) (h28 : σ0 57 28 = n) (hQ : ∀ σ : zF, (∀ i, 0 ≤ i → i < 4 → σ 61 i = if i < n then σ0 76 i else σ0 61 i) → yf ([61], []) σ0 σ → yT (P_X12_back_71 d 0 σ) Q) : ∀ (j : Nat) (k : Int) (σ : zF), 0 ≤ k → k + j = n → (∀ i, 0 ≤ i → i < 4 → σ 61 i = if i < k then σ0 76 i else σ0 61 i) → yf ([61], []) σ0 σ → yT (P_X12_back_43 d k σ) Q := by
  intro j
  induction j with
  | zero =>
    intro k σ k0 hk h f
    rw [e_X12_back_43, f 57 28 rfl, h28]
    rw [show k = n by omega] at h ⊢
    exact y_n (by omega) (hQ σ h f)
  | succ j ih =>
    intro k σ k0 hk h f
    rw [e_X12_back_43, f 57 28 rfl, h28, zw_i (x := k + 1) (by omega) (by omega)]
    refine y_g (by omega) (y_g (by omega) (y_g (by omega) (ih (k + 1) _ (by omega) (by omega) (fun i a b => ?_) (yf_set f rfl))))
    by_cases e : i = k
    · rw [zset_hit e, e, if_pos (by omega), f 76 k rfl]
    · rw [zset_off e, h i a b]
      exact y_cc (by omega)
theorem m_bk12 {d : Nat} {σ0 N : zF} {p m0 : Int → Int} {n : Int} {Q : zR → Prop} (hn : 0 ≤ n ∧ n ≤ 12) (h27 : σ0 57 27 = n) (hQ : ∀ σ : zF, yM N p (fun i => if i < n then σ0 75 i else m0 i) σ → yf ([60], []) σ0 σ → yT (P_X12_back_43 d 0 σ) Q) : ∀ (j : Nat) (k : Int) (σ : zF), 0 ≤ k → k + j = n → yM N p (fun i => if i < k then σ0 75 i else m0 i) σ → yf ([60], []) σ0 σ → yT (P_X12_back_12 d k σ) Q := by
  intro j
  induction j with
  | zero =>
    intro k σ k0 hk h f
    rw [e_X12_back_12, f 57 27 rfl, h27]
    rw [show k = n by omega] at h ⊢
    exact y_n (by omega) (hQ σ h f)
  | succ j ih =>
    intro k σ k0 hk h f
    rw [e_X12_back_12, f 57 27 rfl, h27, zw_i (x := k + 1) (by omega) (by omega), zw_i (x := 12 + k) (by omega) (by omega), f 75 k rfl]
    refine y_g (by omega) (y_g (by omega) (y_g (by omega) (ih (k + 1) _ (by omega) (by omega) (yM_set k0 (by omega) h ?_ (fun c a b hc => ?_)) (yf_set f rfl))))
    · show (if k < k + 1 then _ else _) = _
      rw [if_pos (by omega)]
    · show (if c < k + 1 then σ0 75 c else m0 c) = if c < k then σ0 75 c else m0 c
      exact y_cc (by omega)
theorem o_back : yStep 133 234 [] := by
  intro d hd c N G σ hI c0 c1
  obtain ⟨d, rfl, hd'⟩ := y_d hd; have hd := hd'
  obtain ⟨n1, n2, n3, n4⟩ := yI_n hI
  have hB := hI.1.1
  have hC := hI.1.2.1
  have hY := hI.2.1
  obtain ⟨hTr, hLd, hTp, hHs, hIm, hSt, hSh⟩ := hI.2.2.2
  obtain ⟨i1, i2, i3, i4, i5, i6, i7, i8, i9, i10⟩ := hIm
  have t1 := hTr.2.1
  have t2 := hTr.2.2.1
  have r05 : 0 ≤ (0 : Int) ∧ 0 < 5 := by decide
  rw [e_X11_back]
  refine y_if (fun h => y_i ?_) (fun h => ?_)
  · rw [e_X12_back, ← i1, if_pos h]
    exact y_i ⟨rfl, N, G, yInv_id hI⟩
  · have e7 : zx d 7 [.inl (some 37)] σ = zrv (zcpy (zcpy (zcpy σ 38 0 5 0 (σ 37 2)) 39 0 8 0 (σ 37 3)) 40 0 10 0 5) := by
      obtain ⟨d, rfl, hd'⟩ := y_d (k := 140) (d := d) (by omega)
      rw [e_X1_layBack, if_pos (by omega), if_pos (by omega), if_pos (by omega)]
    rw [e7, zCV_rv]
    have f : yf ([5, 8, 10], []) σ (zcpy (zcpy (zcpy σ 38 0 5 0 (σ 37 2)) 39 0 8 0 (σ 37 3)) 40 0 10 0 5) := yf_cpy (yf_cpy (yf_cpy yf_rf rfl) rfl) rfl
    have q5 : ∀ i, 0 ≤ i → (zcpy (zcpy (zcpy σ 38 0 5 0 (σ 37 2)) 39 0 8 0 (σ 37 3)) 40 0 10 0 5) 5 i = if i < σ 37 2 then σ 38 i else σ 5 i := by
      intro i a
      rw [zcpy_k (by decide), zcpy_k (by decide)]
      by_cases e : i < σ 37 2
      · rw [zcpy0 ⟨a, e⟩, if_pos e]
      · rw [zcpy_b e, if_neg e]
    have q8 : ∀ i, 0 ≤ i → (zcpy (zcpy (zcpy σ 38 0 5 0 (σ 37 2)) 39 0 8 0 (σ 37 3)) 40 0 10 0 5) 8 i = if i < σ 37 3 then σ 39 i else σ 8 i := by
      intro i a
      rw [zcpy_k (by decide)]
      by_cases e : i < σ 37 3
      · rw [zcpy0 ⟨a, e⟩, if_pos e, zcpy_k (by decide)]
      · rw [zcpy_b e, if_neg e, zcpy_k (by decide)]
    have q10 : ∀ i, 0 ≤ i → i < 5 → (zcpy (zcpy (zcpy σ 38 0 5 0 (σ 37 2)) 39 0 8 0 (σ 37 3)) 40 0 10 0 5) 10 i = σ 40 i := by
      intro i a b
      rw [zcpy0 ⟨a, b⟩, zcpy_k (by decide), zcpy_k (by decide)]
    generalize (zcpy (zcpy (zcpy σ 38 0 5 0 (σ 37 2)) 39 0 8 0 (σ 37 3)) 40 0 10 0 5) = s at f q5 q8 q10
    refine y_g r05 (y_i ?_)
    rw [e_X12_back, f 57 26 rfl, ← i1, if_neg h]
    have hYs := yY_f hY f (by decide)
    refine m_bk12 (σ0 := s) (N := N) (p := N 5) (m0 := N 6) (n := σ 37 2) ⟨i4, by omega⟩ (by rw [f 57 27 rfl, i2]) (fun t hM ft => ?_) (σ 37 2).toNat 0 s (by omega) (by omega) ?_ yf_rf
    · refine m_bk43 (σ0 := t) (n := σ 37 3) ⟨i6, by omega⟩ (by rw [ft 57 28 rfl, f 57 28 rfl, i3]) (fun u hu fu => ?_) (σ 37 3).toNat 0 t (by omega) (by omega) (fun i a b => by rw [if_neg (by omega)]) yf_rf
      refine m_bk71 (σ0 := u) (fun w hw fw => y_i ?_) 5 0 u (by omega) (by omega) (fun i a b => by omega) yf_rf
      have fA : yf ([60, 61, 74], []) s w := yf_tr (yf_le ft (by decide)) (yf_tr (yf_le fu (by decide)) (yf_le fw (by decide)))
      have fB : yf ([5, 8, 10, 60, 61, 74], []) σ w := yf_tr (yf_le f (by decide)) (yf_le fA (by decide))
      have w74 : ∀ i, 0 ≤ i → i < 5 → w 74 i = σ 40 i := by
        intro i a b
        rw [hw i a b, fu 77 i rfl, ft 77 i rfl, f 77 i rfl]
        exact (i10 i a b).symm
      refine ⟨?_, yN2 N (fun i => if i < σ 37 2 then σ 38 i else N 6 i) (σ 40 4), G, yInv2 hI (by decide) fB (fun r a b => ?_) (fun r a b => ?_) (fun r a b => ?_) ?_ (w74 4 (by decide) (by decide)) (fun r a b => ?_) ?_⟩
      · rw [w74 0 (by decide) (by decide), q10 0 (by decide) (by decide)]
      · show -9 ≤ (if r < σ 37 2 then σ 38 r else N 6 r) ∧ (if r < σ 37 2 then σ 38 r else N 6 r) ≤ 9
        by_cases e : r < σ 37 2
        · rw [if_pos e]; exact (i8 r a e).2
        · rw [if_neg e]; exact hB.2.2.2.1 r a b
      · show (if r < σ 37 2 then σ 38 r else N 6 r) = 0
        rw [if_neg (by omega)]
        exact (hB.2.2.2.2 r a b).1
      · show w 5 r = if r < σ 37 2 then σ 38 r else N 6 r
        rw [fA 5 r rfl, q5 r a]
        by_cases e : r < σ 37 2
        · rw [if_pos e, if_pos e]
        · rw [if_neg e, if_neg e]; exact (hC.2.2 r a b).2.2.2.2.2
      · rw [fA 10 4 rfl]; exact q10 4 (by decide) (by decide)
      · have q := hM.2.2 r a b
        have e60 : ∀ i, w 60 i = t 60 i := fun i => by rw [fw 60 i rfl, fu 60 i rfl]
        refine ⟨(e60 _).trans q.2.2.1, (e60 _).trans q.2.2.2.1, (e60 _).trans q.2.2.2.2.1, (e60 _).trans (q.2.2.2.2.2.trans ?_)⟩
        show (if r < σ 37 2 then s 75 r else N 6 r) = if r < σ 37 2 then σ 38 r else N 6 r
        by_cases e : r < σ 37 2
        · rw [if_pos e, if_pos e, f 75 r rfl]; exact (i8 r a e).1.symm
        · rw [if_neg e, if_neg e]
      · refine ⟨⟨?_, ?_, ?_, fun i a b => ?_⟩, fun i a b => ?_, yTp_g (yf_g fB (by decide)) hTp, yHs_g (yf_g fB (by decide)) hHs, yIm_g (yf_g fB (by decide)) ⟨i1, i2, i3, i4, i5, i6, i7, i8, i9, i10⟩, ySt_g (yf_g fB (by decide)) hSt, ySh_g (yf_g fB (by decide)) hSh⟩
        · rw [fB 1 1 rfl, fB 57 4 rfl]; exact hTr.1
        · rw [fB 1 1 rfl]; exact t1
        · rw [fB 1 1 rfl]; exact t2
        · have q := hTr.2.2.2 i a b
          have e8 : w 8 i = if i < σ 37 3 then σ 39 i else σ 8 i := by rw [fA 8 i rfl]; exact q8 i a
          have e61 : w 61 i = if i < σ 37 3 then σ 76 i else σ 61 i := by
            rw [fw 61 i rfl, hu i a b, ft 76 i rfl, f 76 i rfl, ft 61 i rfl, f 61 i rfl]
          rw [e8, e61, fB 9 i rfl, fB 62 i rfl, fB 1 1 rfl]
          by_cases e : i < σ 37 3
          · have z := i9 i a e
            rw [if_pos e, if_pos e]
            exact ⟨z.1, q.2.1, fun hi => ⟨z.2.1, z.2.2, (q.2.2 hi).2.2⟩⟩
          · rw [if_neg e, if_neg e]
            exact q
        · rw [fA 10 i rfl, q10 i a b]
          exact (w74 i a b).symm
    · have z : (fun i : Int => if i < 0 then s 75 i else N 6 i) = fun i => if i < 0 then s 75 i else N 6 i := rfl
      refine ⟨hYs.2.2.2.1.1, hYs.2.2.2.1.2.1, fun r a b => ?_⟩
      have q := hYs.2.2.2.1.2.2 r a b
      refine ⟨q.1, q.2.1, q.2.2.1, q.2.2.2.1, q.2.2.2.2.1, ?_⟩
      show s 60 (12 + r) = if r < 0 then s 75 r else N 6 r
      rw [if_neg (by omega)]
      exact q.2.2.2.2.2
