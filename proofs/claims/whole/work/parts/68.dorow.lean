/-! row itself -/
theorem y_rowI {c : Int} {N : zF} {G : yG} {σ t : zF} {x k n : Int} (hI : yInv c N G σ) (g0 : 0 ≤ x) (g1 : x < 6) (hk : 0 ≤ k ∧ k ≤ 4) (hn : 0 ≤ n ∧ n ≤ 60) (t0 : t (ysh x) 0 = k) (t1 : t (ysh x) 1 = n) (t2 : t (ysh x) 2 = -1) (t3 : ∀ i, 0 ≤ i → i < 60 → t (ysr x) i = 0) (t81 : t 81 x = k) (t82 : t 82 x = n) (t83 : ∀ j, t 83 j = if 60 * x ≤ j ∧ j < 60 * x + 60 then 0 else σ 83 j) (o81 : ∀ s, ¬ s = x → t 81 s = σ 81 s) (o82 : ∀ s, ¬ s = x → t 82 s = σ 82 s) (o : ∀ k i, ¬ k = ysh x → ¬ k = ysr x → ¬ k = 81 → ¬ k = 82 → ¬ k = 83 → t k i = σ k i) : yInv (c + 1) N G t := by
  have hSh := hI.2.2.2.2.2.2.2.2.2
  have kb := ysh_b g0 g1
  have f : yf yAsv σ t := fun q i hq => by
    refine o q i (fun e => ?_) (fun e => ?_) (fun e => ?_) (fun e => ?_) (fun e => ?_)
    · rw [e, yin_sh g0 g1] at hq; exact absurd hq (by decide)
    · rw [e, yin_sr g0 g1] at hq; exact absurd hq (by decide)
    · subst e; exact absurd (show yin yAsv 81 i = true from rfl) (by rw [hq]; decide)
    · subst e; exact absurd (show yin yAsv 82 i = true from rfl) (by rw [hq]; decide)
    · subst e; exact absurd (show yin yAsv 83 i = true from rfl) (by rw [hq]; decide)
  refine yInv_sv hI f (fun s h0 h1 => ?_)
  have sb := ysh_b h0 h1
  have z := hSh s h0 h1
  unfold ySh1 at z ⊢
  by_cases e : s = x
  · subst e
    rw [t0, t1, t2, t81, t82, f 41 0 rfl]
    refine ⟨hn.1, hn.2, rfl, Or.inr (Or.inr ⟨hk.1, hk.2, rfl, rfl⟩), fun i i0 i1 => ?_⟩
    rw [t3 i i0 i1, t83, if_pos (by omega)]
    exact ⟨rfl, fun _ => by omega⟩
  · have q := ysh_ne h0 h1 g0 g1 e
    have q2 : ¬ ysh s = ysr x := fun h => ysr_sh g0 g1 h0 h1 h.symm
    have q3 : ¬ ysr s = ysr x := by unfold ysr; omega
    have q4 := ysr_sh h0 h1 g0 g1
    have tj : ∀ i, t (ysh s) i = σ (ysh s) i := fun i => o _ _ q q2 (by omega) (by omega) (by omega)
    have tr : ∀ i, t (ysr s) i = σ (ysr s) i := fun i => o _ _ q4 q3 (by omega) (by omega) (by omega)
    rw [tj, tj, tj, o81 s e, o82 s e, f 41 0 rfl]
    refine ⟨z.1, z.2.1, z.2.2.1, z.2.2.2.1, fun i i0 i1 => ?_⟩
    rw [tr, t83, if_neg (by omega)]
    exact z.2.2.2.2 i i0 i1
theorem o_row {x1 x2 x3 : Int} : yStep 140 245 [.inr (.inl x1), .inr (.inl x2), .inr (.inl x3)] := by
  intro d hd c N G σ hI c0 c1
  obtain ⟨d, rfl, hd'⟩ := y_d hd; have hd := hd'
  have hi := yInv_id hI
  rw [e_X11_row, k_isShelf (by omega), zCI_ri, y01]
  by_cases h : 0 ≤ x1 ∧ x1 < 6
  · have kb := ysh_b h.1 h.2
    rw [if_pos h, y_rg]
    by_cases h2 : 0 ≤ x2 ∧ x2 ≤ 4
    · rw [if_pos h2]
      refine y_if (fun h3 => y_i ?_) (fun h3 => y_if (fun h4 => y_i ?_) (fun h4 => ?_))
      · rw [e_X12_row, k_mShelf (by omega), zCI_ri, y01, if_pos h, k_within (by omega), zCI_ri, y01, if_pos h2, if_pos h3]
        exact y_i ⟨rfl, N, G, hi⟩
      · rw [e_X12_row, k_mShelf (by omega), zCI_ri, y01, if_pos h, k_within (by omega), zCI_ri, y01, if_pos h2, if_neg h3, if_pos h4]
        exact y_i ⟨rfl, N, G, hi⟩
      · obtain ⟨d, rfl, hd'⟩ := y_d hd; have hd := hd'
        rw [k_zaa h.1 h.2, k_cls h.1 h.2]
        refine y_b rfl ?_
        obtain ⟨d', rfl, hd''⟩ := y_d (k := 147) (d := d) (by omega)
        rw [e_X7_holdRow, k_put0 h.1 h.2, k_put1 h.1 h.2, k_put2 h.1 h.2, k_fld3 h.1 h.2, e_J7_fill_d0a16, k_zlen h.1 h.2]
        have q4 := ysr_sh h.1 h.2 h.1 h.2
        obtain ⟨s, s1, s2, s3⟩ := c_fillS (d := d') h.1 h.2 60 0 (zset (zset (zset σ (ysh x1) 0 x2) (ysh x1) 1 x3) (ysh x1) 2 (-1)) (by omega) (by omega)
        rw [show (((60 : Nat) : Int)) = 60 from rfl, s1, zCV_rv, zCV_rv]
        refine y_i ?_
        rw [e_X12_row, k_mShelf (by omega), zCI_ri, y01, if_pos h, k_within (by omega), zCI_ri, y01, if_pos h2, if_neg h3, if_neg h4, if_pos h, if_pos h]
        obtain ⟨t, t1, t2, t3⟩ := m_fillS (d := d' + 1 + 1) h.1 h.2 60 0 (zset (zset s 81 x1 x2) 82 x1 x3) (by omega) (by omega)
        rw [t1]
        have low : ∀ k i, ¬ k = 81 → ¬ k = 82 → ¬ k = 83 → t k i = s k i := fun k i a b e => (t3 k i e).trans ((zset_k b).trans (zset_k a))
        refine y_i ⟨rfl, N, G, y_rowI (k := x2) (n := x3) hI h.1 h.2 h2 ⟨by omega, by omega⟩ ?_ ?_ ?_ (fun i i0 i1 => ?_) ?_ ?_ (fun j => ?_) (fun s' e => ?_) (fun s' e => ?_) (fun k i a1 a2 a3 a4 a5 => ?_)⟩
        · rw [low _ _ (by omega) (by omega) (by omega), s3 _ _ (fun e => q4 e.symm), zset_off (by omega), zset_off (by omega), zset_hit rfl]
        · rw [low _ _ (by omega) (by omega) (by omega), s3 _ _ (fun e => q4 e.symm), zset_off (by omega), zset_hit rfl]
        · rw [low _ _ (by omega) (by omega) (by omega), s3 _ _ (fun e => q4 e.symm), zset_hit rfl]
        · rw [low _ _ (by omega) (by omega) (by omega), s2, if_pos ⟨i0, i1⟩]
        · rw [t3 _ _ (by decide), zset_k (by decide), zset_hit rfl]
        · rw [t3 _ _ (by decide), zset_hit rfl]
        · rw [t2, show 60 * x1 + 0 = 60 * x1 by omega, zset_k (by decide), zset_k (by decide), s3 _ _ (by omega), zset_k (by omega), zset_k (by omega), zset_k (by omega)]
        · rw [t3 _ _ (by decide), zset_k (by decide), zset_off e, s3 _ _ (by omega), zset_k (by omega), zset_k (by omega), zset_k (by omega)]
        · rw [t3 _ _ (by decide), zset_off e, zset_k (by decide), s3 _ _ (by omega), zset_k (by omega), zset_k (by omega), zset_k (by omega)]
        · rw [low _ _ a3 a4 a5, s3 _ _ a2, zset_k a1, zset_k a1, zset_k a1]
    · rw [if_neg h2]
      refine y_i ?_
      rw [e_X12_row, k_mShelf (by omega), zCI_ri, y01, if_pos h, k_within (by omega), zCI_ri, y01, if_neg h2]
      exact y_i ⟨rfl, N, G, hi⟩
  · rw [if_neg h]
    refine y_i ?_
    rw [e_X12_row, k_mShelf (by omega), zCI_ri, y01, if_neg h]
    exact y_i ⟨rfl, N, G, hi⟩
