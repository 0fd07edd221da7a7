/-! the act -/
theorem yrn_tot {n : Int} {x : Int} : ∀ K : Nat, K < 8 → ∀ a : Nat, a < 4 → ∃ r, yrn n K 16 K a x = some r ∧ r.2.length ≤ 60 := by
  intro K hK a ha
  rcases (by omega : a = 0 ∨ a = 1 ∨ a = 2 ∨ a = 3) with rfl | rfl | rfl | rfl <;> rcases (by omega : K = 0 ∨ K = 1 ∨ K = 2 ∨ K = 3 ∨ K = 4 ∨ K = 5 ∨ K = 6 ∨ K = 7) with rfl | rfl | rfl | rfl | rfl | rfl | rfl | rfl
  all_goals exact ⟨_, rfl, Nat.le_of_ble_eq_true rfl⟩
theorem yns_fc : ∀ (l : List Int) (σ : zF), yf ([43], [(41, 3)]) σ (yns 43 41 3 l σ)
  | [], _ => yf_rf
  | b :: l, σ => by
    refine yf_tr ?_ (yns_fc l (yn1 43 41 3 b σ))
    unfold yn1
    split
    · exact yf_set (yf_set yf_rf rfl) rfl
    · exact yf_set yf_rf rfl
theorem yns_fm : ∀ (l : List Int) (σ : zF), yf ([80], [(57, 37)]) σ (yns 80 57 37 l σ)
  | [], _ => yf_rf
  | b :: l, σ => by
    refine yf_tr ?_ (yns_fm l (yn1 80 57 37 b σ))
    unfold yn1
    split
    · exact yf_set (yf_set yf_rf rfl) rfl
    · exact yf_set yf_rf rfl
theorem yn1_rel {b : Int} {σ τ : zF} (h : σ 41 3 = τ 57 37) (h0 : 0 ≤ σ 41 3) (hn : ∀ i, 0 ≤ i → i < 24 → i < σ 41 3 → σ 43 i = τ 80 i) : yn1 43 41 3 b σ 41 3 = yn1 80 57 37 b τ 57 37 ∧ 0 ≤ yn1 43 41 3 b σ 41 3 ∧ ∀ i, 0 ≤ i → i < 24 → i < yn1 43 41 3 b σ 41 3 → yn1 43 41 3 b σ 43 i = yn1 80 57 37 b τ 80 i := by
  have e1 : yn1 43 41 3 b σ 41 3 = σ 41 3 + 1 := (yn1_f (A := 43) (C := 41) (S := 3) (by decide) b σ).1
  have e2 : yn1 80 57 37 b τ 57 37 = τ 57 37 + 1 := (yn1_f (A := 80) (C := 57) (S := 37) (by decide) b τ).1
  refine ⟨by rw [e1, e2, h], by omega, fun i a c hi => ?_⟩
  rw [e1] at hi
  unfold yn1
  by_cases q : σ 41 3 < 24
  · have q1 : σ 41 ((3 : Nat) : Int) < 24 := q
    have q2 : τ 57 ((37 : Nat) : Int) < 24 := by rw [h] at q; exact q
    rw [if_pos q1, if_pos q2]
    show (if 43 = 43 ∧ i = σ 41 3 then b else σ 43 i) = (if 80 = 80 ∧ i = τ 57 37 then b else τ 80 i)
    by_cases e : i = σ 41 3
    · rw [if_pos ⟨rfl, e⟩, if_pos ⟨rfl, e.trans h⟩]
    · rw [if_neg (fun z => e z.2), if_neg (fun z => e (z.2.trans h.symm))]
      exact hn i a c (by omega)
  · have q1 : ¬ σ 41 ((3 : Nat) : Int) < 24 := q
    have q2 : ¬ τ 57 ((37 : Nat) : Int) < 24 := by rw [h] at q; exact q
    rw [if_neg q1, if_neg q2]
    show σ 43 i = τ 80 i
    exact hn i a c (by omega)
theorem yns_rel : ∀ (l : List Int) (σ τ : zF), σ 41 3 = τ 57 37 → 0 ≤ σ 41 3 → (∀ i, 0 ≤ i → i < 24 → i < σ 41 3 → σ 43 i = τ 80 i) → yns 43 41 3 l σ 41 3 = yns 80 57 37 l τ 57 37 ∧ ∀ i, 0 ≤ i → i < 24 → i < yns 43 41 3 l σ 41 3 → yns 43 41 3 l σ 43 i = yns 80 57 37 l τ 80 i
  | [], _, _, h, _, hn => ⟨h, hn⟩
  | b :: l, σ, τ, h, h0, hn => by
    have z := yn1_rel (b := b) h h0 hn
    exact yns_rel l (yn1 43 41 3 b σ) (yn1 80 57 37 b τ) z.1 z.2.1 z.2.2
theorem yInv_ac {c : Int} {N : zF} {G : yG} {σ t : zF} (hI : yInv c N G σ) (f : yf ([43, 80], [(41, 3), (41, 4), (41, 5), (57, 37)]) σ t) (h1 : t 41 3 = t 57 37) (h2 : 0 ≤ t 41 3 ∧ t 41 3 ≤ 100000) (h3 : ∀ i, 0 ≤ i → i < 24 → i < t 41 3 → t 43 i = t 80 i) : yInv (c + 1) N G t := by
  obtain ⟨hTr, hLd, hTp, hHs, hIm, hSt, hSh⟩ := hI.2.2.2
  refine ⟨yP_f hI.1 f (by decide), yY_f hI.2.1 f (by decide), by rw [f 17 5 rfl]; have := hI.2.2.1; omega, yTr_g (yf_g f (by decide)) hTr, yLd_g (yf_g f (by decide)) hLd, yTp_g (yf_g f (by decide)) hTp, yHs_g (yf_g f (by decide)) hHs, yIm_g (yf_g f (by decide)) hIm, ?_, ySh_g (yf_g f (by decide)) hSh⟩
  obtain ⟨u1, u2, u3, u4, u5, u6, u7, u8⟩ := hSt
  unfold ySt
  rw [f 41 0 rfl, f 57 35 rfl]
  refine ⟨u1, u2, u3, h1, h2.1, h2.2, fun i a b => ?_, h3⟩
  rw [f 42 i rfl, f 79 i rfl]
  exact u7 i a b
theorem o_act {x1 x2 x3 : Int} : yStep 137 242 [.inr (.inl x1), .inr (.inl x2), .inr (.inl x3)] := by
  intro d hd c N G σ hI c0 c1
  obtain ⟨d, rfl, hd'⟩ := y_d hd; have hd := hd'
  obtain ⟨hTr, hLd, hTp, hHs, hIm, hSt, hSh⟩ := hI.2.2.2
  obtain ⟨u1, u2, u3, u4, u5, u6, u7, u8⟩ := hSt
  have nope : ∀ (s : zF), yf ([43, 80], [(41, 3), (41, 4), (41, 5), (57, 37)]) σ s → s 41 3 = 0 → ¬ ((0 ≤ x1 ∧ x1 < σ 41 0) ∧ (0 ≤ x2 ∧ x2 < 4)) → yT (zx (d + 1) 242 [.inl (some 57), .inr (.inl x1), .inr (.inl x2), .inr (.inl x3)] s) (yI fun w t => w = 0 ∧ ∃ N' G', yInv (c + 1) N' G' t) := by
    intro s f s3 hn
    have e35 : s 57 35 = σ 41 0 := (f 57 35 rfl).trans u1.symm
    have f2 : yf ([43, 80], [(41, 3), (41, 4), (41, 5), (57, 37)]) σ (zset s 57 37 0) := yf_set f rfl
    have g : yInv (c + 1) N G (zset s 57 37 0) := yInv_ac hI f2 (show s 41 3 = 0 from s3) (by rw [show zset s 57 37 0 41 3 = s 41 3 from rfl]; omega) (fun i a _ b => by rw [show zset s 57 37 0 41 3 = s 41 3 from rfl] at b; omega)
    rw [e_X12_act, e35, zw_i (by omega) (by omega), k_within (by omega), zCI_ri, y01]
    refine y_if (fun h => ?_) (fun _ => y_i ⟨rfl, N, G, g⟩)
    rw [k_within (by omega), zCI_ri, y01]
    exact y_if (fun h2 => absurd ⟨⟨h.1, by omega⟩, h2.1, by omega⟩ hn) (fun _ => y_i ⟨rfl, N, G, g⟩)
  rw [e_X11_act]
  obtain ⟨d, rfl, hd'⟩ := y_d hd; have hd := hd'
  have f0 : yf ([43, 80], [(41, 3), (41, 4), (41, 5), (57, 37)]) σ (zset σ 41 3 0) := yf_set yf_rf rfl
  rw [e_X8_perform, k_isThere (by omega), zCI_ri, show zset σ 41 3 0 41 0 = σ 41 0 from rfl, y01]
  by_cases h1 : 0 ≤ x1 ∧ x1 < σ 41 0
  · rw [if_pos h1]
    by_cases h2 : x2 < 0
    · rw [if_pos h2, zCI_ri]
      exact y_i (nope _ f0 rfl (by omega))
    · rw [if_neg h2]
      by_cases h3 : x2 < 4
      · have r1 : 0 ≤ x1 ∧ x1 < 50 := by omega
        have kk := (u7 x1 r1.1 r1.2)
        have ks := kk.2 h1.2
        obtain ⟨K, hK⟩ := Int.eq_ofNat_of_zero_le ks.1
        obtain ⟨a, rfl⟩ := Int.eq_ofNat_of_zero_le (show 0 ≤ x2 by omega)
        obtain ⟨r, hr, hl⟩ := yrn_tot (n := x1) (x := x3) K (by omega) a (by omega)
        rw [if_pos h3, if_pos r1, show zset σ 41 3 0 42 x1 = σ 42 x1 from rfl, hK]
        have f1 : yf ([43, 80], [(41, 3), (41, 4), (41, 5), (57, 37)]) σ (zset (zset (zset σ 41 3 0) 41 5 x1) 41 4 (K : Int)) := yf_set (yf_set f0 rfl) rfl
        have e1 := c_run (n := x1) (K := K) (by omega) 16 d K a x3 0 r (zset (zset (zset σ 41 3 0) 41 5 x1) 41 4 (K : Int)) (by omega) (by omega) (by omega) rfl rfl (by omega) (by omega) (by show (0 : Int) ≤ 0; omega) (by show (0 : Int) + _ < _; omega) hr
        rw [e1, zCI_ri, zCI_ri]
        have s3 : (zset (zset (zset σ 41 3 0) 41 5 x1) 41 4 (K : Int)) 41 3 = 0 := rfl
        generalize zset (zset (zset σ 41 3 0) 41 5 x1) 41 4 (K : Int) = s0 at f1 s3
        refine y_i ?_
        have f2 := yns_fc r.2 s0
        have v3 : yns 43 41 3 r.2 s0 41 3 = s0 41 3 + r.2.length := (yns_f (A := 43) (C := 41) (S := 3) (by decide) r.2 s0).1
        have rel := fun τ h => yns_rel r.2 s0 τ h
        generalize hs : yns 43 41 3 r.2 s0 = s at f2 v3 rel
        have f3 : yf ([43, 80], [(41, 3), (41, 4), (41, 5), (57, 37)]) σ s := yf_tr f1 (yf_le f2 (by decide))
        have e35 : s 57 35 = σ 41 0 := (f3 57 35 rfl).trans u1.symm
        have f4 : yf ([43, 80], [(41, 3), (41, 4), (41, 5), (57, 37)]) σ (zset s 57 37 0) := yf_set f3 rfl
        have t3 : zset s 57 37 0 41 3 = s 41 3 := rfl
        have t43 : ∀ i, zset s 57 37 0 43 i = s 43 i := fun i => rfl
        have t37 : zset s 57 37 0 57 37 = 0 := rfl
        have t79 : zset s 57 37 0 79 x1 = K := (f4 79 x1 rfl).trans (kk.1.symm.trans hK)
        rw [e_X12_act, e35, zw_i (by omega) (by omega), k_within (by omega), zCI_ri, y01, if_pos (show 0 ≤ x1 ∧ x1 ≤ σ 41 0 - 1 by omega), k_within (by omega), zCI_ri, y01, if_pos (show (0 : Int) ≤ (a : Int) ∧ (a : Int) ≤ 3 by omega), if_pos r1]
        have rel := rel (zset s 57 37 0) (s3.trans t37.symm) (by omega) (fun i i0 _ i2 => by omega)
        generalize zset s 57 37 0 = t0 at f4 t3 t43 t37 t79 rel
        rw [t79]
        have m1 := m_run (n := x1) (K := K) r1 (by omega) 16 K a (by omega) (by omega) (d + 1) (by omega) x3 r t0 t79 (by omega) (by omega) hr
        have g : yInv (c + 1) N G (yns 80 57 37 r.2 t0) := by
          have fm := yns_fm r.2 t0
          have w3 : yns 80 57 37 r.2 t0 41 3 = s 41 3 := (fm 41 3 rfl).trans t3
          refine yInv_ac hI (yf_tr f4 (yf_le fm (by decide))) (w3.trans rel.1) (by rw [w3]; omega) (fun i i0 i1 i2 => ?_)
          rw [w3] at i2
          rw [fm 43 i rfl, t43]
          exact rel.2 i i0 i1 i2
        rcases (by omega : a = 0 ∨ a = 1 ∨ a = 2 ∨ a = 3) with rfl | rfl | rfl | rfl
        · have m2 : zx (d + 1) 237 [.inl (some 57), .inr (.inl x1), .inr (.inl (K : Int)), .inr (.inl x3)] t0 = zri r.1 (yns 80 57 37 r.2 t0) := m1
          rw [if_pos (by decide), m2, zCI_ri]
          exact y_i ⟨rfl, N, G, g⟩
        · have m2 : zx (d + 1) 238 [.inl (some 57), .inr (.inl x1), .inr (.inl (K : Int)), .inr (.inl x3)] t0 = zri r.1 (yns 80 57 37 r.2 t0) := m1
          rw [if_neg (by decide), if_pos (by decide), m2, zCI_ri]
          exact y_i ⟨rfl, N, G, g⟩
        · have m2 : zx (d + 1) 239 [.inl (some 57), .inr (.inl x1), .inr (.inl (K : Int)), .inr (.inl x3)] t0 = zri r.1 (yns 80 57 37 r.2 t0) := m1
          rw [if_neg (by decide), if_neg (by decide), if_pos (by decide), m2, zCI_ri]
          exact y_i ⟨rfl, N, G, g⟩
        · have m2 : zx (d + 1) 240 [.inl (some 57), .inr (.inl x1), .inr (.inl (K : Int)), .inr (.inl x3)] t0 = zri r.1 (yns 80 57 37 r.2 t0) := m1
          rw [if_neg (by decide), if_neg (by decide), if_neg (by decide), m2, zCI_ri]
          exact y_i ⟨rfl, N, G, g⟩
      · rw [if_neg h3, zCI_ri]
        exact y_i (nope _ f0 rfl (by omega))
  · rw [if_neg h1, zCI_ri]
    exact y_i (nope _ f0 rfl (by omega))
