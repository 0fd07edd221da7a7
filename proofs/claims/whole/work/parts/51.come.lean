/-! travellers, bodies, bytes; what a number is -/
theorem o_traveller {x : Int} : yStep 107 163 [.inr (.inl x)] := by
  intro d hd c N G σ hI c0 c1
  obtain ⟨d, rfl, hd'⟩ := y_d hd; have hd := hd'
  obtain ⟨n1, n2, n3, n4⟩ := yI_n hI
  obtain ⟨hTr, hLd, hTp, hHs, hIm, hSt, hSh⟩ := hI.2.2.2
  have hTr' := hTr
  obtain ⟨p1, p2, p3, p4⟩ := hTr'
  rw [e_X11_traveller, k_isPlace (by omega), zCI_ri, y01]
  refine y_if (fun h => ?_) (fun h => y_i ?_)
  · by_cases q : σ 1 1 < 4
    · have e19 : zx d 19 [.inl (some 1), .inr (.inl x)] σ = zri (σ 1 1) (zset (zset (zset σ 8 (σ 1 1) x) 9 (σ 1 1) 6) 1 1 (σ 1 1 + 1)) := by
        obtain ⟨e, rfl, -⟩ := y_d (k := 0) (d := d) (by omega)
        have r : 0 ≤ σ 1 1 ∧ σ 1 1 < 4 := ⟨p2, q⟩
        rw [e_X3_addTraveller, if_pos q, if_pos r, if_pos r, zw_i (x := σ 1 1 + 1) (by omega) (by omega), zw_i (x := σ 1 1 + 1 - 1) (by omega) (by omega), show σ 1 1 + 1 - 1 = σ 1 1 by omega]
      rw [e19, zCI_ri]
      refine y_i ?_
      have f1 : yf ([8, 9], [(1, 1)]) σ (zset (zset (zset σ 8 (σ 1 1) x) 9 (σ 1 1) 6) 1 1 (σ 1 1 + 1)) := yf_set (yf_set (yf_set yf_rf rfl) rfl) rfl
      have s8 : ∀ i, (zset (zset (zset σ 8 (σ 1 1) x) 9 (σ 1 1) 6) 1 1 (σ 1 1 + 1)) 8 i = if i = σ 1 1 then x else σ 8 i := fun i => by
        show (if 8 = 8 ∧ i = σ 1 1 then x else σ 8 i) = _
        exact y_cc ⟨fun h => h.2, fun h => ⟨rfl, h⟩⟩
      have s9 : ∀ i, (zset (zset (zset σ 8 (σ 1 1) x) 9 (σ 1 1) 6) 1 1 (σ 1 1 + 1)) 9 i = if i = σ 1 1 then 6 else σ 9 i := fun i => by
        show (if 9 = 9 ∧ i = σ 1 1 then 6 else σ 9 i) = _
        exact y_cc ⟨fun h => h.2, fun h => ⟨rfl, h⟩⟩
      have s11 : (zset (zset (zset σ 8 (σ 1 1) x) 9 (σ 1 1) 6) 1 1 (σ 1 1 + 1)) 1 1 = σ 1 1 + 1 := rfl
      generalize (zset (zset (zset σ 8 (σ 1 1) x) 9 (σ 1 1) 6) 1 1 (σ 1 1 + 1)) = s at f1 s8 s9 s11
      have e4 : s 57 4 = σ 1 1 := (f1 57 4 rfl).trans p1.symm
      have r4 : 0 ≤ σ 1 1 ∧ σ 1 1 < 4 := ⟨p2, q⟩
      rw [e_X12_traveller, k_mPlace (by omega), zCI_ri, y01, if_pos h, e4, if_neg (by omega), if_pos r4, if_pos r4, zw_i (x := σ 1 1 + 1) (by omega) (by omega)]
      have f2 : yf ([61, 62], [(57, 4)]) s (zset (zset (zset s 61 (σ 1 1) x) 62 (σ 1 1) 6) 57 4 (σ 1 1 + 1)) := yf_set (yf_set (yf_set yf_rf rfl) rfl) rfl
      have t61 : ∀ i, (zset (zset (zset s 61 (σ 1 1) x) 62 (σ 1 1) 6) 57 4 (σ 1 1 + 1)) 61 i = if i = σ 1 1 then x else s 61 i := fun i => by
        show (if 61 = 61 ∧ i = σ 1 1 then x else s 61 i) = _
        exact y_cc ⟨fun h => h.2, fun h => ⟨rfl, h⟩⟩
      have t62 : ∀ i, (zset (zset (zset s 61 (σ 1 1) x) 62 (σ 1 1) 6) 57 4 (σ 1 1 + 1)) 62 i = if i = σ 1 1 then 6 else s 62 i := fun i => by
        show (if 62 = 62 ∧ i = σ 1 1 then 6 else s 62 i) = _
        exact y_cc ⟨fun h => h.2, fun h => ⟨rfl, h⟩⟩
      have t574 : (zset (zset (zset s 61 (σ 1 1) x) 62 (σ 1 1) 6) 57 4 (σ 1 1 + 1)) 57 4 = σ 1 1 + 1 := rfl
      generalize (zset (zset (zset s 61 (σ 1 1) x) 62 (σ 1 1) 6) 57 4 (σ 1 1 + 1)) = t at f2 t61 t62 t574
      have f : yf ([8, 9, 61, 62], [(1, 1), (57, 4)]) σ t := yf_tr (yf_le f1 (by decide)) (yf_le f2 (by decide))
      have t11 : t 1 1 = σ 1 1 + 1 := (f2 1 1 rfl).trans s11
      refine y_i ⟨rfl, N, G, yP_f hI.1 f (by decide), yY_f hI.2.1 f (by decide), by rw [f 17 5 rfl]; have := hI.2.2.1; omega, ⟨?_, ?_, ?_, fun i a b => ?_⟩, yLd_g (yf_g f (by decide)) hLd, yTp_g (yf_g f (by decide)) hTp, ?_, ?_, ySt_g (yf_g f (by decide)) hSt, ySh_g (yf_g f (by decide)) hSh⟩
      · rw [t11, t574]
      · rw [t11]; omega
      · rw [t11]; omega
      · have z := p4 i a b
        rw [t61, t62, f2 8 i rfl, f2 9 i rfl, s8, s9, t11, f1 61 i rfl, f1 62 i rfl]
        by_cases e : i = σ 1 1
        · simp only [if_pos e]
          exact ⟨trivial, trivial, fun _ => ⟨h.1, h.2, by decide, by decide⟩⟩
        · simp only [if_neg e]
          exact ⟨z.1, z.2.1, fun hi => z.2.2 (by omega)⟩
      · unfold yHs at hHs ⊢
        rw [f 32 5 rfl, f 32 6 rfl, f 57 32 rfl, f 57 33 rfl, f 1 0 rfl, t11]
        refine ⟨hHs.1, hHs.2.1, hHs.2.2.1, hHs.2.2.2.1, hHs.2.2.2.2.1, fun i i0 i1 => ?_⟩
        rw [f 33 i rfl, f 34 i rfl, f 35 i rfl, f 36 i rfl, f 78 (4 * i) rfl, f 78 (4 * i + 1) rfl, f 78 (4 * i + 2) rfl, f 78 (4 * i + 3) rfl]
        have z := hHs.2.2.2.2.2 i i0 i1
        have le : σ 1 1 ≤ σ 1 1 + 1 := by omega
        exact ⟨z.1, z.2.1, z.2.2.1, z.2.2.2.1, yfit_mono (Int.le_refl _) le z.2.2.2.2.1, yfit_mono (Int.le_refl _) le z.2.2.2.2.2⟩
      · unfold yIm at hIm ⊢
        rw [f 37 1 rfl, f 37 2 rfl, f 37 3 rfl, f 57 26 rfl, f 57 27 rfl, f 57 28 rfl, f 1 0 rfl, t11]
        obtain ⟨i1, i2, i3, i4, i5, i6, i7, i8, i9, i10⟩ := hIm
        refine ⟨i1, i2, i3, i4, i5, i6, by omega, fun i a b => ?_, fun i a b => ?_, fun i a b => ?_⟩
        · rw [f 38 i rfl, f 75 i rfl]; exact i8 i a b
        · rw [f 39 i rfl, f 76 i rfl]; exact i9 i a b
        · rw [f 40 i rfl, f 77 i rfl]; exact i10 i a b
    · have e19 : zx d 19 [.inl (some 1), .inr (.inl x)] σ = zri (-3) σ := by
        obtain ⟨e, rfl, -⟩ := y_d (k := 0) (d := d) (by omega)
        rw [e_X3_addTraveller, if_neg q]
      rw [e19, zCI_ri]
      refine y_i ?_
      rw [e_X12_traveller, k_mPlace (by omega), zCI_ri, y01, if_pos h, ← p1, if_pos (by omega)]
      exact y_i ⟨rfl, N, G, yInv_id hI⟩
  · rw [e_X12_traveller, k_mPlace (by omega), zCI_ri, y01, if_neg h]
    exact y_i ⟨rfl, N, G, yInv_id hI⟩
theorem o_body {x : Int} : yStep 136 241 [.inr (.inl x)] := by
  intro d hd c N G σ hI c0 c1
  obtain ⟨d, rfl, hd'⟩ := y_d hd; have hd := hd'
  obtain ⟨hTr, hLd, hTp, hHs, hIm, hSt, hSh⟩ := hI.2.2.2
  have hSt' := hSt
  obtain ⟨u1, u2, u3, u4, u5, u6, u7, u8⟩ := hSt'
  rw [e_X11_body, k_isKind (by omega), zCI_ri, y01]
  refine y_if (fun h => ?_) (fun h => y_i ?_)
  · by_cases q : σ 41 0 < 50
    · have r : 0 ≤ σ 41 0 ∧ σ 41 0 < 50 := ⟨u2, q⟩
      have e78 : zx d 78 [.inl (some 41), .inr (.inl x)] σ = zri (σ 41 0) (zset (zset σ 42 (σ 41 0) x) 41 0 (σ 41 0 + 1)) := by
        obtain ⟨e, rfl, -⟩ := y_d (k := 0) (d := d) (by omega)
        rw [e_X8_add, if_pos q, if_pos r, zw_i (x := σ 41 0 + 1) (by omega) (by omega), zw_i (x := σ 41 0 + 1 - 1) (by omega) (by omega), show σ 41 0 + 1 - 1 = σ 41 0 by omega]
      rw [e78, zCI_ri]
      refine y_i ?_
      have f1 : yf ([42], [(41, 0)]) σ (zset (zset σ 42 (σ 41 0) x) 41 0 (σ 41 0 + 1)) := yf_set (yf_set yf_rf rfl) rfl
      have s42 : ∀ i, (zset (zset σ 42 (σ 41 0) x) 41 0 (σ 41 0 + 1)) 42 i = if i = σ 41 0 then x else σ 42 i := fun i => by
        show (if 42 = 42 ∧ i = σ 41 0 then x else σ 42 i) = _
        exact y_cc ⟨fun h => h.2, fun h => ⟨rfl, h⟩⟩
      have s41 : (zset (zset σ 42 (σ 41 0) x) 41 0 (σ 41 0 + 1)) 41 0 = σ 41 0 + 1 := rfl
      generalize (zset (zset σ 42 (σ 41 0) x) 41 0 (σ 41 0 + 1)) = s at f1 s42 s41
      have e35 : s 57 35 = σ 41 0 := (f1 57 35 rfl).trans u1.symm
      rw [e_X12_body, k_within (by omega), zCI_ri, y01, if_pos (by omega), e35, if_neg (by omega), if_pos r, zw_i (x := σ 41 0 + 1) (by omega) (by omega)]
      have f2 : yf ([79], [(57, 35)]) s (zset (zset s 79 (σ 41 0) x) 57 35 (σ 41 0 + 1)) := yf_set (yf_set yf_rf rfl) rfl
      have t79 : ∀ i, (zset (zset s 79 (σ 41 0) x) 57 35 (σ 41 0 + 1)) 79 i = if i = σ 41 0 then x else s 79 i := fun i => by
        show (if 79 = 79 ∧ i = σ 41 0 then x else s 79 i) = _
        exact y_cc ⟨fun h => h.2, fun h => ⟨rfl, h⟩⟩
      have t35 : (zset (zset s 79 (σ 41 0) x) 57 35 (σ 41 0 + 1)) 57 35 = σ 41 0 + 1 := rfl
      generalize (zset (zset s 79 (σ 41 0) x) 57 35 (σ 41 0 + 1)) = t at f2 t79 t35
      have f : yf ([42, 79], [(41, 0), (57, 35)]) σ t := yf_tr (yf_le f1 (by decide)) (yf_le f2 (by decide))
      have t41 : t 41 0 = σ 41 0 + 1 := (f2 41 0 rfl).trans s41
      refine y_i ⟨rfl, N, G, yP_f hI.1 f (by decide), yY_f hI.2.1 f (by decide), by rw [f 17 5 rfl]; have := hI.2.2.1; omega, yTr_g (yf_g f (by decide)) hTr, yLd_g (yf_g f (by decide)) hLd, yTp_g (yf_g f (by decide)) hTp, yHs_g (yf_g f (by decide)) hHs, yIm_g (yf_g f (by decide)) hIm, ?_, fun s' h0 h1' => ?_⟩
      · unfold ySt
        rw [t41, t35, f 41 3 rfl, f 57 37 rfl]
        refine ⟨rfl, by omega, by omega, u4, u5, u6, fun i a b => ?_, fun i a b => ?_⟩
        · have z := u7 i a b
          rw [f2 42 i rfl, s42, t79, f1 79 i rfl]
          by_cases e : i = σ 41 0
          · simp only [if_pos e]
            exact ⟨trivial, fun _ => h⟩
          · simp only [if_neg e]
            exact ⟨z.1, fun hi => z.2 (by omega)⟩
        · rw [f 43 i rfl, f 80 i rfl]
          exact u8 i a b
      · have z := hSh s' h0 h1'
        have o := fun i => yds_no (A := ([42, 79], [(57, 35)])) (D := ([45, 46, 47, 48, 49, 50, 51, 52, 53, 54, 55, 56], [])) (by decide) (k := ysh s') (i := i) (by rcases y_s6 h0 h1' with rfl | rfl | rfl | rfl | rfl | rfl <;> rfl)
        have o1 := fun i => f (ysh s') i (by rcases y_s6 h0 h1' with rfl | rfl | rfl | rfl | rfl | rfl <;> rfl)
        have o2 := fun i => f (ysr s') i (by rcases y_s6 h0 h1' with rfl | rfl | rfl | rfl | rfl | rfl <;> rfl)
        unfold ySh1 at z ⊢
        rw [o1 1, o1 0, o1 2, f 81 s' rfl, f 82 s' rfl, t41]
        refine ⟨z.1, z.2.1, z.2.2.1, ?_, fun i a b => ?_⟩
        · rcases z.2.2.2.1 with w | w | w
          · exact Or.inl w
          · exact Or.inr (Or.inl ⟨w.1, w.2.1, by omega, w.2.2.2⟩)
          · exact Or.inr (Or.inr w)
        · rw [o2 i, f 83 _ rfl]
          exact z.2.2.2.2 i a b
    · have e78 : zx d 78 [.inl (some 41), .inr (.inl x)] σ = zri (-3) σ := by
        obtain ⟨e, rfl, -⟩ := y_d (k := 0) (d := d) (by omega)
        rw [e_X8_add, if_neg q]
      rw [e78, zCI_ri]
      refine y_i ?_
      rw [e_X12_body, k_within (by omega), zCI_ri, y01, if_pos (by omega), ← u1, if_pos (by omega)]
      exact y_i ⟨rfl, N, G, yInv_id hI⟩
  · rw [e_X12_body, k_within (by omega), zCI_ri, y01, if_neg (by omega)]
    exact y_i ⟨rfl, N, G, yInv_id hI⟩
theorem o_feed {x : Int} : yStep 110 172 [.inr (.inl x)] := by
  intro d hd c N G σ hI c0 c1
  obtain ⟨d, rfl, hd'⟩ := y_d hd; have hd := hd'
  obtain ⟨hTr, hLd, hTp, hHs, hIm, hSt, hSh⟩ := hI.2.2.2
  have hTp' := hTp
  obtain ⟨u1, u2, u3, u4⟩ := hTp'
  rw [e_X11_feed, y_rg]
  refine y_if (fun h => ?_) (fun h => y_i ?_)
  · by_cases q : σ 11 1 < 120
    · have r : 0 ≤ σ 11 1 ∧ σ 11 1 < 120 := ⟨u2, q⟩
      have e34 : zx d 34 [.inl (some 11), .inr (.inl x)] σ = zri (σ 11 1 + 1) (zset (zset σ 12 (σ 11 1) x) 11 1 (σ 11 1 + 1)) := by
        obtain ⟨e, rfl, -⟩ := y_d (k := 0) (d := d) (by omega)
        rw [e_X4_append, if_pos q, if_pos r, zw_i (x := σ 11 1 + 1) (by omega) (by omega)]
      rw [e34, zCI_ri]
      refine y_i ?_
      have f1 : yf ([12], [(11, 1)]) σ (zset (zset σ 12 (σ 11 1) x) 11 1 (σ 11 1 + 1)) := yf_set (yf_set yf_rf rfl) rfl
      have s12 : ∀ i, (zset (zset σ 12 (σ 11 1) x) 11 1 (σ 11 1 + 1)) 12 i = if i = σ 11 1 then x else σ 12 i := fun i => by
        show (if 12 = 12 ∧ i = σ 11 1 then x else σ 12 i) = _
        exact y_cc ⟨fun h => h.2, fun h => ⟨rfl, h⟩⟩
      have s11 : (zset (zset σ 12 (σ 11 1) x) 11 1 (σ 11 1 + 1)) 11 1 = σ 11 1 + 1 := rfl
      generalize (zset (zset σ 12 (σ 11 1) x) 11 1 (σ 11 1 + 1)) = s at f1 s12 s11
      have e7 : s 57 7 = σ 11 1 := (f1 57 7 rfl).trans u1.symm
      rw [e_X12_feed, k_within (by omega), zCI_ri, y01, if_pos h, e7, if_neg (by omega), if_pos r, zw_i (x := σ 11 1 + 1) (by omega) (by omega)]
      have f2 : yf ([63], [(57, 7)]) s (zset (zset s 57 7 (σ 11 1 + 1)) 63 (σ 11 1) x) := yf_set (yf_set yf_rf rfl) rfl
      have t63 : ∀ i, (zset (zset s 57 7 (σ 11 1 + 1)) 63 (σ 11 1) x) 63 i = if i = σ 11 1 then x else s 63 i := fun i => by
        show (if 63 = 63 ∧ i = σ 11 1 then x else s 63 i) = _
        exact y_cc ⟨fun h => h.2, fun h => ⟨rfl, h⟩⟩
      have t7 : (zset (zset s 57 7 (σ 11 1 + 1)) 63 (σ 11 1) x) 57 7 = σ 11 1 + 1 := rfl
      generalize (zset (zset s 57 7 (σ 11 1 + 1)) 63 (σ 11 1) x) = t at f2 t63 t7
      have f : yf ([12, 63], [(11, 1), (57, 7)]) σ t := yf_tr (yf_le f1 (by decide)) (yf_le f2 (by decide))
      have t11 : t 11 1 = σ 11 1 + 1 := (f2 11 1 rfl).trans s11
      refine y_i ⟨rfl, N, G, yP_f hI.1 f (by decide), yY_f hI.2.1 f (by decide), by rw [f 17 5 rfl]; have := hI.2.2.1; omega, yTr_g (yf_g f (by decide)) hTr, yLd_g (yf_g f (by decide)) hLd, ?_, yHs_g (yf_g f (by decide)) hHs, yIm_g (yf_g f (by decide)) hIm, ySt_g (yf_g f (by decide)) hSt, ySh_g (yf_g f (by decide)) hSh⟩
      unfold yTp
      rw [t11, t7]
      refine ⟨rfl, by omega, by omega, fun i a b => ?_⟩
      have z := u4 i a b
      rw [f2 12 i rfl, s12, t63, f1 63 i rfl]
      by_cases e : i = σ 11 1
      · simp only [if_pos e]
        exact ⟨trivial, fun _ => h⟩
      · simp only [if_neg e]
        exact ⟨z.1, fun hi => z.2 (by omega)⟩
    · have e34 : zx d 34 [.inl (some 11), .inr (.inl x)] σ = zri (-3) σ := by
        obtain ⟨e, rfl, -⟩ := y_d (k := 0) (d := d) (by omega)
        rw [e_X4_append, if_neg q]
      rw [e34, zCI_ri]
      refine y_i ?_
      rw [e_X12_feed, k_within (by omega), zCI_ri, y01, if_pos h, ← u1, if_pos (by omega)]
      exact y_i ⟨rfl, N, G, yInv_id hI⟩
  · rw [e_X12_feed, k_within (by omega), zCI_ri, y01, if_neg h]
    exact y_i ⟨rfl, N, G, yInv_id hI⟩
