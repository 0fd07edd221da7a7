/-! trips -/
def ytr (N : zF) (G : yG) (el : Int → Int) : Nat → Int → Int → Int → (Int → Int) → Int × Int × Int × (Int → Int)
  | 0, _, tk, pl, m => (tk, pl, -2, m)
  | j + 1, i, tk, pl, m => if zw (el i) < 0 ∨ ¬ zw (el i) / 3 < N 0 0 then (tk, pl, -2, m) else if (N 1 (zw (el i) / 3) = pl ∨ N 2 (zw (el i) / 3) = pl) ∧ N 5 (zw (el i) / 3) = 0 then ytr N G el j (i + 1) (tk + yHR N G (N 5) m (zw (el i) / 3)) (N 1 (zw (el i) / 3) + N 2 (zw (el i) / 3) - pl) (yw N (zw (el i) / 3) (zw (el i) % 3) m) else (tk, pl, i, m)
theorem ytr_e {N : zF} {G : yG} {el : Int → Int} {j : Nat} {i tk pl : Int} {m : Int → Int} (h : zw (el i) < 0 ∨ ¬ zw (el i) / 3 < N 0 0) : ytr N G el (j + 1) i tk pl m = (tk, pl, -2, m) := by
  show (if _ then _ else _) = _
  rw [if_pos h]
theorem ytr_s {N : zF} {G : yG} {el : Int → Int} {j : Nat} {i tk pl : Int} {m : Int → Int} (h : ¬ (zw (el i) < 0 ∨ ¬ zw (el i) / 3 < N 0 0)) (h2 : ¬ ((N 1 (zw (el i) / 3) = pl ∨ N 2 (zw (el i) / 3) = pl) ∧ N 5 (zw (el i) / 3) = 0)) : ytr N G el (j + 1) i tk pl m = (tk, pl, i, m) := by
  show (if _ then _ else _) = _
  rw [if_neg h, if_neg h2]
theorem ytr_g {N : zF} {G : yG} {el : Int → Int} {j : Nat} {i tk pl : Int} {m : Int → Int} (h : ¬ (zw (el i) < 0 ∨ ¬ zw (el i) / 3 < N 0 0)) (h2 : (N 1 (zw (el i) / 3) = pl ∨ N 2 (zw (el i) / 3) = pl) ∧ N 5 (zw (el i) / 3) = 0) : ytr N G el (j + 1) i tk pl m = ytr N G el j (i + 1) (tk + yHR N G (N 5) m (zw (el i) / 3)) (N 1 (zw (el i) / 3) + N 2 (zw (el i) / 3) - pl) (yw N (zw (el i) / 3) (zw (el i) % 3) m) := by
  show (if _ then _ else _) = _
  rw [if_neg h, if_pos h2]
abbrev yAx : List Nat × List (Nat × Int) := ([16, 18, 19, 20, 21], [(14, 3), (31, 2), (31, 3), (31, 4)])
theorem c_go_l {d : Nat} (hd : 5 ≤ d) {N σ0 : zF} {G : yG} {T s sz : Int} {el : Int → Int} (h0 : 0 ≤ s) (h1 : s < 6) (hsz : 0 ≤ sz ∧ sz ≤ 60) (hs0 : σ0 (ysh s) 1 = sz) (hel : ∀ i, 0 ≤ i → i < 60 → σ0 (ysr s) i = el i) : ∀ (j : Nat) (i tk pl : Int) (m : Int → Int) (σ : zF), 0 ≤ i → i + j = min 20 sz → 0 ≤ tk → tk ≤ 99 * i → (0 ≤ pl ∧ pl < 8) → σ 31 2 = tk → σ 31 3 = pl → σ 31 4 = -2 → yX N G T (-1) m σ → yf yAx σ0 σ → yT (P_X10_go_26 d (ysh s) i σ) (yV fun u => u 31 2 = (ytr N G el j i tk pl m).1 ∧ u 31 3 = (ytr N G el j i tk pl m).2.1 ∧ u 31 4 = (ytr N G el j i tk pl m).2.2.1 ∧ yX N G T (-1) (ytr N G el j i tk pl m).2.2.2 u ∧ yf yAx σ0 u) := by
  have o := fun i => yoff (A := yAx) (by decide) h0 h1 i
  intro j
  induction j with
  | zero =>
    intro i tk pl m σ i0 hi t0 t1 hp e2 e3 e4 hX g
    rw [e_X10_go_26, k_fld1 h0 h1, g (ysh s) 1 (o 1).1, hs0]
    by_cases q : i < 20
    · rw [if_pos q, if_neg (by omega)]
      exact y_v ⟨e2, e3, e4, hX, g⟩
    · rw [if_neg q]
      exact y_v ⟨e2, e3, e4, hX, g⟩
  | succ j ih =>
    intro i tk pl m σ i0 hi t0 t1 hp e2 e3 e4 hX g
    have b1 := hX.1.2.1
    have eC := hX.2.2.2.2.1
    have zin' := zw_in (el i)
    unfold zin at zin'
    rw [e_X10_go_26, k_fld1 h0 h1, g (ysh s) 1 (o 1).1, hs0, k_fld3 h0 h1, k_zar h0 h1 (by omega), g (ysr s) i (o i).2, hel i i0 (by omega)]
    refine y_g (by omega) (y_g (by omega) (y_n (by decide) (y_if (fun q => ?_) (fun q => ?_))))
    · rw [ytr_e (Or.inl q)]
      exact y_v ⟨e2, e3, e4, hX, g⟩
    · rw [zdiv_p (by omega) (by omega) (by decide), zrem_p (by omega), k_isRoad (by omega), zCI_ri, y01, eC.1]
      refine y_if (fun q2 => ?_) (fun q2 => ?_)
      · have nq : ¬ (zw (el i) < 0 ∨ ¬ zw (el i) / 3 < N 0 0) := by omega
        have hb := hX.1.2.2.1 _ q2.1 q2.2
        rw [c_other (by omega) eC _ q2.1 (by omega), zCI_ri, e3, (eC.2.2 _ q2.1 (by omega)).2.2.2.2.1]
        have stop : ¬ ((N 1 (zw (el i) / 3) = pl ∨ N 2 (zw (el i) / 3) = pl) ∧ N 5 (zw (el i) / 3) = 0) → yT (zrv (zset σ 31 4 i)) (yV fun u => u 31 2 = (ytr N G el (j + 1) i tk pl m).1 ∧ u 31 3 = (ytr N G el (j + 1) i tk pl m).2.1 ∧ u 31 4 = (ytr N G el (j + 1) i tk pl m).2.2.1 ∧ yX N G T (-1) (ytr N G el (j + 1) i tk pl m).2.2.2 u ∧ yf yAx σ0 u) := by
          intro h
          rw [ytr_s nq h]
          exact y_v ⟨e2, e3, rfl, yX_f hX (A := ([], [(31, 4)])) (yf_set yf_rf rfl) (by decide), yf_set g rfl⟩
        by_cases w : N 1 (zw (el i) / 3) = pl ∨ N 2 (zw (el i) / 3) = pl
        · have eo : (if N 1 (zw (el i) / 3) = pl then N 2 (zw (el i) / 3) else if N 2 (zw (el i) / 3) = pl then N 1 (zw (el i) / 3) else -1) = N 1 (zw (el i) / 3) + N 2 (zw (el i) / 3) - pl := by
            split
            · omega
            · split <;> omega
          rw [eo]
          refine y_n (by omega) (y_g (by omega) (y_if (fun z => ?_) (fun z => stop (fun h => z h.2))))
          refine y_cI (c_takes hd hX q2.1 q2.2) (fun v s1 hs1 => y_n (by decide) ?_)
          have f1 : yf yAx σ s1 := yf_le hs1.2.2 (by decide)
          have bv := yHR_b N G (ypw N (-1)) m (zw (el i) / 3)
          rw [e2, hs1.1, zw_i (x := tk + yHR N G (ypw N (-1)) m (zw (el i) / 3)) (by omega) (by omega)]
          have f2 : yf ([], [(31, 2)]) s1 (zset s1 31 2 (tk + yHR N G (ypw N (-1)) m (zw (el i) / 3))) := yf_set yf_rf rfl
          refine y_cV (c_say (by omega) (zw (el i) % 3) (yX_f hs1.2.1 f2 (by decide)) q2.1 q2.2) (fun s3 hs3 => ?_)
          have f3 : yf yAx s1 s3 := yf_tr (yf_le f2 (by decide)) (yf_le hs3.2 (by decide))
          rw [ytr_g nq ⟨w, z⟩, zw_i (x := i + 1) (by omega) (by omega)]
          rw [yHR_w] at bv
          refine ih (i + 1) _ _ _ _ (by omega) (by omega) (by omega) (by omega) (by omega) ?_ rfl ?_ (yX_f hs3.1 (A := ([], [(31, 3)])) (yf_set yf_rf rfl) (by decide)) (yf_set (yf_tr g (yf_tr f1 f3)) rfl)
          · show s3 31 2 = _
            rw [hs3.2 31 2 rfl, yHR_w, zset_hit rfl]
          · show s3 31 4 = _
            rw [hs3.2 31 4 rfl]
            exact (hs1.2.2 31 4 rfl).trans e4
        · have eo : (if N 1 (zw (el i) / 3) = pl then N 2 (zw (el i) / 3) else if N 2 (zw (el i) / 3) = pl then N 1 (zw (el i) / 3) else -1) = -1 := by
            rw [if_neg (fun h => w (Or.inl h)), if_neg (fun h => w (Or.inr h))]
          rw [eo]
          exact y_g rfl (stop (fun h => w h.1))
      · rw [ytr_e (Or.inr (by omega))]
        exact y_v ⟨e2, e3, e4, hX, g⟩
abbrev yAy : List Nat × List (Nat × Int) := ([60, 72, 73], [(57, 46), (57, 47), (57, 48)])
theorem m_go_l {d : Nat} (hd : 6 ≤ d) {N σ0 : zF} {G : yG} {s sz : Int} {el : Int → Int} (h0 : 0 ≤ s) (h1 : s < 6) (hsz : 0 ≤ sz ∧ sz ≤ 60) (hs0 : σ0 82 s = sz) (hel : ∀ i, 0 ≤ i → i < 60 → σ0 83 (60 * s + i) = el i) : ∀ (j : Nat) (i tk pl : Int) (m : Int → Int) (σ : zF), 0 ≤ i → i + j = min 20 sz → 0 ≤ tk → tk ≤ 99 * i → (0 ≤ pl ∧ pl < 8) → σ 57 46 = tk → σ 57 47 = pl → σ 57 48 = -2 → yY N G (N 5) m σ → yf yAy σ0 σ → yT (P_X12_goesAll_18 d s i σ) (yV fun u => u 57 46 = (ytr N G el j i tk pl m).1 ∧ u 57 47 = (ytr N G el j i tk pl m).2.1 ∧ u 57 48 = (ytr N G el j i tk pl m).2.2.1 ∧ yM N (N 5) (ytr N G el j i tk pl m).2.2.2 u ∧ yf yAy σ0 u) := by
  intro j
  induction j with
  | zero =>
    intro i tk pl m σ i0 hi t0 t1 hp e2 e3 e4 hY g
    rw [e_X12_goesAll_18, g 82 s rfl, hs0]
    refine y_g ⟨h0, h1⟩ ?_
    by_cases q : i < sz
    · rw [if_pos q, if_neg (by omega)]
      exact y_v ⟨e2, e3, e4, hY.2.2.2.1, g⟩
    · rw [if_neg q]
      exact y_v ⟨e2, e3, e4, hY.2.2.2.1, g⟩
  | succ j ih =>
    intro i tk pl m σ i0 hi t0 t1 hp e2 e3 e4 hY g
    have b1 := hY.1.2.1
    have eM := hY.2.2.2.1
    have zin' := zw_in (el i)
    unfold zin at zin'
    rw [e_X12_goesAll_18, g 82 s rfl, hs0]
    refine y_g ⟨h0, h1⟩ (y_g (by omega) (y_g (by omega) ?_))
    rw [m_told (by omega) h0 h1 i0 (by omega), zCI_ri, g 83 _ rfl, hel i i0 (by omega)]
    refine y_if (fun q => ?_) (fun q => ?_)
    · rw [ytr_e (Or.inl q)]
      exact y_v ⟨e2, e3, e4, eM, g⟩
    · rw [zdiv_p (by omega) (by omega) (by decide), zrem_p (by omega), eM.1]
      refine y_n (by decide) (y_if (fun q2 => y_n (by decide) ?_) (fun q2 => ?_))
      · have nq : ¬ (zw (el i) < 0 ∨ ¬ zw (el i) / 3 < N 0 0) := by omega
        have r0 : 0 ≤ zw (el i) / 3 := by omega
        have hb := hY.1.2.2.1 _ r0 q2
        have pr := hY.2.2.1 _ r0 q2
        rw [m_isPl (by omega) eM r0 (by omega), zCI_ri, y01]
        have stop : ¬ ((N 1 (zw (el i) / 3) = pl ∨ N 2 (zw (el i) / 3) = pl) ∧ N 5 (zw (el i) / 3) = 0) → yT (zrv (zset σ 57 48 i)) (yV fun u => u 57 46 = (ytr N G el (j + 1) i tk pl m).1 ∧ u 57 47 = (ytr N G el (j + 1) i tk pl m).2.1 ∧ u 57 48 = (ytr N G el (j + 1) i tk pl m).2.2.1 ∧ yM N (N 5) (ytr N G el (j + 1) i tk pl m).2.2.2 u ∧ yf yAy σ0 u) := by
          intro h
          rw [ytr_s nq h]
          exact y_v ⟨e2, e3, rfl, yM_f eM (A := ([], [(57, 48)])) (yf_set yf_rf rfl) (by decide), yf_set g rfl⟩
        refine y_if (fun z => stop (fun h => by omega)) (fun z => ?_)
        rw [m_ends (by omega) eM _ r0 (by omega), zCI_ri, y01, e3]
        refine y_if (fun w => ?_) (fun w => stop (fun h => w h.1))
        refine y_cI (m_hours hd hY r0 q2) (fun v s1 hs1 => y_g (by omega) (y_g (by omega) (y_n (by decide) ?_)))
        have bv := yHR_b N G (N 5) m (zw (el i) / 3)
        have hr := (yM_f eM hs1.2 (by decide)).2.2 _ r0 (by omega)
        rw [e2, hs1.1, zw_i (x := tk + yHR N G (N 5) m (zw (el i) / 3)) (by omega) (by omega), hr.1, hr.2.1, show s1 57 47 = pl from (hs1.2 57 47 rfl).trans e3, zw_i (x := N 1 (zw (el i) / 3) + N 2 (zw (el i) / 3)) (by omega) (by omega), zw_i (x := N 1 (zw (el i) / 3) + N 2 (zw (el i) / 3) - pl) (by omega) (by omega)]
        have f2 : yf ([], [(57, 46), (57, 47)]) s1 (zset (zset s1 57 46 (tk + yHR N G (N 5) m (zw (el i) / 3))) 57 47 (N 1 (zw (el i) / 3) + N 2 (zw (el i) / 3) - pl)) := yf_set (yf_set yf_rf rfl) rfl
        refine y_cV (m_word (by omega) (zw (el i) % 3) hY.1 hY.2.1 (yM_f (yM_f eM hs1.2 (by decide)) f2 (by decide)) r0 q2) (fun s3 hs3 => ?_)
        have f3 : yf yAy σ s3 := yf_tr (yf_le hs1.2 (by decide)) (yf_tr (yf_le f2 (by decide)) (yf_le hs3.2 (by decide)))
        rw [ytr_g nq ⟨w, by omega⟩, zw_i (x := i + 1) (by omega) (by omega)]
        refine ih (i + 1) _ _ _ _ (by omega) (by omega) (by omega) (by omega) (by omega) ?_ ?_ ?_ ⟨hY.1, yw_b r0 (by omega) hY.2.1, hY.2.2.1, hs3.1, yLM_f hY.2.2.2.2 f3 (by decide)⟩ (yf_tr g f3)
        · rw [hs3.2 57 46 rfl]; rfl
        · rw [hs3.2 57 47 rfl]; rfl
        · rw [hs3.2 57 48 rfl]; exact (hs1.2 57 48 rfl).trans e4
      · rw [ytr_e (Or.inr q2)]
        exact y_v ⟨e2, e3, e4, eM, g⟩
theorem o_trip {x y z : Int} (hz : zin z) : yStep 117 208 [.inr (.inl x), .inr (.inl y), .inr (.inl z)] := by
  intro d hd c N G σ hI c0 c1
  obtain ⟨d, rfl, hd'⟩ := y_d hd; have hd := hd'
  obtain ⟨n1, n2, n3, n4⟩ := yI_n hI
  unfold zin at hz
  have oft : ∀ s : zF, s 1 0 = N 0 0 → zx d 118 [.inl (some 0), .inr (.inl z)] s = zri (if 0 ≤ z ∧ z ≤ 2 ∨ 10 ≤ z ∧ z - 10 < N 0 0 then 1 else 0) s := by
    intro s hs
    obtain ⟨d, rfl, hd'⟩ := y_d (k := 140) (d := d) (by omega)
    rw [e_X11_isOfTrip]
    by_cases q : z < 0
    · rw [if_pos q, if_pos (by omega), if_neg (by omega)]
    · rw [if_neg q]
      by_cases q2 : 2 < z
      · rw [if_pos q2]
        by_cases q3 : z < 10
        · rw [if_pos q3, if_neg (by omega)]
        · rw [if_neg q3, zw_i (by omega) (by omega), k_isRoad (by omega), zCI_ri, y01, hs, y_ri]
          exact congrArg (fun z => zri z s) (y_cc (by omega))
      · rw [if_neg q2, if_pos (by omega)]
  have mod : ∀ s : zF, s 57 0 = N 0 0 → zx (d + 1) 208 [.inl (some 57), .inr (.inl x), .inr (.inl y), .inr (.inl z)] s = if 0 ≤ x ∧ x < 6 then (if 0 ≤ y ∧ y < 8 then (if 0 ≤ z ∧ z ≤ 2 ∨ 10 ≤ z ∧ z - 10 < N 0 0 then P_X12_trip_34 d x y z s else zri (-2000000000) s) else zri (-2000000000) s) else zri (-2000000000) s := by
    intro s hs
    rw [e_X12_trip, k_mShelf (by omega), zCI_ri, y01, k_mPlace (by omega), zCI_ri, y01, k_within (by omega), zCI_ri, y01, k_mRoad (by omega) (zw (z - 10)) (by omega), zCI_ri, y01, hs]
    refine congrArg (fun q => if 0 ≤ x ∧ x < 6 then (if 0 ≤ y ∧ y < 8 then q else zri (-2000000000) s) else zri (-2000000000) s) ?_
    by_cases q : 0 ≤ z ∧ z ≤ 2
    · rw [if_pos q, if_pos (Or.inl q)]
    · rw [if_neg q]
      refine y_cc ?_
      unfold zw
      omega
  have bad : ∀ (h : ¬ (0 ≤ x ∧ x < 6) ∨ ¬ (0 ≤ y ∧ y < 8) ∨ ¬ (0 ≤ z ∧ z ≤ 2 ∨ 10 ≤ z ∧ z - 10 < N 0 0)), yT (zri (-2000000000) σ) (yI fun v s => yT (zx (d + 1) 208 [.inl (some 57), .inr (.inl x), .inr (.inl y), .inr (.inl z)] s) (yI fun w t => w = v ∧ ∃ N' G', yInv (c + 1) N' G' t)) := by
    intro h
    refine y_i ?_
    rw [mod σ n2]
    by_cases q1 : 0 ≤ x ∧ x < 6
    · rw [if_pos q1]
      by_cases q2 : 0 ≤ y ∧ y < 8
      · rw [if_pos q2, if_neg (by rcases h with h | h | h; exact absurd q1 h; exact absurd q2 h; exact h)]
        exact y_i ⟨rfl, N, G, yInv_id hI⟩
      · rw [if_neg q2]
        exact y_i ⟨rfl, N, G, yInv_id hI⟩
    · rw [if_neg q1]
      exact y_i ⟨rfl, N, G, yInv_id hI⟩
  rw [e_X11_trip, k_isShelf (by omega), zCI_ri, y01, k_isPlace (by omega), zCI_ri, y01, oft σ n1, zCI_ri, y01]
  refine y_if (fun h1 => y_if (fun h2 => y_if (fun h3 => ?_) (fun h => bad (Or.inr (Or.inr h)))) (fun h => bad (Or.inr (Or.inl h)))) (fun h => bad (Or.inl h))
  have hsh := hI.2.2.2.2.2.2.2.2.2 x h1.1 h1.2
  rw [k_zaa h1.1 h1.2, k_cls h1.1 h1.2, k_isRowOf (by omega) h1.1 h1.2, zCI_ri, y01]
  refine y_b rfl (y_if (fun q => ?_) (fun q => y_i ?_))
  · have h81 : σ 81 x = 0 := by
      obtain ⟨g1, g2, g3, g4, g5⟩ := hsh
      omega
    have hsz : 0 ≤ σ (ysh x) 1 ∧ σ (ysh x) 1 ≤ 60 := ⟨hsh.1, hsh.2.1⟩
    rw [k_zaa h1.1 h1.2]
    have main : yT (zx d 102 [.inl (some 31), .inl (some (ysh x)), .inr (.inl y)] σ) (yV fun u => u 31 2 = (ytr N G (σ (ysr x)) (min 20 (σ (ysh x) 1)).toNat 0 0 y (N 6)).1 ∧ u 31 3 = (ytr N G (σ (ysr x)) (min 20 (σ (ysh x) 1)).toNat 0 0 y (N 6)).2.1 ∧ u 31 4 = (ytr N G (σ (ysr x)) (min 20 (σ (ysh x) 1)).toNat 0 0 y (N 6)).2.2.1 ∧ yX N G (σ 17 5 + 1) (-1) (ytr N G (σ (ysr x)) (min 20 (σ (ysh x) 1)).toNat 0 0 y (N 6)).2.2.2 u ∧ yf ySC σ u) := by
      obtain ⟨d, rfl, hd'⟩ := y_d (k := 140) (d := d) (by omega)
      rw [e_X10_go]
      refine y_cV (c_begin (by omega) (-1) hI.1 (yI_t hI c1)) (fun s hs => ?_)
      have f1 : yf ([], [(31, 2), (31, 3), (31, 4)]) s (zset (zset (zset s 31 2 0) 31 3 y) 31 4 (-2)) := yf_set (yf_set (yf_set yf_rf rfl) rfl) rfl
      have fs : yf ySC σ (zset (zset (zset s 31 2 0) 31 3 y) 31 4 (-2)) := yf_tr (yf_le hs.2 (by decide)) (yf_le f1 (by decide))
      have o := fun i => yoff (A := ySC) (by decide) h1.1 h1.2 i
      refine y_mV (c_go_l (by omega) (sz := σ (ysh x) 1) (el := σ (ysr x)) h1.1 h1.2 hsz (fs _ _ (o 1).1) (fun i _ _ => fs _ _ (o i).2) (min 20 (σ (ysh x) 1)).toNat 0 0 y (N 6) _ (by omega) (by omega) (by omega) (by omega) h2 rfl rfl rfl (yX_f hs.1 f1 (by decide)) yf_rf) (fun u hu => ⟨hu.1, hu.2.1, hu.2.2.1, hu.2.2.2.1, yf_tr fs (yf_le hu.2.2.2.2 (by decide))⟩)
    refine y_cV main (fun s hs => ?_)
    obtain ⟨r1, r2, r3, hX, f⟩ := hs
    have hY := yY_f hI.2.1 f (by decide)
    have ns : s 57 0 = N 0 0 := hY.2.2.2.1.1
    have fin : ∀ v, v = (if z = 0 then (ytr N G (σ (ysr x)) (min 20 (σ (ysh x) 1)).toNat 0 0 y (N 6)).1 else if z = 1 then (ytr N G (σ (ysr x)) (min 20 (σ (ysh x) 1)).toNat 0 0 y (N 6)).2.1 else if z = 2 then (ytr N G (σ (ysr x)) (min 20 (σ (ysh x) 1)).toNat 0 0 y (N 6)).2.2.1 else (ytr N G (σ (ysr x)) (min 20 (σ (ysh x) 1)).toNat 0 0 y (N 6)).2.2.2 (z - 10)) → yT (zri v s) (yI fun v s => yT (zx (d + 1) 208 [.inl (some 57), .inr (.inl x), .inr (.inl y), .inr (.inl z)] s) (yI fun w t => w = v ∧ ∃ N' G', yInv (c + 1) N' G' t)) := by
      intro v hv
      refine y_i ?_
      rw [mod s ns, if_pos h1, if_pos h2, if_pos h3, e_X12_trip_34, f 81 x rfl]
      refine y_g h1 (y_g h81 (y_cV (m_keep86 (by omega) hY.2.2.2.1) (fun t ht => ?_)))
      have ft : yf ([86], []) s t := ht.2
      have m207 : yT (zx d 207 [.inl (some 57), .inr (.inl x), .inr (.inl y)] t) (yV fun u => u 57 46 = (ytr N G (σ (ysr x)) (min 20 (σ (ysh x) 1)).toNat 0 0 y (N 6)).1 ∧ u 57 47 = (ytr N G (σ (ysr x)) (min 20 (σ (ysh x) 1)).toNat 0 0 y (N 6)).2.1 ∧ u 57 48 = (ytr N G (σ (ysr x)) (min 20 (σ (ysh x) 1)).toNat 0 0 y (N 6)).2.2.1 ∧ yM N (N 5) (ytr N G (σ (ysr x)) (min 20 (σ (ysh x) 1)).toNat 0 0 y (N 6)).2.2.2 u ∧ yf yAy t u) := by
        obtain ⟨d, rfl, hd'⟩ := y_d (k := 140) (d := d) (by omega)
        rw [e_X12_goesAll]
        have f1 : yf yAy t (zset (zset (zset t 57 46 0) 57 47 y) 57 48 (-2)) := yf_set (yf_set (yf_set yf_rf rfl) rfl) rfl
        have f1' : yf ([], [(57, 46), (57, 47), (57, 48)]) t (zset (zset (zset t 57 46 0) 57 47 y) 57 48 (-2)) := yf_set (yf_set (yf_set yf_rf rfl) rfl) rfl
        refine y_mV (m_go_l (by omega) (sz := σ (ysh x) 1) (el := σ (ysr x)) (σ0 := t) h1.1 h1.2 hsz ((ft 82 x rfl).trans ((f 82 x rfl).trans hsh.2.2.1.symm)) (fun i a b => (ft 83 _ rfl).trans ((f 83 _ rfl).trans (hsh.2.2.2.2 i a b).1.symm)) (min 20 (σ (ysh x) 1)).toNat 0 0 y (N 6) _ (by omega) (by omega) (by omega) (by omega) h2 rfl rfl rfl (yY_f (yY_f hY ft (by decide)) f1' (by decide)) f1) (fun u hu => hu)
      refine y_cV m207 (fun u hu => ?_)
      obtain ⟨q1, q2, q3, q4, q5⟩ := hu
      have ag := m_again86 (d := d) (by omega) (m := N 6) q4 (fun c a b => (q5 86 c rfl).trans (ht.1 c a b))
      have done : ∀ (t2 : zF), yM N (N 5) (N 6) t2 ∧ yf ([60], []) u t2 → yInv (c + 1) N G t2 := fun t2 h2 => yth hI hX (by omega) f h2.1 (yf_tr (yf_le ft (by decide)) (yf_tr (yf_le q5 (by decide)) (yf_le h2.2 (by decide))))
      refine y_if (fun e => y_cV ag (fun t2 h2 => y_i ⟨?_, N, G, done t2 h2⟩)) (fun e => y_if (fun e1 => y_cV ag (fun t2 h2 => y_i ⟨?_, N, G, done t2 h2⟩)) (fun e1 => y_if (fun e2 => y_cV ag (fun t2 h2 => y_i ⟨?_, N, G, done t2 h2⟩)) (fun e2 => ?_)))
      · rw [hv, if_pos e]; exact q1
      · rw [hv, if_neg e, if_pos e1]; exact q2
      · rw [hv, if_neg e, if_neg e1, if_pos e2]; exact q3
      · have w : zw ((zw (12 + z)) - 10) = 12 + (z - 10) := by
          rw [zw_i (x := 12 + z) (by omega) (by omega), zw_i (by omega) (by omega)]
          omega
        rw [w]
        refine y_g (by omega) (y_cV ag (fun t2 h2 => y_i ⟨?_, N, G, done t2 h2⟩))
        rw [hv, if_neg e, if_neg e1, if_neg e2]
        exact (q4.2.2 (z - 10) (by omega) (by omega)).2.2.2.2.2
    refine y_if (fun e => fin _ ?_) (fun e => y_if (fun e1 => fin _ ?_) (fun e1 => y_if (fun e2 => fin _ ?_) (fun e2 => ?_)))
    · rw [if_pos e]; exact r1
    · rw [if_neg e, if_pos e1]; exact r2
    · rw [if_neg e, if_neg e1, if_pos e2]; exact r3
    · rw [zw_i (x := z - 10) (by omega) (by omega)]
      refine y_g (by omega) (fin _ ?_)
      rw [if_neg e, if_neg e1, if_neg e2]
      exact hX.2.2.2.2.2.2.2.2.1 (z - 10) (by omega) (by omega)
  · rw [mod σ n2, if_pos h1, if_pos h2, if_pos h3, e_X12_trip_34]
    refine y_g h1 (y_n ?_ (y_i ⟨rfl, N, G, yInv_id hI⟩))
    obtain ⟨g1, g2, g3, g4, g5⟩ := hsh
    omega
