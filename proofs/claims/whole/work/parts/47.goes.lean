/-! in deed -/
def yNu (N : zF) (k0 : Nat) (f : Int → Int) : zF := fun k i => if k = k0 then f i else N k i
def yl2 (S S' : zF) : Prop := ∀ i, 0 ≤ i → i < 5 → S 10 i = S' 74 i
theorem yl2_set {S S' : zF} {k v v' : Int} (h : yl2 S S') (hv : v = v') : yl2 (zset S 10 k v) (zset S' 74 k v') := by
  intro i a b
  by_cases e : i = k
  · rw [zset_hit e, zset_hit e, hv]
  · rw [zset_off e, zset_off e]
    exact h i a b
theorem yBn_6 {N : zF} {m : Int → Int} (hB : yBn N) (hm : yBm m) (h0 : ∀ r, N 0 0 ≤ r → r < 12 → m r = 0) : yBn (yNu N 6 m) := ⟨hB.1, hB.2.1, hB.2.2.1, hm, fun r a b => ⟨h0 r a b, (hB.2.2.2.2 r a b).2⟩⟩
theorem yw_out {N : zF} (hB : yBn N) {y z : Int} (h : 0 ≤ y ∧ y < N 0 0) : ∀ r, N 0 0 ≤ r → r < 12 → yw N y z (N 6) r = 0 := by
  intro r a b
  have := (hB.2.2.2.2 r a b).1
  unfold yw yws
  split
  · rw [if_neg (by omega), if_neg (by omega)]
    exact this
  · split
    · rw [if_neg (by omega)]
      exact this
    · exact this
abbrev yAg : List Nat × List (Nat × Int) := ([5, 8, 16, 18, 19, 20, 21, 60, 61, 72, 73], [(14, 3), (17, 5), (17, 9), (10, 0), (10, 1), (10, 2), (10, 3), (74, 0), (74, 1), (74, 2), (74, 3)])
theorem o_goes {x y z : Int} : yStep 129 230 [.inr (.inl x), .inr (.inl y), .inr (.inl z)] := by
  intro d hd c N G σ hI c0 c1
  obtain ⟨d, rfl, hd'⟩ := y_d hd; have hd := hd'
  obtain ⟨n1, n2, n3, n4⟩ := yI_n hI
  have hB := hI.1.1
  have hC := hI.1.2.1
  have hY := hI.2.1
  obtain ⟨hTr, hLd, hTp, hHs, hIm, hSt, hSh⟩ := hI.2.2.2
  obtain ⟨p1, p2, p3, p4⟩ := hTr
  have bad : ∀ (w : Int), (w = (if (0 ≤ x ∧ x < σ 1 1) ∧ (0 ≤ y ∧ y < N 0 0) ∧ (0 ≤ z ∧ z ≤ 2) then -5 else -1)) → (((0 ≤ x ∧ x < σ 1 1) ∧ (0 ≤ y ∧ y < N 0 0) ∧ (0 ≤ z ∧ z ≤ 2)) → ¬ (N 5 y = 0 ∧ (N 1 y = σ 8 x ∨ N 2 y = σ 8 x))) → yT (zri w σ) (yI fun v s => yT (zx (d + 1) 230 [.inl (some 57), .inr (.inl x), .inr (.inl y), .inr (.inl z)] s) (yI fun w t => w = v ∧ ∃ N' G', yInv (c + 1) N' G' t)) := by
    rintro w rfl hno
    refine y_i ?_
    rw [e_X12_goes, k_mOne (by omega) x (by omega), zCI_ri, y01, k_mRoad (by omega) y (by omega), zCI_ri, y01, k_within (by omega), zCI_ri, y01, ← p1, n2]
    by_cases q1 : 0 ≤ x ∧ x < σ 1 1
    · rw [if_pos q1]
      by_cases q2 : 0 ≤ y ∧ y < N 0 0
      · rw [if_pos q2]
        by_cases q3 : 0 ≤ z ∧ z ≤ 2
        · have hno' := hno ⟨q1, q2, q3⟩
          have hal : (0 ≤ x ∧ x < σ 1 1) ∧ (0 ≤ y ∧ y < N 0 0) ∧ (0 ≤ z ∧ z ≤ 2) := ⟨q1, q2, q3⟩
          have p5 := hY.2.2.1 y q2.1 q2.2
          have pl := p4 x q1.1 (by omega)
          rw [if_pos q3, m_isPl (by omega) hY.2.2.2.1 q2.1 (by omega), zCI_ri, y01, if_pos hal]
          by_cases q4 : N 5 y = 1
          · rw [if_pos q4]
            exact y_i ⟨rfl, N, G, yInv_id hI⟩
          · rw [if_neg q4, if_pos (by omega), ← pl.1, m_ends (by omega) hY.2.2.2.1 _ q2.1 (by omega), zCI_ri, y01, if_neg (fun h => hno' ⟨by omega, h⟩)]
            exact y_i ⟨rfl, N, G, yInv_id hI⟩
        · rw [if_neg q3, if_neg (fun h => q3 h.2.2)]
          exact y_i ⟨rfl, N, G, yInv_id hI⟩
      · rw [if_neg q2, if_neg (fun h => q2 h.2.1)]
        exact y_i ⟨rfl, N, G, yInv_id hI⟩
    · rw [if_neg q1, if_neg (fun h => q1 h.1)]
      exact y_i ⟨rfl, N, G, yInv_id hI⟩
  rw [e_X11_goes, k_isTrav (by omega), zCI_ri, y01, k_isRoad (by omega), zCI_ri, y01, n1, y_rg]
  refine y_if (fun h1 => y_if (fun h2 => y_if (fun h3 => ?_) (fun h => bad (-1) ?_ ?_)) (fun h => bad (-1) ?_ ?_)) (fun h => bad (-1) ?_ ?_)
  · have pl := p4 x h1.1 (by omega)
    have plb := pl.2.2 h1.2
    have hb := hB.2.2.1 y h2.1 h2.2
    have hall : (0 ≤ x ∧ x < σ 1 1) ∧ (0 ≤ y ∧ y < N 0 0) ∧ (0 ≤ z ∧ z ≤ 2) := ⟨h1, h2, h3⟩
    refine y_g (by omega) ?_
    rw [c_other (by omega) hC _ h2.1 (by omega), zCI_ri, (hC.2.2 y h2.1 (by omega)).2.2.2.2.1]
    by_cases w : N 1 y = σ 8 x ∨ N 2 y = σ 8 x
    · have eo : (if N 1 y = σ 8 x then N 2 y else if N 2 y = σ 8 x then N 1 y else -1) = N 1 y + N 2 y - σ 8 x := by
        split
        · omega
        · split <;> omega
      rw [eo]
      refine y_n (by omega) (y_g (by omega) (y_if (fun hp => ?_) (fun hp => bad (-5) (by rw [if_pos hall]) (fun _ h => hp h.1))))
      refine y_cV (c_begin (by omega) (-1) hI.1 (yI_t hI c1)) (fun s7 hs7 => ?_)
      refine y_cI (c_takes (by omega) hs7.1 h2.1 h2.2) (fun v s8 hs8 => ?_)
      have hv : v = yHR N G (N 5) (N 6) y := by rw [hs8.1, yHR_w]
      have f8 : yf yAg σ s8 := yf_tr (yf_le hs7.2 (by decide)) (yf_le hs8.2.2 (by decide))
      have e10 : ∀ i, s8 10 i = σ 10 i := fun i => by rw [hs8.2.2 10 i rfl, hs7.2 10 i rfl]
      have P8 := yX_P hs8.2.1
      have key : ∀ (S : zF) (fin : zF → zF), yf ([8], [(10, 0), (10, 1), (10, 2), (10, 3)]) s8 S → (S 8 = fun i => if i = x then N 1 y + N 2 y - σ 8 x else σ 8 i) → (∀ u : zF, yl2 S u → True) → (∀ (t13 : zF), yl2 s8 t13 → yf ([], [(74, 0), (74, 1), (74, 2), (74, 3)]) t13 (fin t13) ∧ yl2 S (fin t13)) → (∀ (t13 : zF), (if 0 ≤ (0 : Int) ∧ 0 < 5 then (if 0 ≤ (0 : Int) ∧ 0 < 5 then (if 0 ≤ (1 : Int) ∧ 1 < 5 then (if 0 ≤ (1 : Int) ∧ 1 < 5 then (if z = 1 then (if 0 ≤ (2 : Int) ∧ 2 < 5 then (if 0 ≤ (2 : Int) ∧ 2 < 5 then (if z = 2 then (if 0 ≤ (3 : Int) ∧ 3 < 5 then (if 0 ≤ (3 : Int) ∧ 3 < 5 then zri v (zset (zset (zset (zset t13 74 0 (zw ((t13 74 0) + 1))) 74 1 (zw ((t13 74 1) + v))) 74 2 (zw ((t13 74 2) + 1))) 74 3 (zw ((t13 74 3) + 1))) else none) else none) else zri v (zset (zset (zset t13 74 0 (zw ((t13 74 0) + 1))) 74 1 (zw ((t13 74 1) + v))) 74 2 (zw ((t13 74 2) + 1)))) else none) else none) else (if z = 2 then (if 0 ≤ (3 : Int) ∧ 3 < 5 then (if 0 ≤ (3 : Int) ∧ 3 < 5 then zri v (zset (zset (zset t13 74 0 (zw ((t13 74 0) + 1))) 74 1 (zw ((t13 74 1) + v))) 74 3 (zw ((t13 74 3) + 1))) else none) else none) else zri v (zset (zset t13 74 0 (zw ((t13 74 0) + 1))) 74 1 (zw ((t13 74 1) + v))))) else none) else none) else none) else none) = zri v (fin t13)) → yT (zCV LAY (zx d 25 [.inl (some 1), .inl (some 5), .inr (.inl y), .inr (.inl z)] S) fun s12 => zri v s12) (yI fun v s => yT (zx (d + 1) 230 [.inl (some 57), .inr (.inl x), .inr (.inl y), .inr (.inl z)] s) (yI fun w t => w = v ∧ ∃ N' G', yInv (c + 1) N' G' t)) := by
        intro S fin fS eS _ hfin hcode
        have hCS : yC N S := yC_g (yf_g fS (by decide)) hs8.2.1.2.2.2.2.1
        refine y_cV (c_say5 (by omega) z hB hB.2.2.2.1 hCS h2.1 h2.2 (fun c a b => (hCS.2.2 c a b).2.2.2.2.2)) (fun s12 hs12 => y_i ?_)
        have f12 : yf yAg s8 s12 := yf_tr (yf_le fS (by decide)) (yf_le hs12.2 (by decide))
        have fσ : yf yAg σ s12 := yf_tr f8 f12
        have hY12 : yY N G (N 5) (N 6) s12 := by
          have fm : yf ([5, 8, 16, 18, 19, 20, 21], [(14, 3), (17, 5), (17, 9), (10, 0), (10, 1), (10, 2), (10, 3)]) σ s12 := yf_tr (yf_tr (yf_le hs7.2 (by decide)) (yf_le hs8.2.2 (by decide))) (yf_tr (yf_le fS (by decide)) (yf_le hs12.2 (by decide)))
          exact yY_f hY fm (by decide)
        have fm61 : ∀ i, s12 61 i = σ 61 i := fun i => by rw [hs12.2 61 i rfl, fS 61 i rfl, hs8.2.2 61 i rfl, hs7.2 61 i rfl]
        have fm74 : ∀ i, s12 74 i = σ 74 i := fun i => by rw [hs12.2 74 i rfl, fS 74 i rfl, hs8.2.2 74 i rfl, hs7.2 74 i rfl]
        have e1 : s12 57 4 = σ 57 4 := fσ 57 4 rfl
        rw [e_X12_goes, k_mOne (by omega) x (by omega), zCI_ri, y01, k_mRoad (by omega) y (by have := hY12.2.2.2.1.1; omega), zCI_ri, y01, k_within (by omega), zCI_ri, y01, e1, ← p1, hY12.2.2.2.1.1, if_pos h1, if_pos h2, if_pos h3, m_isPl (by omega) hY12.2.2.2.1 h2.1 (by omega), zCI_ri, y01, if_neg (by omega), if_pos (by omega), fm61, ← pl.1, m_ends (by omega) hY12.2.2.2.1 _ h2.1 (by omega), zCI_ri, y01, if_pos w]
        refine y_cI (m_hours (by omega) hY12 h2.1 h2.2) (fun v2 s11 hs11 => ?_)
        have ev : v2 = v := by rw [hs11.1, hv]
        subst ev
        have h11 := (yM_f hY12.2.2.2.1 hs11.2 (by decide)).2.2 y h2.1 (by omega)
        have e61 : s11 61 x = σ 8 x := by rw [hs11.2 61 x rfl, fm61, ← pl.1]
        rw [h11.1, h11.2.1, e61, zw_i (x := N 1 y + N 2 y) (by omega) (by omega), zw_i (x := N 1 y + N 2 y - σ 8 x) (by omega) (by omega)]
        refine y_g (by omega) (y_g (by omega) (y_g (by omega) (y_g (by omega) ?_)))
        have f61 : yf ([61], []) s11 (zset s11 61 x (N 1 y + N 2 y - σ 8 x)) := yf_set yf_rf rfl
        refine y_cV (m_word (by omega) z hB hB.2.2.2.1 (yM_f (yM_f hY12.2.2.2.1 hs11.2 (by decide)) f61 (by decide)) h2.1 h2.2) (fun t13 ht13 => ?_)
        have ft : yf ([60, 61, 72, 73], []) s12 t13 := yf_tr (yf_le hs11.2 (by decide)) (yf_tr (yf_le f61 (by decide)) (yf_le ht13.2 (by decide)))
        rw [hcode t13]
        have l13 : yl2 s8 t13 := fun i a b => by rw [e10 i, ft 74 i rfl, fm74 i]; exact hLd i a b
        obtain ⟨ff, lf⟩ := hfin t13 l13
        have fT : yf yAg σ (fin t13) := yf_tr fσ (yf_tr (yf_le ft (by decide)) (yf_le ff (by decide)))
        have fsT : yf ([60, 61, 72, 73], [(74, 0), (74, 1), (74, 2), (74, 3)]) s12 (fin t13) := yf_tr (yf_le ft (by decide)) (yf_le ff (by decide))
        refine y_i ⟨rfl, yNu N 6 (yw N y z (N 6)), G, ?_, ?_, ?_, ?_⟩
        · -- the component
          refine ⟨yBn_6 hB (yw_b h2.1 (by omega) hB.2.2.2.1) (yw_out hB h2), ⟨?_, ?_, fun r a b => ?_⟩, ?_, ?_, fun i a b => ?_⟩
          · rw [fT 1 0 rfl]; exact n1
          · rw [fT 10 4 rfl]; exact hC.2.1
          · have q := hC.2.2 r a b
            refine ⟨(fT 2 r rfl).trans q.1, (fT 3 r rfl).trans q.2.1, (fT 4 r rfl).trans q.2.2.1, (fT 6 r rfl).trans q.2.2.2.1, (fT 7 r rfl).trans q.2.2.2.2.1, ?_⟩
            rw [fsT 5 r rfl]
            exact hs12.1 r a b
          · exact yLC_g (yf_g fT (by decide)) hI.1.2.2.1
          · have e17 : fin t13 17 5 = s8 17 5 := by rw [fsT 17 5 rfl, hs12.2 17 5 rfl, fS 17 5 rfl]
            rw [e17]
            exact P8.1.2.2.2.1
          · have e17 : fin t13 17 5 = s8 17 5 := by rw [fsT 17 5 rfl, hs12.2 17 5 rfl, fS 17 5 rfl]
            have e20 : fin t13 20 i = s8 20 i := by rw [fsT 20 i rfl, hs12.2 20 i rfl, fS 20 i rfl]
            rw [e17, e20]
            exact P8.1.2.2.2.2 i a b
        · exact ⟨yBn_6 hB (yw_b h2.1 (by omega) hB.2.2.2.1) (yw_out hB h2), yw_b h2.1 (by omega) hB.2.2.2.1, hY.2.2.1, yM_f ht13.1 ff (by decide), yLM_g (yf_g fT (by decide)) hY.2.2.2.2⟩
        · have e17 : fin t13 17 5 = s8 17 5 := by rw [fsT 17 5 rfl, hs12.2 17 5 rfl, fS 17 5 rfl]
          rw [e17, P8.2]
          have := hI.2.2.1
          omega
        · refine ⟨⟨?_, ?_, ?_, fun i a b => ?_⟩, fun i a b => ?_, yTp_g (yf_g fT (by decide)) hTp, yHs_g (yf_g fT (by decide)) hHs, yIm_g (yf_g fT (by decide)) hIm, ySt_g (yf_g fT (by decide)) hSt, ySh_g (yf_g fT (by decide)) hSh⟩
          · rw [fT 1 1 rfl, fT 57 4 rfl]; exact p1
          · rw [fT 1 1 rfl]; exact p2
          · rw [fT 1 1 rfl]; exact p3
          · have q := p4 i a b
            have e8 : fin t13 8 i = if i = x then N 1 y + N 2 y - σ 8 x else σ 8 i := by
              rw [fsT 8 i rfl, hs12.2 8 i rfl, eS]
            have e61' : fin t13 61 i = if i = x then N 1 y + N 2 y - σ 8 x else σ 61 i := by
              rw [ff 61 i rfl, ht13.2 61 i rfl]
              by_cases e : i = x
              · rw [zset_hit e, if_pos e]
              · rw [zset_off e, if_neg e, hs11.2 61 i rfl, fm61]
            rw [e8, e61', fT 9 i rfl, fT 62 i rfl, fT 1 1 rfl]
            refine ⟨?_, q.2.1, fun hi => ?_⟩
            · by_cases e : i = x
              · rw [if_pos e, if_pos e]
              · rw [if_neg e, if_neg e]; exact q.1
            · have q3 := q.2.2 hi
              by_cases e : i = x
              · rw [if_pos e]; omega
              · rw [if_neg e]; exact q3
          · have := lf i a b
            rw [fsT 10 i rfl, hs12.2 10 i rfl]
            exact this
      have r05 : 0 ≤ (0 : Int) ∧ 0 < 5 := by decide
      have r15 : 0 ≤ (1 : Int) ∧ 1 < 5 := by decide
      have r25 : 0 ≤ (2 : Int) ∧ 2 < 5 := by decide
      have r35 : 0 ≤ (3 : Int) ∧ 3 < 5 := by decide
      have e8f : ∀ i, s8 8 i = σ 8 i := fun i => by rw [hs8.2.2 8 i rfl, hs7.2 8 i rfl]
      have z8 : (fun i => zset s8 8 x (N 1 y + N 2 y - σ 8 x) 8 i) = fun i => if i = x then N 1 y + N 2 y - σ 8 x else σ 8 i := by
        funext i
        by_cases e : i = x
        · rw [zset_hit e, if_pos e]
        · rw [zset_off e, if_neg e, e8f]
      refine y_g (by omega) (y_g r05 (y_g r05 (y_g r15 (y_g r15 (y_if (fun z1 => y_g r25 (y_g r25 ?_)) (fun z1 => y_if (fun z2 => y_g r35 (y_g r35 ?_)) (fun z2 => ?_)))))))
      · refine key _ (fun t => zset (zset (zset t 74 0 (zw ((t 74 0) + 1))) 74 1 (zw ((t 74 1) + v))) 74 2 (zw ((t 74 2) + 1))) (yf_set (yf_set (yf_set (yf_set yf_rf rfl) rfl) rfl) rfl) z8 (fun _ _ => trivial) (fun t ht => ⟨yf_set (yf_set (yf_set yf_rf rfl) rfl) rfl, ?_⟩) (fun t => ?_)
        · refine yl2_set (yl2_set (yl2_set (fun i a b => ht i a b) ?_) ?_) ?_
          · rw [ht 0 (by decide) (by decide)]
          · rw [ht 1 (by decide) (by decide)]
          · rw [ht 2 (by decide) (by decide)]
        · rw [if_pos r05, if_pos r05, if_pos r15, if_pos r15, if_pos z1, if_pos r25, if_pos r25, if_neg (by omega)]
      · refine key _ (fun t => zset (zset (zset t 74 0 (zw ((t 74 0) + 1))) 74 1 (zw ((t 74 1) + v))) 74 3 (zw ((t 74 3) + 1))) (yf_set (yf_set (yf_set (yf_set yf_rf rfl) rfl) rfl) rfl) z8 (fun _ _ => trivial) (fun t ht => ⟨yf_set (yf_set (yf_set yf_rf rfl) rfl) rfl, ?_⟩) (fun t => ?_)
        · refine yl2_set (yl2_set (yl2_set (fun i a b => ht i a b) ?_) ?_) ?_
          · rw [ht 0 (by decide) (by decide)]
          · rw [ht 1 (by decide) (by decide)]
          · rw [ht 3 (by decide) (by decide)]
        · rw [if_pos r05, if_pos r05, if_pos r15, if_pos r15, if_neg z1, if_pos z2, if_pos r35, if_pos r35]
      · refine key _ (fun t => zset (zset t 74 0 (zw ((t 74 0) + 1))) 74 1 (zw ((t 74 1) + v))) (yf_set (yf_set (yf_set yf_rf rfl) rfl) rfl) z8 (fun _ _ => trivial) (fun t ht => ⟨yf_set (yf_set yf_rf rfl) rfl, ?_⟩) (fun t => ?_)
        · refine yl2_set (yl2_set (fun i a b => ht i a b) ?_) ?_
          · rw [ht 0 (by decide) (by decide)]
          · rw [ht 1 (by decide) (by decide)]
        · rw [if_pos r05, if_pos r05, if_pos r15, if_pos r15, if_neg z1, if_neg z2]
    · have eo : (if N 1 y = σ 8 x then N 2 y else if N 2 y = σ 8 x then N 1 y else -1) = -1 := by
        rw [if_neg (fun h => w (Or.inl h)), if_neg (fun h => w (Or.inr h))]
      rw [eo]
      exact y_g rfl (bad (-5) (by rw [if_pos hall]) (fun _ h => w h.2))
  · rw [if_neg (fun q => h q.2.2)]
  · exact fun q => absurd q.2.2 h
  · rw [if_neg (fun q => h q.2.1)]
  · exact fun q => absurd q.2.1 h
  · rw [if_neg (fun q => h q.1)]
  · exact fun q => absurd q.1 h
