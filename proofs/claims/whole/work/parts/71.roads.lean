/-! roads from a row -/
abbrev yrok (a b l : Int) : Prop := (0 ≤ a ∧ a < 8) ∧ (0 ≤ b ∧ b < 8) ∧ ¬ a = b ∧ (1 ≤ l ∧ l ≤ 99)
def yWc (σ : zF) (n a b l : Int) : zF := zset (zset (zset (zset (zset σ 2 n a) 3 n b) 4 n l) 6 n (-1)) 1 0 (n + 1)
def yWm (σ : zF) (n a b l : Int) : zF := zset (zset (zset (zset (zset (zset (zset σ 58 n a) 59 n b) 60 n l) 60 (12 + n) 0) 60 (24 + n) (-1)) 60 (36 + n) 0) 57 0 (n + 1)
def yFc : List (Int × Int × Int) → Int → zF → zF
  | [], _, σ => σ
  | q :: L, n, σ => yFc L (n + 1) (yWc σ n q.1 q.2.1 q.2.2)
def yFm : List (Int × Int × Int) → Int → zF → zF
  | [], _, σ => σ
  | q :: L, n, σ => yFm L (n + 1) (yWm σ n q.1 q.2.1 q.2.2)
def yLR (ρ : Int → Int) (z : Int) : Nat → Int → Int → List (Int × Int × Int)
  | 0, _, _ => []
  | m + 1, p, n => if 0 ≤ p ∧ p + 3 ≤ z ∧ n < 12 ∧ yrok (zw (ρ p)) (zw (ρ (p + 1))) (zw (ρ (p + 2))) then (zw (ρ p), zw (ρ (p + 1)), zw (ρ (p + 2))) :: yLR ρ z m (p + 3) (n + 1) else []
theorem yLR_ok (ρ : Int → Int) (z : Int) : ∀ (m : Nat) (p n : Int), n ≤ 12 → (∀ q ∈ yLR ρ z m p n, yrok q.1 q.2.1 q.2.2) ∧ n + (yLR ρ z m p n).length ≤ 12 ∧ (yLR ρ z m p n).length ≤ m
  | 0, p, n, h => by
    unfold yLR
    exact ⟨fun q hq => absurd hq List.not_mem_nil, by simp; omega, by simp⟩
  | m + 1, p, n, h => by
    unfold yLR
    split
    · next hc =>
      have ih := yLR_ok ρ z m (p + 3) (n + 1) (by omega)
      refine ⟨fun q hq => ?_, ?_, ?_⟩
      · rcases List.mem_cons.mp hq with e | e
        · rw [e]; exact hc.2.2.2
        · exact ih.1 q e
      · rw [List.length_cons]
        have := ih.2.1
        omega
      · rw [List.length_cons]
        have := ih.2.2
        omega
    · exact ⟨fun q hq => absurd hq List.not_mem_nil, by simp; omega, by simp⟩
theorem zset_cm {σ : zF} {k k' : Nat} {i i' v v' : Int} (h : ¬ k = k') : zset (zset σ k i v) k' i' v' = zset (zset σ k' i' v') k i v := by
  funext q j
  rw [zset_eq, zset_eq, zset_eq, zset_eq]
  by_cases h1 : q = k' ∧ j = i'
  · rw [if_pos h1, if_neg (fun e => h (e.1.symm.trans h1.1)), if_pos h1]
  · rw [if_neg h1, if_neg h1]
theorem yWm_cm {σ : zF} {n a b l : Int} {k : Nat} {i v : Int} (hk : k < 57) : yWm (zset σ k i v) n a b l = zset (yWm σ n a b l) k i v := by
  unfold yWm
  rw [zset_cm (show ¬ k = 58 by omega), zset_cm (show ¬ k = 59 by omega), zset_cm (show ¬ k = 60 by omega), zset_cm (show ¬ k = 60 by omega), zset_cm (show ¬ k = 60 by omega), zset_cm (show ¬ k = 60 by omega), zset_cm (show ¬ k = 57 by omega)]
theorem yWm_Wc {σ : zF} {n a b l n' a' b' l' : Int} : yWm (yWc σ n' a' b' l') n a b l = yWc (yWm σ n a b l) n' a' b' l' := by
  unfold yWc
  rw [yWm_cm (by decide), yWm_cm (by decide), yWm_cm (by decide), yWm_cm (by decide), yWm_cm (by decide)]
theorem yWm_Fc {n a b l : Int} : ∀ (L : List (Int × Int × Int)) (n' : Int) (σ : zF), yWm (yFc L n' σ) n a b l = yFc L n' (yWm σ n a b l)
  | [], _, _ => rfl
  | q :: L, n', σ => by
    show yWm (yFc L (n' + 1) (yWc σ n' q.1 q.2.1 q.2.2)) n a b l = yFc L (n' + 1) (yWc (yWm σ n a b l) n' q.1 q.2.1 q.2.2)
    rw [yWm_Fc L, yWm_Wc]
theorem y_roads {c : Int} {G : yG} : ∀ (L : List (Int × Int × Int)) (N σ : zF), yInv c N G σ → (∀ q ∈ L, yrok q.1 q.2.1 q.2.2) → N 0 0 + L.length ≤ 12 → ∃ N', yInv c N' G (yFm L (N 0 0) (yFc L (N 0 0) σ))
  | [], N, σ, h, _, _ => ⟨N, h⟩
  | q :: L, N, σ, h, hq, hl => by
    rw [List.length_cons] at hl
    have k := hq q List.mem_cons_self
    have st : yInv c (yNr N q.1 q.2.1 q.2.2) G (yWm (yWc σ (N 0 0) q.1 q.2.1 q.2.2) (N 0 0) q.1 q.2.1 q.2.2) := y_road h (by omega) k.1 k.2.1 k.2.2.1 k.2.2.2 rfl rfl
    have e0 : yNr N q.1 q.2.1 q.2.2 0 0 = N 0 0 + 1 := if_pos ⟨rfl, rfl⟩
    obtain ⟨N', h'⟩ := y_roads L _ _ st (fun p hp => hq p (List.mem_cons_of_mem _ hp)) (by rw [e0]; omega)
    rw [e0] at h'
    refine ⟨N', ?_⟩
    show yInv c N' G (yFm L (N 0 0 + 1) (yWm (yFc L (N 0 0 + 1) (yWc σ (N 0 0) q.1 q.2.1 q.2.2)) (N 0 0) q.1 q.2.1 q.2.2))
    rw [yWm_Fc]
    exact h'
theorem yWc_o {σ : zF} {n a b l : Int} {k : Nat} {i : Int} (h : 6 < k) : yWc σ n a b l k i = σ k i := by
  unfold yWc
  rw [zset_k (by omega), zset_k (by omega), zset_k (by omega), zset_k (by omega), zset_k (by omega)]
theorem yFc_o {k : Nat} {i : Int} (h : 6 < k) : ∀ (L : List (Int × Int × Int)) (n : Int) (σ : zF), yFc L n σ k i = σ k i
  | [], _, _ => rfl
  | q :: L, n, σ => (yFc_o h L (n + 1) _).trans (yWc_o h)
theorem yWm_o {σ : zF} {n a b l : Int} {k : Nat} {i : Int} (h : 60 < k) : yWm σ n a b l k i = σ k i := by
  unfold yWm
  rw [zset_k (by omega), zset_k (by omega), zset_k (by omega), zset_k (by omega), zset_k (by omega), zset_k (by omega), zset_k (by omega)]
/-- the component -/
theorem c_arf {d : Nat} (hd : 3 ≤ d) {s : zF} {x p n : Int} (h0 : 0 ≤ x) (h1 : x < 6) (hp : 0 ≤ p ∧ p + 3 ≤ 60) (hn : s 1 0 = n) (nb : 0 ≤ n ∧ n ≤ 12) : zx d 106 [.inl (some 0), .inl (some (ysh x)), .inr (.inl p)] s = if n < 12 ∧ yrok (zw (s (ysr x) p)) (zw (s (ysr x) (p + 1))) (zw (s (ysr x) (p + 2))) then zri 1 (yWc s n (zw (s (ysr x) p)) (zw (s (ysr x) (p + 1))) (zw (s (ysr x) (p + 2)))) else zri 0 s := by
  obtain ⟨d, rfl, hd'⟩ := y_d hd; have hd := hd'
  rw [e_X11_addRoadFrom, k_fld3 h0 h1, k_fld3 h0 h1, k_fld3 h0 h1, zw_i (x := p + 1) (by omega) (by omega), zw_i (x := p + 2) (by omega) (by omega), k_zar h0 h1 (by omega), k_zar h0 h1 (by omega), k_zar h0 h1 (by omega)]
  generalize zw (s (ysr x) p) = a
  generalize zw (s (ysr x) (p + 1)) = b
  generalize zw (s (ysr x) (p + 2)) = l
  rw [k_isPlace (by omega), zCI_ri, y01]
  by_cases q1 : 0 ≤ a ∧ a < 8
  · rw [if_pos q1, k_isPlace (by omega), zCI_ri, y01]
    by_cases q2 : 0 ≤ b ∧ b < 8
    · rw [if_pos q2]
      by_cases q3 : a = b
      · rw [if_pos q3, if_neg (fun h => h.2.2.2.1 q3)]
      · rw [if_neg q3, k_isLen (by omega), zCI_ri, y01]
        by_cases q4 : 1 ≤ l ∧ l ≤ 99
        · rw [if_pos q4]
          by_cases q5 : n < 12
          · rw [c_addRoad (by omega) hn ⟨nb.1, q5⟩, zCI_ri, if_neg (by omega), if_pos ⟨q5, q1, q2, q3, q4⟩]
            rfl
          · have e18 : zx d 18 [.inl (some 1), .inr (.inl a), .inr (.inl b), .inr (.inl l)] s = zri (-3) s := by
              obtain ⟨e, rfl, -⟩ := y_d (k := 0) (d := d) (by omega)
              rw [e_X3_addRoad, hn, if_neg q5]
            rw [e18, zCI_ri, if_pos (by decide), if_neg (fun h => q5 h.1)]
        · rw [if_neg q4, if_neg (fun h => q4 h.2.2.2.2)]
    · rw [if_neg q2, if_neg (fun h => q2 h.2.2.1)]
  · rw [if_neg q1, if_neg (fun h => q1 h.2.1)]
theorem c_roads_l {d : Nat} (hd : 3 ≤ d) {x y1 z : Int} {ρ : Int → Int} (h0 : 0 ≤ x) (h1 : x < 6) (hy : y1 ≤ 12) (hz : 0 ≤ z ∧ z ≤ 60) : ∀ (m : Nat) (k p n : Int) (s : zF), 0 ≤ k → k + m = y1 → s 1 0 = n → 0 ≤ n → n ≤ 12 → s (ysr x) = ρ → s (ysh x) 1 = z → P_X11_roads_56 d y1 (ysh x) k p s = zri (k + (yLR ρ z m p n).length) (yFc (yLR ρ z m p n) n s) := by
  intro m
  have kb := ysh_b h0 h1
  induction m with
  | zero =>
    intro k p n s k0 hk hn n0 n1 hr hs
    rw [e_X11_roads_56, if_neg (by omega)]
    unfold yLR yFc
    simp
  | succ m ih =>
    intro k p n s k0 hk hn n0 n1 hr hs
    rw [e_X11_roads_56, if_pos (by omega), k_fld1 h0 h1, hs, zw_i (x := z - 3) (by omega) (by omega)]
    unfold yLR
    by_cases q1 : p < 0
    · rw [if_pos q1, if_neg (fun h => absurd h.1 (by omega))]
      unfold yFc
      simp
    · rw [if_neg q1]
      by_cases q2 : z - 3 < p
      · rw [if_pos q2, if_neg (fun h => absurd h.2.1 (by omega))]
        unfold yFc
        simp
      · rw [if_neg q2, c_arf hd h0 h1 ⟨by omega, by omega⟩ hn ⟨n0, n1⟩, hr]
        by_cases q3 : n < 12 ∧ yrok (zw (ρ p)) (zw (ρ (p + 1))) (zw (ρ (p + 2)))
        · rw [if_pos q3, zCI_ri, if_neg (by decide), if_pos ⟨by omega, by omega, q3⟩, zw_i (x := k + 1) (by omega) (by omega), zw_i (x := p + 3) (by omega) (by omega)]
          have e1 : ∀ a b l, yWc s n a b l (ysr x) = ρ := fun a b l => by rw [← hr]; exact funext fun i => yWc_o (by omega)
          have e2 : ∀ a b l, yWc s n a b l (ysh x) 1 = z := fun a b l => (yWc_o (by omega)).trans hs
          have e0 : ∀ a b l, yWc s n a b l 1 0 = n + 1 := fun a b l => zset_hit rfl
          rw [ih (k + 1) (p + 3) (n + 1) _ (by omega) (by omega) (e0 _ _ _) (by omega) (by omega) (e1 _ _ _) (e2 _ _ _), List.length_cons]
          show zri _ (yFc _ (n + 1) _) = zri _ (yFc _ (n + 1) _)
          rw [show k + 1 + ((yLR ρ z m (p + 3) (n + 1)).length : Int) = k + (((yLR ρ z m (p + 3) (n + 1)).length + 1 : Nat) : Int) by omega]
        · rw [if_neg q3, zCI_ri, if_pos rfl, if_neg (fun h => q3 h.2.2)]
          unfold yFc
          simp
/-- the model -/
theorem m_toldAt {d : Nat} (hd : 1 ≤ d) {s : zF} {x p : Int} (h0 : 0 ≤ x) (h1 : x < 6) (hp : 0 ≤ p ∧ p < 60) : zx d 162 [.inl (some 57), .inr (.inl x), .inr (.inl p)] s = zri (zw (s 83 (60 * x + p))) s := by
  obtain ⟨d, rfl, -⟩ := y_d (k := 0) hd
  rw [e_X12_toldAt, zw_i (x := 60 * x) (by omega) (by omega), zw_i (x := 60 * x + p) (by omega) (by omega), if_pos (by omega)]
theorem zcmpl_n {x y : Int} {α : Type} {A B : α} : (if zcmpl x y < 0 then A else B) = if x < y then A else B := by
  unfold zcmpl
  by_cases h : y < x
  · rw [if_pos h, if_neg (by decide), if_neg (by omega)]
  · rw [if_neg h]
    by_cases e : x = y
    · rw [if_pos e, if_neg (by decide), if_neg (by omega)]
    · rw [if_neg e, if_pos (by decide), if_pos (by omega)]
theorem m_roads_l {d : Nat} (hd : 3 ≤ d) {x y2 y3 z : Int} {ρ : Int → Int} (h0 : 0 ≤ x) (h1 : x < 6) (h2 : zin y2) (hy : y3 ≤ 12) (hz : 0 ≤ z ∧ z ≤ 60) : ∀ (m : Nat) (k n : Int) (s : zF), 0 ≤ k → k + m = y3 → s 57 0 = n → 0 ≤ n → n ≤ 12 → (∀ p, 0 ≤ p → p < 60 → s 83 (60 * x + p) = ρ p) → s 82 x = z → P_X12_roads_49 d x y2 y3 k k s = zri (k + (yLR ρ z m (y2 + 3 * k) n).length) (yFm (yLR ρ z m (y2 + 3 * k) n) n s) := by
  intro m
  unfold zin at h2
  induction m with
  | zero =>
    intro k n s k0 hk hn n0 n1 hr hs
    rw [e_X12_roads_49, if_neg (by omega)]
    unfold yLR yFm
    simp
  | succ m ih =>
    intro k n s k0 hk hn n0 n1 hr hs
    rw [e_X12_roads_49, if_pos (by omega), zwl_i (x := 3 * k) (by omega) (by omega), zwl_i (x := y2 + 3 * k) (by omega) (by omega), zwl_i (x := y2 + 3 * k + 3) (by omega) (by omega), zcmpl_n, zcmpl_p, hs, hn, if_pos (show 0 ≤ x ∧ x < 6 from ⟨h0, h1⟩)]
    unfold yLR
    by_cases q1 : y2 + 3 * k < 0
    · rw [if_pos q1, if_neg (fun h => absurd h.1 (by omega))]
      unfold yFm
      simp
    · rw [if_neg q1]
      by_cases q2 : z < y2 + 3 * k + 3
      · rw [if_pos q2, if_neg (fun h => absurd h.2.1 (by omega))]
        unfold yFm
        simp
      · rw [if_neg q2]
        by_cases q3 : n = 12
        · rw [if_pos q3, if_neg (fun h => absurd h.2.2.1 (by omega))]
          unfold yFm
          simp
        · have r0 := hr (y2 + 3 * k) (by omega) (by omega)
          have r1 := hr (y2 + 3 * k + 1) (by omega) (by omega)
          have r2 := hr (y2 + 3 * k + 2) (by omega) (by omega)
          rw [if_neg q3, zw_i (x := y2 + 3 * k) (by omega) (by omega), zw_i (x := y2 + 3 * k + 1) (by omega) (by omega), zw_i (x := y2 + 3 * k + 2) (by omega) (by omega), m_toldAt (by omega) h0 h1 (by omega), zCI_ri, m_toldAt (by omega) h0 h1 (by omega), zCI_ri, r0, r1]
          have e2 := m_toldAt (d := d) (by omega) (s := s) h0 h1 (p := y2 + 3 * k + 2) (by omega)
          rw [r2] at e2
          generalize ea : zw (ρ (y2 + 3 * k)) = a
          generalize eb : zw (ρ (y2 + 3 * k + 1)) = b
          generalize el : zw (ρ (y2 + 3 * k + 2)) = l at e2
          rw [k_mPlace (by omega), zCI_ri, y01]
          by_cases p1 : 0 ≤ a ∧ a < 8
          · rw [if_pos p1, k_mPlace (by omega), zCI_ri, y01]
            by_cases p2 : 0 ≤ b ∧ b < 8
            · rw [if_pos p2]
              by_cases p3 : a = b
              · rw [if_pos p3, if_neg (fun h => h.2.2.2.2.2.1 p3)]
                unfold yFm
                simp
              · rw [if_neg p3, e2, zCI_ri, k_within (by omega), zCI_ri, y01]
                by_cases p4 : 1 ≤ l ∧ l ≤ 99
                · rw [if_pos p4, e2, zCI_ri, m_newRoad (by omega) hn ⟨n0, by omega⟩, zCI_ri, if_pos ⟨by omega, by omega, by omega, p1, p2, p3, p4⟩, zw_i (x := k + 1) (by omega) (by omega)]
                  show P_X12_roads_49 d x y2 y3 (k + 1) (k + 1) (yWm s n a b l) = _
                  have e0 : yWm s n a b l 57 0 = n + 1 := zset_hit rfl
                  rw [ih (k + 1) (n + 1) _ (by omega) (by omega) e0 (by omega) (by omega) (fun p a0 a1 => (yWm_o (by decide)).trans (hr p a0 a1)) ((yWm_o (by decide)).trans hs), List.length_cons, show y2 + 3 * (k + 1) = y2 + 3 * k + 3 by omega]
                  show zri _ (yFm _ (n + 1) _) = zri _ (yFm _ (n + 1) _)
                  rw [show k + 1 + ((yLR ρ z m (y2 + 3 * k + 3) (n + 1)).length : Int) = k + (((yLR ρ z m (y2 + 3 * k + 3) (n + 1)).length + 1 : Nat) : Int) by omega]
                · rw [if_neg p4, if_neg (fun h => p4 h.2.2.2.2.2.2)]
                  unfold yFm
                  simp
            · rw [if_neg p2, if_neg (fun h => p2 h.2.2.2.2.1)]
              unfold yFm
              simp
          · rw [if_neg p1, if_neg (fun h => p1 h.2.2.2.1)]
            unfold yFm
            simp
theorem o_roads {x1 x2 x3 : Int} (h2 : zin x2) : yStep 105 161 [.inr (.inl x1), .inr (.inl x2), .inr (.inl x3)] := by
  intro d hd c N G σ hI c0 c1
  obtain ⟨d, rfl, hd'⟩ := y_d hd; have hd := hd'
  have hi := yInv_id hI
  have hSh := hI.2.2.2.2.2.2.2.2.2
  obtain ⟨n1, n2, n3, n4⟩ := yI_n hI
  have fin : ∀ v : Int, yT (zx (d + 1) 161 [.inl (some 57), .inr (.inl x1), .inr (.inl x2), .inr (.inl x3)] σ) (yI fun w t => w = v ∧ t = σ) → yT (zx (d + 1) 161 [.inl (some 57), .inr (.inl x1), .inr (.inl x2), .inr (.inl x3)] σ) (yI fun w t => w = v ∧ ∃ N' G', yInv (c + 1) N' G' t) := fun v h => y_mI h fun w t z => ⟨z.1, N, G, by rw [z.2]; exact hi⟩
  rw [e_X11_roads, k_isShelf (by omega), zCI_ri, y01]
  by_cases h : 0 ≤ x1 ∧ x1 < 6
  · obtain ⟨z1, z2, z3, z4, z5⟩ := hSh x1 h.1 h.2
    have kb := ysh_b h.1 h.2
    rw [if_pos h, y_rg]
    by_cases g : 1 ≤ x3 ∧ x3 ≤ 12
    · rw [if_pos g, k_zaa h.1 h.2, k_cls h.1 h.2, k_isEmpty (by omega) h.1 h.2, zCI_ri, y01]
      refine y_b rfl ?_
      have em : ∀ s : zF, zx (d + 1) 161 [.inl (some 57), .inr (.inl x1), .inr (.inl x2), .inr (.inl x3)] s = if s 81 x1 = -1 then zri 0 s else if s 81 x1 = 0 then P_X12_roads_49 d x1 x2 x3 0 0 s else zri (-12) s := by
        intro s
        rw [e_X12_roads, k_mShelf (by omega), zCI_ri, y01, if_pos h, k_within (by omega), zCI_ri, y01, if_pos g, if_pos h, if_pos h]
      by_cases q1 : σ (ysh x1) 0 = -1 ∧ σ (ysh x1) 2 = -1
      · rw [if_pos q1]
        refine y_i (fin _ ?_)
        rw [em, if_pos (by omega)]
        exact y_i ⟨rfl, rfl⟩
      · rw [if_neg q1, k_isRowOf (by omega) h.1 h.2, zCI_ri, y01]
        refine y_b rfl ?_
        by_cases q2 : ¬ σ (ysh x1) 0 = -1 ∧ σ (ysh x1) 0 = 0
        · obtain ⟨r1, r2, r3⟩ := yLR_ok (σ (ysr x1)) (σ (ysh x1) 1) x3.toNat x2 (N 0 0) n4
          rw [if_pos q2, c_roads_l (by omega) h.1 h.2 g.2 ⟨z1, z2⟩ x3.toNat 0 x2 (N 0 0) σ (by omega) (by omega) n1 n3 n4 rfl rfl]
          refine y_i ?_
          have f57 : yFc (yLR (σ (ysr x1)) (σ (ysh x1) 1) x3.toNat x2 (N 0 0)) (N 0 0) σ 57 0 = N 0 0 := (yFc_o (by decide) _ _ _).trans n2
          have f83 : ∀ p, 0 ≤ p → p < 60 → yFc (yLR (σ (ysr x1)) (σ (ysh x1) 1) x3.toNat x2 (N 0 0)) (N 0 0) σ 83 (60 * x1 + p) = σ (ysr x1) p := fun p p0 p1 => (yFc_o (by decide) _ _ _).trans (z5 p p0 p1).1.symm
          have f82 : yFc (yLR (σ (ysr x1)) (σ (ysh x1) 1) x3.toNat x2 (N 0 0)) (N 0 0) σ 82 x1 = σ (ysh x1) 1 := (yFc_o (by decide) _ _ _).trans z3.symm
          have f81 : yFc (yLR (σ (ysr x1)) (σ (ysh x1) 1) x3.toNat x2 (N 0 0)) (N 0 0) σ 81 x1 = σ 81 x1 := yFc_o (by decide) _ _ _
          have em2 := m_roads_l (d := d) (by omega) h.1 h.2 h2 g.2 ⟨z1, z2⟩ x3.toNat 0 (N 0 0) _ (by omega) (by omega) f57 n3 n4 f83 f82
          rw [show x2 + 3 * 0 = x2 by omega] at em2
          rw [em, f81, if_neg (by omega), if_pos (by omega), em2]
          obtain ⟨N', hN⟩ := y_roads _ N σ hi r1 r2
          exact y_i ⟨rfl, N', G, hN⟩
        · rw [if_neg q2]
          refine y_i (fin _ ?_)
          rw [em, if_neg (by omega), if_neg (by omega)]
          exact y_i ⟨rfl, rfl⟩
    · rw [if_neg g]
      refine y_i (fin _ ?_)
      rw [e_X12_roads, k_mShelf (by omega), zCI_ri, y01, if_pos h, k_within (by omega), zCI_ri, y01, if_neg g]
      exact y_i ⟨rfl, rfl⟩
  · rw [if_neg h]
    refine y_i (fin _ ?_)
    rw [e_X12_roads, k_mShelf (by omega), zCI_ri, y01, if_neg h]
    exact y_i ⟨rfl, rfl⟩
