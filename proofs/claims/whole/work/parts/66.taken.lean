/-! taken -/
def yun8 : Nat → Nat → Nat → Bool
  | 0, _, _ => false
  | f + 1, k, a => if k = a then true else if k = 0 then false else yun8 f (yup k) a
def yht (k : Nat) : Nat := ([0, 1, 1, 2, 2, 3, 1, 3] : List Nat).getD k 0
theorem yht_b : ∀ k, k < 8 → (0 < k → yht (yup k) < yht k) ∧ yht k ≤ 3 := by decide
theorem yup_a : ∀ k : Nat, k < 8 → (if (k : Int) = 3 then 2 else if (k : Int) = 4 then 1 else if (k : Int) = 5 then 3 else if (k : Int) = 6 then 0 else if (k : Int) = 7 then 4 else 0) = ((yup k : Nat) : Int) := by decide
theorem k_und {d a : Nat} (σ : zF) : ∀ m k : Nat, m ≤ 8 → k < 8 → P_X8_isUnder_4 d (a : Int) (k : Int) (8 - (m : Int)) σ = zri (if yun8 m k a = true then 1 else 0) σ
  | 0, k, _, _ => by rw [e_X8_isUnder_4, if_neg (by omega)]; rfl
  | m + 1, k, hm, hk => by
    rw [e_X8_isUnder_4, if_pos (by omega), if_neg (show ¬ (k : Int) = -1 by omega)]
    unfold yun8
    by_cases q : k = a
    · rw [if_pos (by omega), if_pos q, if_pos rfl]
    · rw [if_neg (by omega), if_neg q, if_pos (by omega), show ((k : Int)).toNat = k by omega, show zw (8 - ((m + 1 : Nat) : Int) + 1) = 8 - (m : Int) by rw [zw_i (by omega) (by omega)]; omega]
      by_cases z : k = 0
      · subst z
        rw [show zABV 0 = -1 from rfl, e_X8_isUnder_4, if_pos (show (-1 : Int) = -1 from rfl), if_pos rfl]
        split <;> rfl
      · rw [(yup_b k hk).2 (by omega), if_neg z]
        exact k_und σ m (yup k) (by omega) (yup_b k hk).1
theorem m_und {d a : Nat} (hd : 1 ≤ d) (v : Int) (σ : zF) : ∀ m k : Nat, yht k < m → k < 8 → P_X12_taken_61 d (a : Int) v (k : Int) σ = zri (if yun8 m k a = true then v else -12) σ
  | 0, k, h, _ => absurd h (by omega)
  | m + 1, k, h, hk => by
    rw [e_X12_taken_61]
    unfold yun8
    by_cases q : k = a
    · rw [if_pos (by omega), if_pos (by omega), if_pos q, if_pos rfl]
    · rw [if_neg (by omega), if_neg q]
      by_cases z : k = 0
      · rw [if_neg (by omega), if_neg (by omega), if_pos z]; rfl
      · rw [if_pos (by omega), if_neg z, k_above hd, zCI_ri, yup_a k hk]
        have := (yht_b k hk).1 (by omega)
        exact m_und hd v σ m (yup k) (by omega) (yup_b k hk).1
theorem o_taken {x1 x2 : Int} : yStep 144 251 [.inr (.inl x1), .inr (.inl x2)] := by
  intro d hd c N G σ hI c0 c1
  obtain ⟨d, rfl, hd'⟩ := y_d hd; have hd := hd'
  have hi := yInv_id hI
  have hSh := hI.2.2.2.2.2.2.2.2.2
  obtain ⟨u1, u2, u3, u4, u5, u6, u7, -⟩ := hI.2.2.2.2.2.2.2.2.1
  have fin : ∀ v : Int, yT (zx (d + 1) 251 [.inl (some 57), .inr (.inl x1), .inr (.inl x2)] σ) (yI fun w t => w = v ∧ t = σ) → yT (zx (d + 1) 251 [.inl (some 57), .inr (.inl x1), .inr (.inl x2)] σ) (yI fun w t => w = v ∧ ∃ N' G', yInv (c + 1) N' G' t) := fun v h => y_mI h fun w t z => ⟨z.1, N, G, by rw [z.2]; exact hi⟩
  rw [e_X11_taken, k_isShelf (by omega), zCI_ri, y01]
  by_cases h : 0 ≤ x1 ∧ x1 < 6
  · obtain ⟨z1, z2, z3, z4, z5⟩ := hSh x1 h.1 h.2
    rw [if_pos h, k_isKind (by omega), zCI_ri, y01]
    by_cases h2 : 0 ≤ x2 ∧ x2 < 8
    · rw [if_pos h2, k_zaa h.1 h.2, k_cls h.1 h.2, k_isEmpty (by omega) h.1 h.2, zCI_ri, y01]
      refine y_b rfl ?_
      by_cases q1 : σ (ysh x1) 0 = -1 ∧ σ (ysh x1) 2 = -1
      · rw [if_pos q1]
        refine y_i (fin _ ?_)
        rw [e_X12_taken, k_mShelf (by omega), zCI_ri, y01, if_pos h, k_within (by omega), zCI_ri, y01, if_pos (by omega), if_pos h, if_pos (by omega)]
        exact y_i ⟨rfl, rfl⟩
      · rw [if_neg q1, k_isRow (by omega) h.1 h.2, zCI_ri]
        refine y_b rfl ?_
        by_cases q2 : σ (ysh x1) 0 = -1
        · have w : 0 ≤ σ (ysh x1) 2 ∧ σ (ysh x1) 2 < σ 41 0 ∧ σ 81 x1 = 10 + σ (ysh x1) 2 := by omega
          have kk := u7 (σ (ysh x1) 2) w.1 (by omega)
          have ks := kk.2 w.2.1
          obtain ⟨K, hK⟩ := Int.eq_ofNat_of_zero_le ks.1
          obtain ⟨a, rfl⟩ := Int.eq_ofNat_of_zero_le h2.1
          have eu : zx d 80 [.inr (.inl (K : Int)), .inr (.inl (a : Int))] σ = zri (if yun8 8 K a = true then 1 else 0) σ := by
            obtain ⟨d, rfl, -⟩ := y_d (k := 0) (d := d) (by omega)
            rw [e_X8_isUnder]
            exact k_und σ 8 K (by omega) (by omega)
          have em : zx (d + 1) 251 [.inl (some 57), .inr (.inl x1), .inr (.inl (a : Int))] σ = zri (if yun8 8 K a = true then (K : Int) else -12) σ := by
            rw [e_X12_taken, k_mShelf (by omega), zCI_ri, y01, if_pos h, k_within (by omega), zCI_ri, y01, if_pos (by omega), if_pos h, if_neg (by omega), k_mRow (by omega) h, zCI_ri, y01, if_neg (by omega), if_pos h, show σ 81 x1 - 10 = σ (ysh x1) 2 by omega, zw_i (x := σ (ysh x1) 2) (by omega) (by omega), if_pos (by omega), ← kk.1, hK]
            exact m_und (by omega) (K : Int) σ 8 K (by have := (yht_b K (by omega)).2; omega) (by omega)
          rw [if_pos q2, if_pos rfl, k_fld2 h.1 h.2, k_isThere (by omega), zCI_ri, y01, if_pos ⟨w.1, w.2.1⟩, k_fld2 h.1 h.2, if_pos (by omega), hK, eu, zCI_ri, y01]
          refine y_if (fun e => y_i (fin _ ?_)) (fun e => y_i (fin _ ?_))
          · rw [em, if_pos e]; exact y_i ⟨rfl, rfl⟩
          · rw [em, if_neg e]; exact y_i ⟨rfl, rfl⟩
        · rw [if_neg q2, if_neg (by decide)]
          refine y_i (fin _ ?_)
          rw [e_X12_taken, k_mShelf (by omega), zCI_ri, y01, if_pos h, k_within (by omega), zCI_ri, y01, if_pos (by omega), if_pos h, if_neg (by omega), k_mRow (by omega) h, zCI_ri, y01, if_pos (by omega)]
          exact y_i ⟨rfl, rfl⟩
    · rw [if_neg h2]
      refine y_i (fin _ ?_)
      rw [e_X12_taken, k_mShelf (by omega), zCI_ri, y01, if_pos h, k_within (by omega), zCI_ri, y01, if_neg (by omega)]
      exact y_i ⟨rfl, rfl⟩
  · rw [if_neg h]
    refine y_i (fin _ ?_)
    rw [e_X12_taken, k_mShelf (by omega), zCI_ri, y01, if_neg h]
    exact y_i ⟨rfl, rfl⟩
