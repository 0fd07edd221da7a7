/-! jealousies -/
def ybc (x : Int) : Int := zand (zw ((zw ((zand (zw ((zw ((zand (zw (x - (zand (zushr x 1) 1431655765))) 858993459) + (zand (zushr (zw (x - (zand (zushr x 1) 1431655765))) 2) 858993459))) + (zushr (zw ((zand (zw (x - (zand (zushr x 1) 1431655765))) 858993459) + (zand (zushr (zw (x - (zand (zushr x 1) 1431655765))) 2) 858993459))) 4))) 252645135) + (zushr (zand (zw ((zw ((zand (zw (x - (zand (zushr x 1) 1431655765))) 858993459) + (zand (zushr (zw (x - (zand (zushr x 1) 1431655765))) 2) 858993459))) + (zushr (zw ((zand (zw (x - (zand (zushr x 1) 1431655765))) 858993459) + (zand (zushr (zw (x - (zand (zushr x 1) 1431655765))) 2) 858993459))) 4))) 252645135) 8))) + (zushr (zw ((zand (zw ((zw ((zand (zw (x - (zand (zushr x 1) 1431655765))) 858993459) + (zand (zushr (zw (x - (zand (zushr x 1) 1431655765))) 2) 858993459))) + (zushr (zw ((zand (zw (x - (zand (zushr x 1) 1431655765))) 858993459) + (zand (zushr (zw (x - (zand (zushr x 1) 1431655765))) 2) 858993459))) 4))) 252645135) + (zushr (zand (zw ((zw ((zand (zw (x - (zand (zushr x 1) 1431655765))) 858993459) + (zand (zushr (zw (x - (zand (zushr x 1) 1431655765))) 2) 858993459))) + (zushr (zw ((zand (zw (x - (zand (zushr x 1) 1431655765))) 858993459) + (zand (zushr (zw (x - (zand (zushr x 1) 1431655765))) 2) 858993459))) 4))) 252645135) 8))) 16))) 63
theorem k_bc {d : Nat} (hd : 1 ≤ d) (x : Int) (σ : zF) : zx d 253 [.inr (.inl x)] σ = zri (ybc x) σ := by
  obtain ⟨d, rfl, -⟩ := y_d hd
  exact e_J6_bitCount_0f7a4 d x σ
theorem c_anger_l {d : Nat} {N σ : zF} {x : Int} (hB : yBn N) (hC : yC N σ) : ∀ j k : Nat, (k : Int) + j = N 0 0 → P_X3_jealousOf_4 d x (ybs (fun r => decide (N 4 r = x)) k) (k : Int) σ = zri (ybs (fun r => decide (N 4 r = x)) (N 0 0).toNat) σ := by
  have n1 := hB.2.1
  intro j
  induction j with
  | zero =>
    intro k hk
    rw [e_X3_jealousOf_4, hC.1, if_neg (by omega), show (N 0 0).toNat = k by omega]
  | succ j ih =>
    intro k hk
    have ih2 := ih (k + 1) (by omega)
    rw [Int.natCast_succ] at ih2
    rw [e_X3_jealousOf_4, hC.1, if_pos (by omega), if_pos (by omega), (hC.2.2 k (by omega) (by omega)).2.2.2.1, zw_i (x := (k : Int) + 1) (by omega) (by omega)]
    by_cases q : N 4 k = x
    · rw [if_pos q]
      rw [ybs_t (by simp [q])] at ih2
      exact ih2
    · rw [if_neg q]
      rw [ybs_f (by simp [q])] at ih2
      exact ih2
theorem m_anger_l {d : Nat} {N σ : zF} {p m : Int → Int} {x : Int} (hB : yBn N) (hM : yM N p m σ) : ∀ j k : Nat, (k : Int) + j = N 0 0 → P_X12_anger_14 d x (ybs (fun r => decide (N 4 r = x)) k) (k : Int) σ = zri (ybs (fun r => decide (N 4 r = x)) (N 0 0).toNat) σ := by
  have n1 := hB.2.1
  intro j
  induction j with
  | zero =>
    intro k hk
    rw [e_X12_anger_14, hM.1, if_neg (by omega), show (N 0 0).toNat = k by omega]
  | succ j ih =>
    intro k hk
    have ih2 := ih (k + 1) (by omega)
    rw [Int.natCast_succ] at ih2
    rw [e_X12_anger_14, hM.1, if_pos (by omega), zw_i (x := 24 + (k : Int)) (by omega) (by omega), if_pos (by omega), (hM.2.2 k (by omega) (by omega)).2.2.2.1, zw_i (x := (k : Int) + 1) (by omega) (by omega)]
    by_cases q : N 4 k = x
    · rw [if_pos q]
      rw [ybs_t (by simp [q])] at ih2
      exact ih2
    · rw [if_neg q]
      rw [ybs_f (by simp [q])] at ih2
      exact ih2
theorem o_anger {x : Int} : yStep 122 214 [.inr (.inl x)] := by
  intro d hd c N G σ hI c0 c1
  obtain ⟨d, rfl, hd'⟩ := y_d hd; have hd := hd'
  obtain ⟨n1, n2, n3, n4⟩ := yI_n hI
  rw [e_X11_anger, k_isRoad (by omega), zCI_ri, y01, n1]
  refine y_if (fun h => ?_) (fun h => y_i ?_)
  · have e : zx d 28 [.inl (some 1), .inr (.inl x)] σ = zri (ybs (fun r => decide (N 4 r = x)) (N 0 0).toNat) σ := by
      obtain ⟨d, rfl, hd'⟩ := y_d (k := 140) (d := d) (by omega)
      rw [e_X3_jealousOf]
      exact c_anger_l hI.1.1 hI.1.2.1 (N 0 0).toNat 0 (by omega)
    rw [e, zCI_ri]
    refine y_i ?_
    rw [e_X12_anger, k_mRoad (by omega) x (by omega), zCI_ri, y01, n2, if_pos h]
    have e2 := m_anger_l (d := d) (x := x) hI.1.1 hI.2.1.2.2.2.1 (N 0 0).toNat 0 (by omega)
    rw [show P_X12_anger_14 d x 0 0 σ = P_X12_anger_14 d x (ybs (fun r => decide (N 4 r = x)) 0) ((0 : Nat) : Int) σ from rfl, e2]
    exact y_i ⟨rfl, N, G, yInv_id hI⟩
  · rw [e_X12_anger, k_mRoad (by omega) x (by omega), zCI_ri, y01, n2, if_neg h]
    exact y_i ⟨rfl, N, G, yInv_id hI⟩
/-- whether none in a set is jealous of one in it -/
def ypf (N : zF) (bits : Int) : Nat → Int → Int
  | 0, _ => 1
  | j + 1, k => if zand (zshr bits k) 1 = 1 ∧ 0 ≤ N 4 k ∧ zand (zshr bits (N 4 k)) 1 = 1 then 0 else ypf N bits j (k + 1)
theorem ypf_01 (N : zF) (bits : Int) : ∀ (j : Nat) (k : Int), ypf N bits j k = 0 ∨ ypf N bits j k = 1
  | 0, _ => Or.inr rfl
  | j + 1, k => by
    unfold ypf
    split
    · exact Or.inl rfl
    · exact ypf_01 N bits j (k + 1)
theorem c_peace1 {d : Nat} {N σ : zF} {bits : Int} (hB : yBn N) (hC : yC N σ) : ∀ (j : Nat) (k : Int), 0 ≤ k → k + j = N 0 0 → P_X3_isPeace_2 d bits k σ = zri (ypf N bits j k) σ := by
  have n1 := hB.2.1
  intro j
  induction j with
  | zero =>
    intro k k0 hk
    rw [e_X3_isPeace_2, hC.1, if_neg (by omega)]
    rfl
  | succ j ih =>
    intro k k0 hk
    have hb := hB.2.2.1 k k0 (by omega)
    rw [e_X3_isPeace_2, hC.1, if_pos (by omega), (hC.2.2 k k0 (by omega)).2.2.2.1, zw_i (x := k + 1) (by omega) (by omega), ih (k + 1) (by omega) (by omega)]
    simp only [if_pos (show 0 ≤ k ∧ k < 12 by omega)]
    show _ = zri (if zand (zshr bits k) 1 = 1 ∧ 0 ≤ N 4 k ∧ zand (zshr bits (N 4 k)) 1 = 1 then 0 else ypf N bits j (k + 1)) σ
    by_cases q : zand (zshr bits k) 1 = 1
    · rw [if_pos q]
      by_cases q2 : N 4 k = -1
      · rw [if_pos q2, if_neg (by omega)]
      · rw [if_neg q2]
        have : 0 ≤ N 4 k := by rcases hb.2.2.2.2.2.2.2.1 with z | z <;> omega
        by_cases q3 : zand (zshr bits (N 4 k)) 1 = 1
        · rw [if_pos q3, if_pos ⟨q, this, q3⟩]
        · rw [if_neg q3, if_neg (fun h => q3 h.2.2)]
    · rw [if_neg q, if_neg (fun h => q h.1)]
theorem m_peace1 {d : Nat} {N σ : zF} {p m : Int → Int} {bits : Int} (hB : yBn N) (hM : yM N p m σ) : ∀ (j : Nat) (k : Int), 0 ≤ k → k + j = N 0 0 → P_X12_isPeace_2 d bits k σ = zri (ypf N bits j k) σ := by
  have n1 := hB.2.1
  intro j
  induction j with
  | zero =>
    intro k k0 hk
    rw [e_X12_isPeace_2, hM.1, if_neg (by omega)]
    rfl
  | succ j ih =>
    intro k k0 hk
    have hb := hB.2.2.1 k k0 (by omega)
    rw [e_X12_isPeace_2, hM.1, if_pos (by omega), zw_i (x := 24 + k) (by omega) (by omega), (hM.2.2 k k0 (by omega)).2.2.2.1, zw_i (x := k + 1) (by omega) (by omega), ih (k + 1) (by omega) (by omega)]
    simp only [if_pos (show 0 ≤ 24 + k ∧ 24 + k < 48 by omega)]
    show _ = zri (if zand (zshr bits k) 1 = 1 ∧ 0 ≤ N 4 k ∧ zand (zshr bits (N 4 k)) 1 = 1 then 0 else ypf N bits j (k + 1)) σ
    by_cases q : zand (zshr bits k) 1 = 1
    · rw [if_pos q]
      by_cases q2 : N 4 k < 0
      · rw [if_pos q2, if_neg (by omega)]
      · rw [if_neg q2]
        by_cases q3 : zand (zshr bits (N 4 k)) 1 = 1
        · rw [if_pos q3, if_pos ⟨q, by omega, q3⟩]
        · rw [if_neg q3, if_neg (fun h => q3 h.2.2)]
    · rw [if_neg q, if_neg (fun h => q h.1)]
def yps (N : zF) : Nat → Int → Int → Int
  | 0, _, most => most
  | j + 1, bits, most => if ybc most < ybc bits ∧ ypf N bits (N 0 0).toNat 0 = 1 then yps N j (bits + 1) bits else yps N j (bits + 1) most
theorem yps_t {N : zF} {j : Nat} {bits most : Int} (h : ybc most < ybc bits ∧ ypf N bits (N 0 0).toNat 0 = 1) : yps N (j + 1) bits most = yps N j (bits + 1) bits := by
  show (if _ then _ else _) = _
  rw [if_pos h]
theorem yps_f {N : zF} {j : Nat} {bits most : Int} (h : ¬ (ybc most < ybc bits ∧ ypf N bits (N 0 0).toNat 0 = 1)) : yps N (j + 1) bits most = yps N j (bits + 1) most := by
  show (if _ then _ else _) = _
  rw [if_neg h]
theorem yshl_b : ∀ k : Nat, k < 13 → 1 ≤ zshl 1 (k : Int) ∧ zshl 1 (k : Int) ≤ 4096 := by decide +kernel
theorem c_most_l {d : Nat} (hd : 2 ≤ d) {N σ : zF} {e : Int} (hB : yBn N) (hC : yC N σ) (he : e ≤ 4096) : ∀ (j : Nat) (bits most : Int), 0 ≤ bits → bits + j = e → P_X3_mostInPeace_14 d most (ybc most) e bits σ = zri (yps N j bits most) σ := by
  intro j
  induction j with
  | zero =>
    intro bits most b0 hb
    rw [e_X3_mostInPeace_14, if_neg (by omega)]
    rfl
  | succ j ih =>
    intro bits most b0 hb
    have pe : zx d 30 [.inl (some 1), .inr (.inl bits)] σ = zri (ypf N bits (N 0 0).toNat 0) σ := by
      obtain ⟨d, rfl, -⟩ := y_d (k := 0) (d := d) (by omega)
      rw [e_X3_isPeace]
      exact c_peace1 hB hC (N 0 0).toNat 0 (by omega) (by have := hB.1; omega)
    rw [e_X3_mostInPeace_14, if_pos (by omega), k_bc (by omega), zCI_ri, pe, zCI_ri, k_bc (by omega), zCI_ri, zw_i (x := bits + 1) (by omega) (by omega), ih (bits + 1) most (by omega) (by omega), ih (bits + 1) bits (by omega) (by omega)]
    have h01 := ypf_01 N bits (N 0 0).toNat 0
    by_cases q : ybc most < ybc bits
    · rw [if_pos q]
      by_cases q2 : ypf N bits (N 0 0).toNat 0 = 0
      · rw [if_pos q2, yps_f (fun h => by omega)]
      · rw [if_neg q2, yps_t ⟨q, by omega⟩]
    · rw [if_neg q, yps_f (fun h => q h.1)]
theorem m_most_l {d : Nat} (hd : 2 ≤ d) {N σ : zF} {p m : Int → Int} {what : Int} (hB : yBn N) (hM : yM N p m σ) : ∀ (j : Nat) (bits most : Int), 0 ≤ bits → bits + j = zshl 1 (N 0 0) → P_X12_peace_15 d what most bits σ = zri (if what = 1 then yps N j bits most else ybc (yps N j bits most)) σ := by
  have n0 := hB.1
  have n1 := hB.2.1
  have he := (yshl_b (N 0 0).toNat (by omega)).2
  rw [show (((N 0 0).toNat : Nat) : Int) = N 0 0 by omega] at he
  intro j
  induction j with
  | zero =>
    intro bits most b0 hb
    rw [e_X12_peace_15, hM.1, if_neg (by omega), k_bc (by omega), zCI_ri]
    by_cases q : what = 1
    · rw [if_pos q, if_pos q]; rfl
    · rw [if_neg q, if_neg q]; rfl
  | succ j ih =>
    intro bits most b0 hb
    have pe : zx d 215 [.inl (some 57), .inr (.inl bits)] σ = zri (ypf N bits (N 0 0).toNat 0) σ := by
      obtain ⟨d, rfl, -⟩ := y_d (k := 0) (d := d) (by omega)
      rw [e_X12_isPeace]
      exact m_peace1 hB hM (N 0 0).toNat 0 (by omega) (by omega)
    rw [e_X12_peace_15, hM.1, if_pos (by omega), k_bc (by omega), zCI_ri, k_bc (by omega), zCI_ri, pe, zCI_ri, zw_i (x := bits + 1) (by omega) (by omega), ih (bits + 1) most (by omega) (by omega), ih (bits + 1) bits (by omega) (by omega)]
    have h01 := ypf_01 N bits (N 0 0).toNat 0
    by_cases q : ybc most < ybc bits
    · rw [if_pos q]
      by_cases q2 : ypf N bits (N 0 0).toNat 0 = 0
      · rw [if_pos q2, yps_f (fun h => by omega)]
      · rw [if_neg q2, yps_t ⟨q, by omega⟩]
    · rw [if_neg q, yps_f (fun h => q h.1)]
theorem ybc0 : ybc 0 = 0 := by decide +kernel
theorem o_peace {x : Int} : yStep 123 216 [.inr (.inl x)] := by
  intro d hd c N G σ hI c0 c1
  obtain ⟨d, rfl, hd'⟩ := y_d hd; have hd := hd'
  obtain ⟨n1, n2, n3, n4⟩ := yI_n hI
  have he := yshl_b (N 0 0).toNat (by omega)
  rw [show (((N 0 0).toNat : Nat) : Int) = N 0 0 by omega] at he
  rw [e_X11_peace, y_rg]
  refine y_if (fun h => ?_) (fun h => y_i ?_)
  · have e : zx d 29 [.inl (some 1)] σ = zri (yps N (zshl 1 (N 0 0) - 1).toNat 1 0) σ := by
      obtain ⟨d, rfl, hd'⟩ := y_d (k := 140) (d := d) (by omega)
      have := c_most_l (d := d) (by omega) hI.1.1 hI.1.2.1 he.2 (zshl 1 (N 0 0) - 1).toNat 1 0 (by omega) (by omega)
      rw [ybc0] at this
      rw [e_X3_mostInPeace, n1]
      exact this
    rw [e, zCI_ri, k_bc (by omega), zCI_ri]
    have st : yps N (zshl 1 (N 0 0)).toNat 0 0 = yps N (zshl 1 (N 0 0) - 1).toNat 1 0 := by
      rw [show (zshl 1 (N 0 0)).toNat = (zshl 1 (N 0 0) - 1).toNat + 1 by omega, yps_f (fun h => absurd h.1 (by omega))]
      rfl
    have e2 := m_most_l (d := d) (what := x) (by omega) hI.1.1 hI.2.1.2.2.2.1 (zshl 1 (N 0 0)).toNat 0 0 (by omega) (by omega)
    rw [st] at e2
    refine y_if (fun q => y_i ?_) (fun q => y_i ?_)
    · rw [e_X12_peace, k_within (by omega), zCI_ri, y01, if_pos h, e2, if_neg (by omega)]
      exact y_i ⟨rfl, N, G, yInv_id hI⟩
    · rw [e_X12_peace, k_within (by omega), zCI_ri, y01, if_pos h, e2, if_pos (by omega)]
      exact y_i ⟨rfl, N, G, yInv_id hI⟩
  · rw [e_X12_peace, k_within (by omega), zCI_ri, y01, if_neg h]
    exact y_i ⟨rfl, N, G, yInv_id hI⟩
/-! rings and chains -/
def yfr1 (x : Int) (k : Nat) : Int := if yb x k = true then 0 else 1
def yfr (x : Int) : Int := yfr1 x 0 + yfr1 x 1 + yfr1 x 2 + yfr1 x 3 + yfr1 x 4 + yfr1 x 5 + yfr1 x 6 + yfr1 x 7 + yfr1 x 8 + yfr1 x 9 + yfr1 x 10 + yfr1 x 11
theorem yfr1_b (x : Int) (k : Nat) : 0 ≤ yfr1 x k := by unfold yfr1; split <;> omega
theorem yfr_s {x a : Int} (h0 : 0 ≤ a) (h1 : a < 12) (h : yb x a.toNat = false) : yfr (zor x (zshl 1 a)) = yfr x - 1 ∧ 1 ≤ yfr x := by
  have o : ∀ k : Nat, ¬ (k : Int) = a → yfr1 (zor x (zshl 1 a)) k = yfr1 x k := by
    intro k hk
    unfold yfr1
    rw [yb_or, yb_1 h0 (by omega), decide_eq_false hk, Bool.or_false]
  have s : ∀ k : Nat, (k : Int) = a → yfr1 (zor x (zshl 1 a)) k = 0 ∧ yfr1 x k = 1 := by
    intro k hk
    unfold yfr1
    rw [yb_or, yb_1 h0 (by omega), decide_eq_true hk, Bool.or_true]
    have : k = a.toNat := by omega
    rw [this, h]
    exact ⟨rfl, rfl⟩
  have b := fun k => yfr1_b x k
  have b0 := b 0
  have b1 := b 1
  have b2 := b 2
  have b3 := b 3
  have b4 := b 4
  have b5 := b 5
  have b6 := b 6
  have b7 := b 7
  have b8 := b 8
  have b9 := b 9
  have b10 := b 10
  have b11 := b 11
  unfold yfr
  rcases (show a = 0 ∨ a = 1 ∨ a = 2 ∨ a = 3 ∨ a = 4 ∨ a = 5 ∨ a = 6 ∨ a = 7 ∨ a = 8 ∨ a = 9 ∨ a = 10 ∨ a = 11 by omega) with e | e | e | e | e | e | e | e | e | e | e | e
  · have s0 := s 0 (by omega)
    have o1 := o 1 (by omega)
    have o2 := o 2 (by omega)
    have o3 := o 3 (by omega)
    have o4 := o 4 (by omega)
    have o5 := o 5 (by omega)
    have o6 := o 6 (by omega)
    have o7 := o 7 (by omega)
    have o8 := o 8 (by omega)
    have o9 := o 9 (by omega)
    have o10 := o 10 (by omega)
    have o11 := o 11 (by omega)
    omega
  · have o0 := o 0 (by omega)
    have s1 := s 1 (by omega)
    have o2 := o 2 (by omega)
    have o3 := o 3 (by omega)
    have o4 := o 4 (by omega)
    have o5 := o 5 (by omega)
    have o6 := o 6 (by omega)
    have o7 := o 7 (by omega)
    have o8 := o 8 (by omega)
    have o9 := o 9 (by omega)
    have o10 := o 10 (by omega)
    have o11 := o 11 (by omega)
    omega
  · have o0 := o 0 (by omega)
    have o1 := o 1 (by omega)
    have s2 := s 2 (by omega)
    have o3 := o 3 (by omega)
    have o4 := o 4 (by omega)
    have o5 := o 5 (by omega)
    have o6 := o 6 (by omega)
    have o7 := o 7 (by omega)
    have o8 := o 8 (by omega)
    have o9 := o 9 (by omega)
    have o10 := o 10 (by omega)
    have o11 := o 11 (by omega)
    omega
  · have o0 := o 0 (by omega)
    have o1 := o 1 (by omega)
    have o2 := o 2 (by omega)
    have s3 := s 3 (by omega)
    have o4 := o 4 (by omega)
    have o5 := o 5 (by omega)
    have o6 := o 6 (by omega)
    have o7 := o 7 (by omega)
    have o8 := o 8 (by omega)
    have o9 := o 9 (by omega)
    have o10 := o 10 (by omega)
    have o11 := o 11 (by omega)
    omega
  · have o0 := o 0 (by omega)
    have o1 := o 1 (by omega)
    have o2 := o 2 (by omega)
    have o3 := o 3 (by omega)
    have s4 := s 4 (by omega)
    have o5 := o 5 (by omega)
    have o6 := o 6 (by omega)
    have o7 := o 7 (by omega)
    have o8 := o 8 (by omega)
    have o9 := o 9 (by omega)
    have o10 := o 10 (by omega)
    have o11 := o 11 (by omega)
    omega
  · have o0 := o 0 (by omega)
    have o1 := o 1 (by omega)
    have o2 := o 2 (by omega)
    have o3 := o 3 (by omega)
    have o4 := o 4 (by omega)
    have s5 := s 5 (by omega)
    have o6 := o 6 (by omega)
    have o7 := o 7 (by omega)
    have o8 := o 8 (by omega)
    have o9 := o 9 (by omega)
    have o10 := o 10 (by omega)
    have o11 := o 11 (by omega)
    omega
  · have o0 := o 0 (by omega)
    have o1 := o 1 (by omega)
    have o2 := o 2 (by omega)
    have o3 := o 3 (by omega)
    have o4 := o 4 (by omega)
    have o5 := o 5 (by omega)
    have s6 := s 6 (by omega)
    have o7 := o 7 (by omega)
    have o8 := o 8 (by omega)
    have o9 := o 9 (by omega)
    have o10 := o 10 (by omega)
    have o11 := o 11 (by omega)
    omega
  · have o0 := o 0 (by omega)
    have o1 := o 1 (by omega)
    have o2 := o 2 (by omega)
    have o3 := o 3 (by omega)
    have o4 := o 4 (by omega)
    have o5 := o 5 (by omega)
    have o6 := o 6 (by omega)
    have s7 := s 7 (by omega)
    have o8 := o 8 (by omega)
    have o9 := o 9 (by omega)
    have o10 := o 10 (by omega)
    have o11 := o 11 (by omega)
    omega
  · have o0 := o 0 (by omega)
    have o1 := o 1 (by omega)
    have o2 := o 2 (by omega)
    have o3 := o 3 (by omega)
    have o4 := o 4 (by omega)
    have o5 := o 5 (by omega)
    have o6 := o 6 (by omega)
    have o7 := o 7 (by omega)
    have s8 := s 8 (by omega)
    have o9 := o 9 (by omega)
    have o10 := o 10 (by omega)
    have o11 := o 11 (by omega)
    omega
  · have o0 := o 0 (by omega)
    have o1 := o 1 (by omega)
    have o2 := o 2 (by omega)
    have o3 := o 3 (by omega)
    have o4 := o 4 (by omega)
    have o5 := o 5 (by omega)
    have o6 := o 6 (by omega)
    have o7 := o 7 (by omega)
    have o8 := o 8 (by omega)
    have s9 := s 9 (by omega)
    have o10 := o 10 (by omega)
    have o11 := o 11 (by omega)
    omega
  · have o0 := o 0 (by omega)
    have o1 := o 1 (by omega)
    have o2 := o 2 (by omega)
    have o3 := o 3 (by omega)
    have o4 := o 4 (by omega)
    have o5 := o 5 (by omega)
    have o6 := o 6 (by omega)
    have o7 := o 7 (by omega)
    have o8 := o 8 (by omega)
    have o9 := o 9 (by omega)
    have s10 := s 10 (by omega)
    have o11 := o 11 (by omega)
    omega
  · have o0 := o 0 (by omega)
    have o1 := o 1 (by omega)
    have o2 := o 2 (by omega)
    have o3 := o 3 (by omega)
    have o4 := o 4 (by omega)
    have o5 := o 5 (by omega)
    have o6 := o 6 (by omega)
    have o7 := o 7 (by omega)
    have o8 := o 8 (by omega)
    have o9 := o 9 (by omega)
    have o10 := o 10 (by omega)
    have s11 := s 11 (by omega)
    omega
