/-! round itself -/
def yct (x : Int) : Nat → Int
  | 0 => 0
  | k + 1 => yct x k + if yb x k = true then 1 else 0
theorem yct_b (x : Int) : ∀ k : Nat, 0 ≤ yct x k ∧ yct x k ≤ k
  | 0 => ⟨Int.le_refl _, Int.le_refl _⟩
  | k + 1 => by
    have := yct_b x k
    unfold yct
    split <;> omega
theorem ybc_8 : ∀ n : Nat, n < 256 → ybc (n : Int) = yct (n : Int) 8 := by decide +kernel
theorem yot_8 : ∀ n : Nat, n < 256 → ∀ p : Nat, p < 8 → 0 ≤ zand (n : Int) (zxor (zshl 1 (p : Int)) (-1)) ∧ zand (n : Int) (zxor (zshl 1 (p : Int)) (-1)) < 256 := by decide +kernel
theorem ybits_8 : ∀ n : Nat, n < 256 → ∀ p : Nat, p < 32 → 8 ≤ p → yb (n : Int) p = false := by decide +kernel
/-- the model's list of places -/
def yWL (o : Int) (p : Int) (wh : Int → Int) : Prop := (∀ k, 0 ≤ k → k < yct o p.toNat → 0 ≤ wh k ∧ wh k < p ∧ yb o (wh k).toNat = true) ∧ (∀ j k, 0 ≤ j → j < k → k < yct o p.toNat → wh j < wh k) ∧ ∀ q, 0 ≤ q → q < p → yb o q.toNat = true → ∃ k, 0 ≤ k ∧ k < yct o p.toNat ∧ wh k = q
theorem m_whom {d : Nat} {x1 x2 x3 : Int} {σ0 : zF} {Q : zR → Prop} (h1 : 0 ≤ x1 ∧ x1 < 8) (hQ : ∀ σ : zF, σ 57 50 = yct (zand x2 (zxor (zshl 1 x1) (-1))) 8 → yWL (zand x2 (zxor (zshl 1 x1) (-1))) 8 (fun k => σ 89 k) → yf ([89], [(57, 50)]) σ0 σ → yT (if (5 : Int) < σ 57 50 then zri (-5) σ else P_X12_round_94 d x1 x3 0 σ) Q) : ∀ (j : Nat) (p : Int) (σ : zF), 0 ≤ p → p + j = 8 → σ 57 50 = yct (zand x2 (zxor (zshl 1 x1) (-1))) p.toNat → yWL (zand x2 (zxor (zshl 1 x1) (-1))) p (fun k => σ 89 k) → yf ([89], [(57, 50)]) σ0 σ → yT (P_X12_round_33 d x1 x2 x3 p σ) Q := by
  intro j
  induction j with
  | zero =>
    intro p σ p0 pj g1 g2 f
    have e : p = 8 := by omega
    subst e
    rw [e_X12_round_33, if_neg (by omega)]
    exact hQ σ g1 g2 f
  | succ j ih =>
    intro p σ p0 pj g1 g2 f
    have cb := yct_b (zand x2 (zxor (zshl 1 x1) (-1))) p.toNat
    have s : yct (zand x2 (zxor (zshl 1 x1) (-1))) (p + 1).toNat = yct (zand x2 (zxor (zshl 1 x1) (-1))) p.toNat + if yb (zand x2 (zxor (zshl 1 x1) (-1))) p.toNat = true then 1 else 0 := by
      rw [show (p + 1).toNat = p.toNat + 1 by omega]
      rfl
    have no : yb (zand x2 (zxor (zshl 1 x1) (-1))) p.toNat = false → yT (P_X12_round_33 d x1 x2 x3 (p + 1) σ) Q := fun e => by
      rw [e, if_neg (by decide), Int.add_zero] at s
      refine ih (p + 1) σ (by omega) (by omega) (by rw [s]; exact g1) ⟨fun k k0 k1 => ?_, fun a k a0 a1 k1 => ?_, fun q q0 q1 hq => ?_⟩ f
      · rw [s] at k1
        have : 0 ≤ σ 89 k ∧ σ 89 k < p ∧ yb (zand x2 (zxor (zshl 1 x1) (-1))) (σ 89 k).toNat = true := g2.1 k k0 k1
        exact ⟨this.1, Int.lt_trans this.2.1 (by omega), this.2.2⟩
      · rw [s] at k1
        exact g2.2.1 a k a0 a1 k1
      · rw [s]
        by_cases z : q = p
        · rw [z, e] at hq; exact absurd hq (by decide)
        · exact g2.2.2 q q0 (by omega) hq
    rw [e_X12_round_33, if_pos (by omega), zw_i (x := p + 1) (by omega) (by omega)]
    by_cases q1 : p = x1
    · rw [if_pos q1]
      apply no
      rcases e : yb (zand x2 (zxor (zshl 1 x1) (-1))) p.toNat with _ | _
      · rfl
      · exact absurd ((yb_not2 x2 h1.1 (by omega) (by omega)).mp e).2 (by omega)
    · rw [if_neg q1]
      by_cases q2 : yb x2 p.toNat = true
      · have e : yb (zand x2 (zxor (zshl 1 x1) (-1))) p.toNat = true := (yb_not2 x2 h1.1 (by omega) (by omega)).mpr ⟨q2, by omega⟩
        rw [e, if_pos rfl] at s
        rw [if_pos ((yb_g1 p0 (by omega)).mpr q2), g1, if_pos (by omega), zw_i (x := yct (zand x2 (zxor (zshl 1 x1) (-1))) p.toNat + 1) (by omega) (by omega)]
        have r : ∀ k, (zset (zset σ 57 50 (yct (zand x2 (zxor (zshl 1 x1) (-1))) p.toNat + 1)) 89 (yct (zand x2 (zxor (zshl 1 x1) (-1))) p.toNat) p) 89 k = if k = yct (zand x2 (zxor (zshl 1 x1) (-1))) p.toNat then p else σ 89 k := fun k => by
          by_cases z : k = yct (zand x2 (zxor (zshl 1 x1) (-1))) p.toNat
          · rw [zset_hit z, if_pos z]
          · rw [zset_off z, zset_k (by decide), if_neg z]
        refine ih (p + 1) _ (by omega) (by omega) ?_ ⟨fun k k0 k1 => ?_, fun a k a0 a1 k1 => ?_, fun q q0 q1 hq => ?_⟩ (yf_set (yf_set f rfl) rfl)
        · rw [zset_k (by decide), zset_hit rfl, s]
        · rw [s] at k1
          simp only [r]
          by_cases z : k = yct (zand x2 (zxor (zshl 1 x1) (-1))) p.toNat
          · rw [if_pos z]; exact ⟨p0, by omega, e⟩
          · rw [if_neg z]
            have : 0 ≤ σ 89 k ∧ σ 89 k < p ∧ yb (zand x2 (zxor (zshl 1 x1) (-1))) (σ 89 k).toNat = true := g2.1 k k0 (by omega)
            exact ⟨this.1, by omega, this.2.2⟩
        · rw [s] at k1
          simp only [r]
          rw [if_neg (show ¬ a = yct (zand x2 (zxor (zshl 1 x1) (-1))) p.toNat by omega)]
          by_cases z : k = yct (zand x2 (zxor (zshl 1 x1) (-1))) p.toNat
          · rw [if_pos z]; exact (g2.1 a a0 (by omega)).2.1
          · rw [if_neg z]
            exact g2.2.1 a k a0 a1 (by omega)
        · rw [s]
          by_cases z : q = p
          · exact ⟨yct (zand x2 (zxor (zshl 1 x1) (-1))) p.toNat, by omega, by omega, by simp only [r, if_true]; exact z.symm⟩
          · obtain ⟨k, k0, k1, k2⟩ := g2.2.2 q q0 (by omega) hq
            exact ⟨k, k0, by omega, by simp only [r]; rw [if_neg (by omega)]; exact k2⟩
      · rw [if_neg (fun z => q2 ((yb_g1 p0 (by omega)).mp z))]
        apply no
        rcases e : yb (zand x2 (zxor (zshl 1 x1) (-1))) p.toNat with _ | _
        · rfl
        · exact absurd ((yb_not2 x2 h1.1 (by omega) (by omega)).mp e).1 q2
/-- the model's table -/
abbrev yAtb : List Nat × List (Nat × Int) := ([72, 73, 84, 85, 88], [])
theorem m_tab1 {d : Nat} {x1 x3 c : Int} {F : Int → Int} {σ0 : zF} {Q : zR → Prop} (hc : 0 ≤ c ∧ c < 8) (hQ : ∀ σ : zF, (∀ e, 0 ≤ e → e < 8 → σ 88 (8 * e + c) = F e) → (∀ e c', 0 ≤ e → e < 8 → 0 ≤ c' → c' < 8 → ¬ c' = c → σ 88 (8 * e + c') = σ0 88 (8 * e + c')) → yf ([88], []) σ0 σ → yT (P_X12_round_94 d x1 x3 (zw (c + 1)) σ) Q) : ∀ (j : Nat) (e : Int) (σ : zF), 0 ≤ e → e + j = 8 → (∀ e, 0 ≤ e → e < 8 → σ 85 e = F e) → (∀ e', 0 ≤ e' → e' < e → σ 88 (8 * e' + c) = F e') → (∀ e c', 0 ≤ e → e < 8 → 0 ≤ c' → c' < 8 → ¬ c' = c → σ 88 (8 * e + c') = σ0 88 (8 * e + c')) → yf ([88], []) σ0 σ → yT (P_X12_round_110 d x1 x3 c e σ) Q := by
  intro j
  induction j with
  | zero =>
    intro e σ e0 ej g1 g2 g3 f
    have z : e = 8 := by omega
    subst z
    rw [e_X12_round_110, if_neg (by omega)]
    exact hQ σ g2 g3 f
  | succ j ih =>
    intro e σ e0 ej g1 g2 g3 f
    rw [e_X12_round_110, if_pos (by omega), if_pos (by omega), zw_i (x := 8 * e) (by omega) (by omega), zw_i (x := 8 * e + c) (by omega) (by omega), if_pos (by omega), zw_i (x := e + 1) (by omega) (by omega), g1 e e0 (by omega)]
    refine ih (e + 1) _ (by omega) (by omega) (fun k k0 k1 => by rw [zset_k (by decide)]; exact g1 k k0 k1) (fun k k0 k1 => ?_) (fun k c' k0 k1 a0 a1 a2 => ?_) (yf_set f rfl)
    · by_cases z : k = e
      · rw [z, zset_hit rfl]
      · rw [zset_off (by omega)]; exact g2 k k0 (by omega)
    · rw [zset_off (by omega)]; exact g3 k c' k0 k1 a0 a1 a2
theorem m_tab {d : Nat} (hd : 7 ≤ d) {x1 x3 : Int} {N : zF} {G : yG} {σ0 : zF} {Q : zR → Prop} (hQ : ∀ σ : zF, (∀ e c, 0 ≤ e → e < 8 → 0 ≤ c → c < 8 → σ 88 (8 * e + c) = yMf (yD (N 0 0) (N 1) (N 2) (yHR N G (N 5) (N 6)) (N 5) c) e) → yf yAtb σ0 σ → yT (zCV LAY (zx d 209 [.inl (some 57), .inr (.inl 0), .inr (.inl x1), .inr (.inl x1), .inr (.inl 0), .inr (.inl 0)] (zset σ 57 54 9999)) fun s101 => if (s101 57 54) < 9999 then (if x3 = (-1) then (zri (s101 57 54) s101) else (if x3 < (s101 57 50) then (if 0 ≤ x3 ∧ x3 < 8 then (zri (s101 91 x3) s101) else (none)) else (zri (-2) s101))) else (zri (-2) s101)) Q) : ∀ (j : Nat) (c : Int) (σ : zF), 0 ≤ c → c + j = 8 → yY N G (N 5) (N 6) σ → (∀ e c', 0 ≤ e → e < 8 → 0 ≤ c' → c' < c → σ 88 (8 * e + c') = yMf (yD (N 0 0) (N 1) (N 2) (yHR N G (N 5) (N 6)) (N 5) c') e) → yf yAtb σ0 σ → yT (P_X12_round_94 d x1 x3 c σ) Q := by
  intro j
  induction j with
  | zero =>
    intro c σ c0 cj hY g f
    have z : c = 8 := by omega
    subst z
    rw [e_X12_round_94, if_neg (by omega)]
    exact hQ σ g f
  | succ j ih =>
    intro c σ c0 cj hY g f
    rw [e_X12_round_94, if_pos (by omega)]
    refine y_cV (m_looks hd ⟨c0, by omega⟩ hY) (fun t ht => ?_)
    refine m_tab1 (F := fun e => yMf (yD (N 0 0) (N 1) (N 2) (yHR N G (N 5) (N 6)) (N 5) c) e) ⟨c0, by omega⟩ (fun s h1 h2 h3 => ?_) 8 0 t (by omega) (by omega) (fun e e0 e1 => ht.1 e ⟨e0, e1⟩) (fun e e0 e1 => by omega) (fun _ _ _ _ _ _ _ => rfl) yf_rf
    rw [zw_i (x := c + 1) (by omega) (by omega)]
    refine ih (c + 1) s (by omega) (by omega) (yY_f (yY_f hY ht.2.2 (by decide)) h3 (by decide)) (fun e c' e0 e1 a0 a1 => ?_) (yf_tr f (yf_tr (yf_le ht.2.2 (by decide)) (yf_le h3 (by decide))))
    by_cases z : c' = c
    · rw [z]; exact h1 e e0 e1
    · rw [h2 e c' e0 e1 a0 (by omega) z, ht.2.2 88 _ rfl]
      exact g e c' e0 e1 a0 (by omega)
/-- the component's table -/
abbrev yAsk : List Nat × List (Nat × Int) := ([16, 19, 20, 21, 22, 23, 28], [(14, 3)])
theorem c_seek {d : Nat} (hd : 6 ≤ d) {x1 o : Int} {N : zF} {G : yG} {T : Int} {σ0 : zF} {Q : zR → Prop} (hQ : ∀ σ : zF, yX N G T (-1) (N 6) σ → (∀ a c, 0 ≤ a → a < 8 → (a = x1 ∨ yb o a.toNat = true) → 0 ≤ c → c < 8 → σ 28 (a * 8 + c) = yD (N 0 0) (N 1) (N 2) (yHR N G (ypw N (-1)) (N 6)) (ypw N (-1)) a c) → yf yAsk σ0 σ → yT (zCV LAY (zx d 50 [.inl (some 27), .inr (.inl x1), .inr (.inl o), .inr (.inl 0), .inr (.inl 0)] (zset (zset σ 27 4 x1) 27 5 1000000)) fun s101 => zrv s101) Q) : ∀ (j : Nat) (p : Int) (σ : zF), 0 ≤ p → p + j = 8 → yX N G T (-1) (N 6) σ → (∀ a c, 0 ≤ a → a < p → (a = x1 ∨ yb o a.toNat = true) → 0 ≤ c → c < 8 → σ 28 (a * 8 + c) = yD (N 0 0) (N 1) (N 2) (yHR N G (ypw N (-1)) (N 6)) (ypw N (-1)) a c) → yf yAsk σ0 σ → yT (P_X5_seek_2 d x1 o p σ) Q := by
  intro j
  induction j with
  | zero =>
    intro p σ p0 pj hX g f
    have z : p = 8 := by omega
    subst z
    rw [e_X5_seek_2, if_neg (by omega)]
    exact hQ σ hX g f
  | succ j ih =>
    intro p σ p0 pj hX g f
    have yes : yT (zCV LAY (zx d 94 [.inl (some 17), .inr (.inl p)] σ) fun s102 => if 0 ≤ (8 : Int) ∧ 0 ≤ (0 : Int) ∧ 0 ≤ zw (p * 8) ∧ (0 : Int) + 8 ≤ 8 ∧ (zw (p * 8)) + 8 ≤ 64 then (P_X5_seek_2 d x1 o (zw (p + 1)) (zcpy s102 23 0 28 (zw (p * 8)) 8)) else (none)) Q := by
      refine y_cV (c_meas hd ⟨p0, by omega⟩ hX) (fun t ht => ?_)
      rw [zw_i (x := p * 8) (by omega) (by omega), zw_i (x := p + 1) (by omega) (by omega), if_pos (by omega)]
      have f1 : yf ([28], []) t (zcpy t 23 0 28 (p * 8) 8) := yf_cpy yf_rf rfl
      refine ih (p + 1) _ (by omega) (by omega) (yX_f ht.2.2.1 f1 (by decide)) (fun a c a0 a1 ha c0 c1 => ?_) (yf_tr f (yf_tr (yf_le ht.2.2.2 (by decide)) (yf_le f1 (by decide))))
      rw [zcpy_eq]
      by_cases z : a = p
      · rw [if_pos (by omega), z, show 0 + (p * 8 + c - p * 8) = c by omega]
        exact ht.1 c ⟨c0, c1⟩
      · rw [if_neg (by omega), ht.2.2.2 28 _ rfl]
        exact g a c a0 (by omega) ha c0 c1
    rw [e_X5_seek_2, if_pos (by omega)]
    refine y_if (fun q => yes) (fun q => y_if (fun q2 => yes) (fun q2 => ?_))
    rw [zw_i (x := p + 1) (by omega) (by omega)]
    refine ih (p + 1) σ (by omega) (by omega) hX (fun a c a0 a1 ha c0 c1 => ?_) f
    by_cases z : a = p
    · rcases ha with ha | ha
      · exact absurd (z.symm.trans ha) q
      · rw [z] at ha
        exact absurd ((yb_g1 p0 (by omega)).mpr ha) q2
    · exact g a c a0 (by omega) ha c0 c1
set_option maxHeartbeats 1000000 in
theorem o_round {x1 x2 x3 : Int} : yStep 119 210 [.inr (.inl x1), .inr (.inl x2), .inr (.inl x3)] := by
  intro d hd c N G σ hI c0 c1
  obtain ⟨d, rfl, hd'⟩ := y_d hd; have hd := hd'
  obtain ⟨n1, n2, n3, n4⟩ := yI_n hI
  have hi := yInv_id hI
  have fin : ∀ v : Int, yT (zx (d + 1) 210 [.inl (some 57), .inr (.inl x1), .inr (.inl x2), .inr (.inl x3)] σ) (yI fun w t => w = v ∧ t = σ) → yT (zx (d + 1) 210 [.inl (some 57), .inr (.inl x1), .inr (.inl x2), .inr (.inl x3)] σ) (yI fun w t => w = v ∧ ∃ N' G', yInv (c + 1) N' G' t) := fun v h => y_mI h fun w t z => ⟨z.1, N, G, by rw [z.2]; exact hi⟩
  rw [e_X11_round, k_isPlace (by omega), zCI_ri, y01]
  by_cases h : 0 ≤ x1 ∧ x1 < 8
  · rw [if_pos h, y_rg]
    by_cases h2 : 0 ≤ x2 ∧ x2 ≤ 255
    · rw [if_pos h2]
      by_cases h3 : x3 < -1
      · rw [if_pos h3]
        refine y_i (fin _ ?_)
        rw [e_X12_round, k_mPlace (by omega), zCI_ri, y01, if_pos h, k_within (by omega), zCI_ri, y01, if_pos h2, if_pos h3]
        exact y_i ⟨rfl, rfl⟩
      · have em : ∀ s : zF, zx (d + 1) 210 [.inl (some 57), .inr (.inl x1), .inr (.inl x2), .inr (.inl x3)] s = P_X12_round_33 d x1 x2 x3 0 (zset s 57 50 0) := fun s => by
          rw [e_X12_round, k_mPlace (by omega), zCI_ri, y01, if_pos h, k_within (by omega), zCI_ri, y01, if_pos h2, if_neg h3]
        have ob := yot_8 x2.toNat (by omega) x1.toNat (by omega)
        rw [show ((x2.toNat : Nat) : Int) = x2 by omega, show ((x1.toNat : Nat) : Int) = x1 by omega] at ob
        rw [if_neg h3, k_bc (by omega), zCI_ri]
        have wl0 : yWL (zand x2 (zxor (zshl 1 x1) (-1))) 0 (fun k => (zset σ 57 50 0) 89 k) := ⟨fun k k0 k1 => absurd k1 (by show ¬ k < 0; omega), fun a k a0 a1 k1 => absurd k1 (by show ¬ k < 0; omega), fun q q0 q1 => by omega⟩
        have wx := @m_whom d x1 x2 x3
        have hx1 : yb (zand x2 (zxor (zshl 1 x1) (-1))) x1.toNat = false := by
          rcases e : yb (zand x2 (zxor (zshl 1 x1) (-1))) x1.toNat with _ | _
          · rfl
          · exact absurd ((yb_not2 x2 h.1 (by omega) (by omega)).mp e).2 (by omega)
        generalize zand x2 (zxor (zshl 1 x1) (-1)) = o at ob wl0 wx hx1
        have eo : ybc o = yct o 8 := by
          have := ybc_8 o.toNat (by omega)
          rw [show ((o.toNat : Nat) : Int) = o by omega] at this
          exact this
        have o8 : ∀ n : Nat, 8 ≤ n → n < 32 → yb o n = false := fun n a b => by
          have := ybits_8 o.toNat (by omega) n b a
          rw [show ((o.toNat : Nat) : Int) = o by omega] at this
          exact this
        have cb := yct_b o 8
        rw [eo]
        refine y_if (fun q => y_i ?_) (fun q => ?_)
        · rw [em]
          refine wx (σ0 := σ) h (fun s s1 s2 s3 => ?_) 8 0 _ (by omega) (by omega) (zset_hit rfl) wl0 (yf_set yf_rf rfl)
          rw [if_pos (by omega)]
          have f2 : yf ySM σ s := yf_le s3 (by decide)
          obtain ⟨hTr, hLd, hTp, hHs, hIm, hSt, hSh⟩ := hI.2.2.2
          exact y_i ⟨rfl, N, G, yP_f hI.1 s3 (by decide), yY_f hI.2.1 s3 (by decide), by rw [s3 17 5 rfl]; have := hI.2.2.1; omega, yRs_g (yf_g s3 (by decide)) hI.2.2.2⟩
        · refine y_cV (c_begin (by omega) (-1) hI.1 (yI_t hI c1)) (fun s hs => ?_)
          have ok := yOK_of (G := G) hI.1.1 (N 5) (N 5) (N 6)
          obtain ⟨d, rfl, hd'⟩ := y_d (k := 148) (d := d) (by omega)
          rw [e_X5_seek]
          -- what both find
          have go : ∀ wh, yWL o 8 wh → yGo x1 (fun a => 0 ≤ a ∧ a < 8 ∧ (a = x1 ∨ yb o a.toNat = true)) (fun a c => yD (N 0 0) (N 1) (N 2) (yHR N G (N 5) (N 6)) (N 5) a c) (fun e c => yMf (yD (N 0 0) (N 1) (N 2) (yHR N G (N 5) (N 6)) (N 5) c) e) wh (yct o 8) 0 x1 o 0 0 1000000 9999 (fun j => σ 30 j) (fun j => σ 91 j) (fun j => 0) := fun wh w => by
            refine y_go h ⟨cb.1, by omega⟩ (fun a ra => ⟨ra.1, ra.2.1⟩) (fun k k0 k1 => ?_) (fun a k a0 a1 k1 => w.2.1 a k a0 a1 k1) (fun a e a0 a1 e0 e1 => ?_) (yct o 8).toNat 0 x1 o 0 0 1000000 9999 _ _ _ (by omega) (by omega) ?_ ⟨h.1, h.2, Or.inl rfl⟩ (by omega) (by omega) (by unfold zin; omega) o8 (fun p p0 p1 => ?_) (Or.inl ⟨rfl, rfl⟩)
            · have := w.1 k k0 k1
              exact ⟨this.1, this.2.1, Or.inr this.2.2⟩
            · have sy := yD_sym (s := a) (t := e) ⟨a0, a1⟩ ⟨e0, e1⟩ n3 ok
              have b := yD_b (s := a) n3 ok e
              have m := yD_693 (s := a) (c := e) ⟨a0, a1⟩ n3 ok ⟨e0, e1⟩
              show _ = yMf _ a ∧ 0 ≤ yMf _ a ∧ yMf _ a ≤ 693 ∨ _ = 1000000 ∧ yMf _ a = 9999
              unfold yMf
              rw [← sy]
              by_cases z : yD (N 0 0) (N 1) (N 2) (yHR N G (N 5) (N 6)) (N 5) a e < 1000000
              · rw [if_pos z]
                exact Or.inl ⟨rfl, b.1, m z⟩
              · rw [if_neg z]
                exact Or.inr ⟨by omega, rfl⟩
            · have : ∀ k : Nat, ycu 0 k = k := fun k => by
                induction k with
                | zero => rfl
                | succ k ih =>
                  unfold ycu
                  rw [ih, yb_0, if_neg (by decide)]
                  omega
              rw [this]
            · constructor
              · intro e
                obtain ⟨k, k0, k1, k2⟩ := w.2.2 p p0 p1 e
                exact ⟨k, k0, k1, k2, yb_0 _⟩
              · rintro ⟨k, k0, k1, k2, -⟩
                rw [← k2]
                exact (w.1 k k0 k1).2.2
          -- the component's part depends on no list: the least list is that of the model, told ahead
          obtain ⟨wh, hwh, huq⟩ : ∃ wh, yWL o 8 wh ∧ ∀ wh', yWL o 8 wh' → ∀ k, 0 ≤ k → k < yct o 8 → wh' k = wh k := by
            have mk : ∀ p : Nat, ∃ wh, yWL o p wh ∧ ∀ wh', yWL o p wh' → ∀ k, 0 ≤ k → k < yct o p → wh' k = wh k := by
              intro p
              induction p with
              | zero => exact ⟨fun _ => 0, ⟨fun k k0 k1 => absurd k1 (by show ¬ k < 0; omega), fun a k a0 a1 k1 => absurd k1 (by show ¬ k < 0; omega), fun q q0 q1 => by omega⟩, fun wh' _ k k0 k1 => absurd k1 (by show ¬ k < 0; omega)⟩
              | succ p ih =>
                obtain ⟨wh, w, u⟩ := ih
                have b := yct_b o p
                have t0 : ((p : Int)).toNat = p := by omega
                have t1 : (((p + 1 : Nat) : Int)).toNat = p + 1 := by omega
                unfold yWL at w ⊢
                simp only [t0] at w
                simp only [t1]
                by_cases e : yb o p = true
                · have s : yct o (p + 1) = yct o p + 1 := by show yct o p + (if yb o p = true then 1 else 0) = _; rw [if_pos e]
                  rw [s]
                  refine ⟨fun k => if k = yct o p then (p : Int) else wh k, ⟨fun k k0 k1 => ?_, fun a k a0 a1 k1 => ?_, fun q q0 q1 hq => ?_⟩, fun wh' w' k k0 k1 => ?_⟩
                  · by_cases z : k = yct o p
                    · simp only [if_pos z]; exact ⟨by omega, by omega, by rw [t0]; exact e⟩
                    · simp only [if_neg z]
                      have := w.1 k k0 (by omega)
                      exact ⟨this.1, by omega, this.2.2⟩
                  · simp only [if_neg (show ¬ a = yct o p by omega)]
                    by_cases z : k = yct o p
                    · simp only [if_pos z]; exact (w.1 a a0 (by omega)).2.1
                    · simp only [if_neg z]; exact w.2.1 a k a0 a1 (by omega)
                  · by_cases z : q = p
                    · exact ⟨yct o p, by omega, by omega, by simp only [if_pos]; exact z.symm⟩
                    · obtain ⟨k, k0, k1, k2⟩ := w.2.2 q q0 (by omega) hq
                      exact ⟨k, k0, by omega, by simp only [if_neg (show ¬ k = yct o p by omega)]; exact k2⟩
                  · -- the last of a list is p
                    obtain ⟨kp, kp0, kp1, kp2⟩ := w'.2.2 p (by omega) (by omega) (by rw [t0]; exact e)
                    have last : kp = yct o p := by
                      rcases Int.lt_or_le kp (yct o p) with z | z
                      · have a := w'.2.1 kp (yct o p) kp0 z (by omega)
                        have b2 := (w'.1 (yct o p) (by omega) (by omega)).2.1
                        omega
                      · omega
                    by_cases z : k = yct o p
                    · simp only [if_pos z]; rw [z, ← last]; exact kp2
                    · simp only [if_neg z]
                      refine u wh' ?_ k k0 (by omega)
                      unfold yWL
                      simp only [t0]
                      refine ⟨fun k k0 k1 => ?_, fun a k a0 a1 k1 => w'.2.1 a k a0 a1 (by omega), fun q q0 q1 hq => ?_⟩
                      · have a := w'.1 k k0 (by omega)
                        have b2 := w'.2.1 k kp k0 (by omega) kp1
                        exact ⟨a.1, by omega, a.2.2⟩
                      · obtain ⟨k', g0, g1, g2⟩ := w'.2.2 q q0 (by omega) hq
                        refine ⟨k', g0, ?_, g2⟩
                        by_cases z2 : k' = yct o p
                        · rw [z2, ← last, kp2] at g2; omega
                        · omega
                · have s : yct o (p + 1) = yct o p := by show yct o p + (if yb o p = true then 1 else 0) = _; rw [if_neg e, Int.add_zero]
                  rw [s]
                  have dn : ∀ wh' : Int → Int, ∀ k, 0 ≤ wh' k ∧ wh' k < ((p + 1 : Nat) : Int) ∧ yb o (wh' k).toNat = true → wh' k < p := fun wh' k a => by
                    by_cases z : wh' k = p
                    · rw [z, t0] at a; exact absurd a.2.2 e
                    · omega
                  refine ⟨wh, ⟨fun k k0 k1 => ?_, w.2.1, fun q q0 q1 hq => ?_⟩, fun wh' w' k k0 k1 => ?_⟩
                  · have := w.1 k k0 k1
                    exact ⟨this.1, by omega, this.2.2⟩
                  · by_cases z : q = p
                    · rw [z, t0] at hq; exact absurd hq e
                    · exact w.2.2 q q0 (by omega) hq
                  · refine u wh' ?_ k k0 k1
                    unfold yWL
                    simp only [t0]
                    refine ⟨fun k k0 k1 => ?_, w'.2.1, fun q q0 q1 hq => w'.2.2 q q0 (by omega) hq⟩
                    have a := w'.1 k k0 k1
                    exact ⟨a.1, dn wh' k a, a.2.2⟩
            exact mk 8
          obtain ⟨b1, b1', o1, o1', r1, C1, M1⟩ := go wh hwh
          refine y_cV (c_seek (σ0 := s) (Q := yV fun t => yX N G (σ 17 5 + 1) (-1) (N 6) t ∧ t 27 5 = b1 ∧ (∀ j, 0 ≤ j → j < yct o 8 → t 30 j = o1 j) ∧ yf ySC s t) (by omega) (fun t ht g f => ?_) 8 0 s (by omega) (by omega) hs.1 (fun a c a0 a1 => by omega) yf_rf) (fun t ht => ?_)
          · have f1 : yf ([], [(27, 4), (27, 5)]) t (zset (zset t 27 4 x1) 27 5 1000000) := yf_set (yf_set yf_rf rfl) rfl
            have fs := yf_tr (yf_le (B := ySC) f (by decide)) (yf_le (B := ySC) f1 (by decide))
            refine y_cV (C1 d _ (by omega) ⟨by rw [zset_off (by decide), zset_hit rfl], zset_hit rfl, fun a e ra e0 e1 => ?_, fun j j0 j1 => ?_⟩ (fun j j0 j1 => by omega)) (fun u hu => y_v ⟨yX_f (yX_f ht f1 (by decide)) hu.2.2 (by decide), hu.1.2.1, hu.1.2.2.2, yf_tr fs (yf_le hu.2.2 (by decide))⟩)
            · rw [f1 28 _ rfl]
              exact (g a e ra.1 ra.2.1 ra.2.2 e0 e1).trans (congrFun (yD_w a n3) e)
            · rw [f1 30 j rfl, f 30 j rfl, hs.2 30 j rfl]
          · obtain ⟨t1, t2, t3, t4⟩ := ht
            have f : yf ySC σ t := yf_tr (yf_le hs.2 (by decide)) t4
            have hY := yY_f hI.2.1 f (by decide)
            -- the model
            have mod : yT (zx (d + 1 + 1) 210 [.inl (some 57), .inr (.inl x1), .inr (.inl x2), .inr (.inl x3)] t) (yI fun w t' => (w = if b1 < 1000000 then (if x3 < yct o 8 then (if x3 < 0 then b1 else o1 x3) else -2) else -2) ∧ yInv (c + 1) N G t') := by
              rw [em]
              refine wx (σ0 := t) h (fun u u1 u2 u3 => ?_) 8 0 _ (by omega) (by omega) (zset_hit rfl) ⟨fun k k0 k1 => absurd k1 (by show ¬ k < 0; omega), fun a k a0 a1 k1 => absurd k1 (by show ¬ k < 0; omega), fun q q0 q1 => by omega⟩ (yf_set yf_rf rfl)
              rw [if_neg (by omega)]
              have hY2 := yY_f hY u3 (by decide)
              refine m_tab (σ0 := u) (by omega) (fun v v1 v2 => ?_) 8 0 u (by omega) (by omega) hY2 (fun e c' e0 e1 => by omega) yf_rf
              have f3 : yf ([], [(57, 54)]) v (zset v 57 54 9999) := yf_set yf_rf rfl
              refine y_cV (M1 (d + 1) _ (by omega) ⟨?_, zset_hit rfl, fun k k0 k1 => ?_, fun a e a0 a1 e0 e1 => ?_, fun j j0 j1 => ?_⟩ (fun j j0 j1 => by omega)) (fun w hw => ?_)
              · rw [zset_off (by decide), v2 57 50 rfl, u1]
              · rw [f3 89 k rfl, v2 89 k rfl]
                exact huq _ u2 k k0 k1
              · rw [f3 88 _ rfl]
                exact v1 a e a0 a1 e0 e1
              · rw [f3 91 j rfl, v2 91 j rfl, u3 91 j rfl, f 91 j rfl]
              · obtain ⟨⟨w1, w2, w3, w4, w5⟩, -, w6⟩ := hw
                have f2 : yf ySM t w := yf_tr (yf_tr (yf_le u3 (by decide)) (yf_le v2 (by decide))) (yf_tr (yf_le f3 (by decide)) (yf_le w6 (by decide)))
                have inv : yInv (c + 1) N G w := yth hI t1 (by omega) f (yM_f (yM_f (yM_f hY2.2.2.2.1 v2 (by decide)) f3 (by decide)) w6 (by decide)) f2
                rw [w1, w2]
                rcases r1 with ⟨q1, q2⟩ | ⟨q1, q2, q3, q4⟩
                · rw [if_neg (by omega)]
                  exact y_i ⟨by rw [if_neg (by omega)], inv⟩
                · rw [if_pos (by omega)]
                  refine y_if (fun z => y_i ⟨?_, inv⟩) (fun z => y_if (fun z2 => y_g (by omega) (y_i ⟨?_, inv⟩)) (fun z2 => y_i ⟨?_, inv⟩))
                  · rw [if_pos (by omega), if_pos (by omega), if_pos (by omega), q1]
                  · rw [if_pos (by omega), if_pos z2, if_neg (by omega), w5 x3 (by omega) z2, q4 x3 (by omega) z2]
                  · rw [if_pos (by omega), if_neg z2]
            have mod2 : ∀ v, v = (if b1 < 1000000 then (if x3 < yct o 8 then (if x3 < 0 then b1 else o1 x3) else -2) else -2) → yT (zx (d + 1 + 1) 210 [.inl (some 57), .inr (.inl x1), .inr (.inl x2), .inr (.inl x3)] t) (yI fun w t' => w = v ∧ ∃ N' G', yInv (c + 1) N' G' t') := fun v hv => y_mI mod (fun w t' hw => ⟨hw.1.trans hv.symm, N, G, hw.2⟩)
            rw [t2]
            refine y_if (fun z => y_if (fun z2 => y_if (fun z3 => y_i (mod2 _ ?_)) (fun z3 => y_g (by omega) (y_i (mod2 _ ?_)))) (fun z2 => y_i (mod2 _ ?_))) (fun z => y_i (mod2 _ ?_))
            · rw [if_pos z, if_pos z2, if_pos z3]
            · rw [if_pos z, if_pos z2, if_neg z3]; exact t3 x3 (by omega) z2
            · rw [if_pos z, if_neg z2]
            · rw [if_neg z]
    · rw [if_neg h2]
      refine y_i (fin _ ?_)
      rw [e_X12_round, k_mPlace (by omega), zCI_ri, y01, if_pos h, k_within (by omega), zCI_ri, y01, if_neg h2]
      exact y_i ⟨rfl, rfl⟩
  · rw [if_neg h]
    refine y_i (fin _ ?_)
    rw [e_X12_round, k_mPlace (by omega), zCI_ri, y01, if_neg h]
    exact y_i ⟨rfl, rfl⟩
