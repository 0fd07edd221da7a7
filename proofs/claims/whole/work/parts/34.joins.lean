/-! which places are come to: bits against hours -/
theorem yfx {n : Int} {A B H p d : Int → Int} {b r : Int} (ok : yOK n A B H p) (h0 : 0 ≤ r) (h1 : r < n) (hb : ybd b d) (b1 : b ≤ 900000) (c : Int) : yrx A B H p d r c < 1000000 ↔ d c < 1000000 ∨ p r = 0 ∧ (c = B r ∧ d (A r) < 1000000 ∨ c = A r ∧ d (B r) < 1000000) := by
  obtain ⟨a1, a2, a3, a4, a5, a6, a7⟩ := ok r h0 h1
  have bA := hb (A r)
  have bB := hb (B r)
  have bc := hb c
  unfold yrx
  by_cases hp : p r = 0
  · by_cases e1 : c = B r
    · have e2 : ¬ c = A r := by omega
      simp only [hp, e1, true_and]
      rw [e1] at bc e2
      simp only [e2, false_and, or_false, if_false]
      split <;> omega
    · by_cases e2 : c = A r
      · simp only [hp, e1, false_and, and_false, if_false, true_and, false_or]
        simp only [e2, true_and]
        rw [e2] at bc
        split <;> omega
      · simp only [e1, e2, false_and, and_false, if_false, or_false]
  · simp only [hp, false_and, if_false, or_false]
theorem yfk {n : Int} {A B H p d e : Int → Int} {b b' : Int} (ok : yOK n A B H p) (n1 : n ≤ 12) (hb : ybd b d) (b0 : 0 ≤ b) (b1 : b ≤ 800000) (hb' : ybd b' e) (b0' : 0 ≤ b') (b1' : b' ≤ 800000) (h : ∀ c, d c < 1000000 ↔ e c < 1000000) : ∀ k : Nat, (k : Int) ≤ n → ∀ c, yrk A B H p d k c < 1000000 ↔ yrk A B H p e k c < 1000000
  | 0, _ => h
  | k + 1, hk => by
    intro c
    have ih := yfk ok n1 hb b0 b1 hb' b0' b1' h k (by omega)
    have q1 := yfx ok (r := (k : Int)) (by omega) (by omega) (ybd_k ok hb b0 b1 k (by omega) (by omega)) (by omega) c
    have q2 := yfx ok (r := (k : Int)) (by omega) (by omega) (ybd_k ok hb' b0' b1' k (by omega) (by omega)) (by omega) c
    show yrx A B H p (yrk A B H p d k) k c < 1000000 ↔ yrx A B H p (yrk A B H p e k) k c < 1000000
    rw [q1, q2, ih c, ih (A k), ih (B k)]
theorem yfs {n : Int} {A B H p : Int → Int} {s : Int} (ok : yOK n A B H p) (n0 : 0 ≤ n) (n1 : n ≤ 12) {i : Nat} (h : ∀ c, yrs n A B H p (yd0 s) (i + 1) c < 1000000 ↔ yrs n A B H p (yd0 s) i c < 1000000) : ∀ j : Nat, i + j ≤ 7 → ∀ c, yrs n A B H p (yd0 s) (i + 1 + j) c < 1000000 ↔ yrs n A B H p (yd0 s) i c < 1000000
  | 0, _ => h
  | j + 1, hj => by
    intro c
    have ih := yfs ok n0 n1 h j (by omega)
    have q := yfk (d := yrs n A B H p (yd0 s) (i + 1 + j)) (e := yrs n A B H p (yd0 s) i) ok n1 (ybd_s (s := s) ok n0 n1 (i + 1 + j) (by omega)) (by omega) (by omega) (ybd_s (s := s) ok n0 n1 i (by omega)) (by omega) (by omega) ih n.toNat (by omega) c
    exact q.trans (h c)
theorem y_ends0 {x a b : Int} (ha : 0 ≤ a ∧ a < 8) (hb : 0 ≤ b ∧ b < 8) : zand x (zor (zshl 1 a) (zshl 1 b)) = 0 ↔ yb x a.toNat = false ∧ yb x b.toNat = false := by
  rw [yb_z (zand_in _ _)]
  constructor
  · intro h
    have h1 := h a.toNat (by omega)
    have h2 := h b.toNat (by omega)
    rw [yb_and, yb_or, yb_1 ha.1 (by omega), yb_1 hb.1 (by omega)] at h1 h2
    have e1 : decide (((a.toNat : Nat) : Int) = a) = true := decide_eq_true (by omega)
    have e2 : decide (((b.toNat : Nat) : Int) = b) = true := decide_eq_true (by omega)
    rw [e1, Bool.true_or, Bool.and_true] at h1
    rw [e2, Bool.or_true, Bool.and_true] at h2
    exact ⟨h1, h2⟩
  · rintro ⟨h1, h2⟩ i hi
    rw [yb_and, yb_or, yb_1 ha.1 (by omega), yb_1 hb.1 (by omega)]
    by_cases e1 : (i : Int) = a
    · have : i = a.toNat := by omega
      rw [this, h1, Bool.false_and]
    · by_cases e2 : (i : Int) = b
      · have : i = b.toNat := by omega
        rw [this, h2, Bool.false_and]
      · rw [decide_eq_false e1, decide_eq_false e2, Bool.or_false, Bool.and_false]
/-- the bits of the places that are come to -/
def yfb (x : Int) (d : Int → Int) : Prop := ∀ c, 0 ≤ c ∧ c < 8 → (yb x c.toNat = true ↔ d c < 1000000)
theorem c_joins_k {d : Nat} {N σ : zF} {H p : Int → Int} {e w x0 i : Int} (hB : yBn N) (hC : yC N σ) (ok : yOK (N 0 0) (N 1) (N 2) H p) (hp : ∀ r, 0 ≤ r → r < N 0 0 → (p r = 0 ↔ N 5 r = 0 ∧ ¬ r = w)) {D : Int → Int} {b : Int} (hb : ybd b D) (b0 : 0 ≤ b) (b1 : b ≤ 700000) {R : Option zR} (hR : ∀ x, zin x → yfb x (yrd (N 0 0) (N 1) (N 2) H p D) → (if x = x0 then (if zand (zshr x e) 1 = 1 then zri 1 σ else zri 0 σ) else P_X3_joins_8 d e w x (zw (i + 1)) σ) = R) : ∀ (j k : Nat) (x : Int), (k : Int) + j = N 0 0 → zin x → yfb x (yrk (N 1) (N 2) H p D k) → P_X3_joins_22 d e w x i x0 (k : Int) σ = R := by
  intro j
  have n1 := hB.2.1
  induction j with
  | zero =>
    intro k x hk hx hf
    rw [e_X3_joins_22, hC.1, if_neg (by omega)]
    refine hR x hx ?_
    unfold yrd
    rw [show (N 0 0).toNat = k by omega]
    exact hf
  | succ j ih =>
    intro k x hk hx hf
    have ih2 := ih (k + 1)
    rw [Int.natCast_succ] at ih2
    have hc := hC.2.2 k (by omega) (by omega)
    obtain ⟨o1, o2, o3, o4, o5, o6, o7⟩ := ok k (by omega) (by omega)
    have pk := hp k (by omega) (by omega)
    have step : ∀ c, yrk (N 1) (N 2) H p D (k + 1) c < 1000000 ↔ _ := fun c => yfx ok (r := (k : Int)) (by omega) (by omega) (ybd_k ok hb b0 (by omega) k (by omega) (by omega)) (by omega) c
    have rk : (0 : Int) ≤ (k : Int) ∧ (k : Int) < 12 := by omega
    rw [e_X3_joins_22, hC.1, if_pos (by omega), zw_i (x := (k : Int) + 1) (by omega) (by omega), hc.1, hc.2.1, hc.2.2.2.2.1]
    simp only [if_pos rk]
    have same : ¬ p k = 0 → yfb x (yrk (N 1) (N 2) H p D (k + 1)) := by
      intro q c hc2
      rw [hf c hc2, step c]
      constructor
      · exact Or.inl
      · rintro (h | ⟨h, -⟩)
        · exact h
        · exact absurd h q
    by_cases e1 : (k : Int) = w
    · rw [if_pos e1]
      exact ih2 x (by omega) hx (same (fun q => (pk.mp q).2 e1))
    · rw [if_neg e1]
      by_cases e2 : N 5 k = 0
      · have q : p k = 0 := pk.mpr ⟨e2, e1⟩
        have fA := hf (N 1 k) ⟨o1, o2⟩
        have fB := hf (N 2 k) ⟨o3, o4⟩
        rw [if_pos e2]
        by_cases z : zand x (zor (zshl 1 (N 1 k)) (zshl 1 (N 2 k))) = 0
        · rw [if_pos z]
          rw [y_ends0 ⟨o1, o2⟩ ⟨o3, o4⟩] at z
          rw [z.1] at fA
          rw [z.2] at fB
          refine ih2 x (by omega) hx (fun c hc2 => ?_)
          rw [hf c hc2, step c]
          constructor
          · exact Or.inl
          · rintro (h | ⟨-, ⟨h1, h2⟩ | ⟨h1, h2⟩⟩)
            · exact h
            · exact absurd (fA.mpr h2) (by decide)
            · exact absurd (fB.mpr h2) (by decide)
        · rw [if_neg z]
          rw [y_ends0 ⟨o1, o2⟩ ⟨o3, o4⟩] at z
          refine ih2 _ (by omega) (zor_in _ _) (fun c hc2 => ?_)
          rw [yb_or, yb_or, yb_1 o1 (by omega), yb_1 o3 (by omega), step c, Bool.or_eq_true, Bool.or_eq_true, decide_eq_true_eq, decide_eq_true_eq, hf c hc2]
          have t1 : ((c.toNat : Nat) : Int) = c := by omega
          rw [t1]
          have someone : yrk (N 1) (N 2) H p D k (N 1 k) < 1000000 ∨ yrk (N 1) (N 2) H p D k (N 2 k) < 1000000 := by
            rw [← fA, ← fB]
            rcases ea : yb x (N 1 k).toNat with _ | _
            · rcases eb : yb x (N 2 k).toNat with _ | _
              · exact absurd ⟨ea, eb⟩ z
              · exact Or.inr rfl
            · exact Or.inl rfl
          constructor
          · rintro (h | h | h)
            · exact Or.inl h
            · rcases someone with g | g
              · rw [h]; exact Or.inl g
              · exact Or.inr ⟨q, Or.inr ⟨h, g⟩⟩
            · rcases someone with g | g
              · exact Or.inr ⟨q, Or.inl ⟨h, g⟩⟩
              · rw [h]; exact Or.inl g
          · rintro (h | ⟨-, ⟨h, -⟩ | ⟨h, -⟩⟩)
            · exact Or.inl h
            · exact Or.inr (Or.inr h)
            · exact Or.inr (Or.inl h)
      · rw [if_neg e2]
        exact ih2 x (by omega) hx (same (fun q => e2 (pk.mp q).1))
theorem c_joins_i {d : Nat} {N σ : zF} {H p : Int → Int} {s e w : Int} (hs : 0 ≤ s ∧ s < 8) (he : 0 ≤ e ∧ e < 8) (hB : yBn N) (hC : yC N σ) (ok : yOK (N 0 0) (N 1) (N 2) H p) (hp : ∀ r, 0 ≤ r → r < N 0 0 → (p r = 0 ↔ N 5 r = 0 ∧ ¬ r = w)) : ∀ (j i : Nat) (x : Int), i + j = 8 → zin x → yfb x (yrs (N 0 0) (N 1) (N 2) H p (yd0 s) i) → P_X3_joins_8 d e w x (i : Int) σ = zri (if yD (N 0 0) (N 1) (N 2) H p s e < 1000000 then 1 else 0) σ := by
  intro j
  have n0 := hB.1
  have n1 := hB.2.1
  have out : ∀ k c, ¬ (0 ≤ c ∧ c < 8) → ¬ yrs (N 0 0) (N 1) (N 2) H p (yd0 s) k c < 1000000 := by
    intro k c hc
    have : yrs (N 0 0) (N 1) (N 2) H p (yd0 s) k c = yd0 s c := by
      induction k with
      | zero => rfl
      | succ k ih => exact (yrd_out n0 ok hc).trans ih
    rw [this]
    unfold yd0
    rw [if_neg (by omega)]
    omega
  induction j with
  | zero =>
    intro i x hi hx hf
    rw [e_X3_joins_8, if_neg (by omega)]
    have q := hf e he
    rw [show i = 8 by omega] at q
    rw [y_ri]
    refine congrArg (fun z => zri z σ) (y_cc ?_)
    rw [yb_g1 he.1 (by omega)]
    exact q
  | succ j ih =>
    intro i x hi hx hf
    rw [e_X3_joins_8, if_pos (by omega)]
    refine c_joins_k (σ := σ) hB hC ok hp (ybd_s (s := s) ok n0 n1 i (by omega)) (by omega) (by omega) (fun y hy hg => ?_) (N 0 0).toNat 0 x (by omega) hx hf
    by_cases q : y = x
    · rw [if_pos q, y_ri]
      refine congrArg (fun z => zri z σ) (y_cc ?_)
      rw [yb_g1 he.1 (by omega), q, hf e he]
      have st : ∀ c, yrs (N 0 0) (N 1) (N 2) H p (yd0 s) (i + 1) c < 1000000 ↔ yrs (N 0 0) (N 1) (N 2) H p (yd0 s) i c < 1000000 := by
        intro c
        by_cases hc : 0 ≤ c ∧ c < 8
        · rw [← hf c hc, ← q]
          exact (hg c hc).symm
        · exact ⟨fun h => absurd h (out _ c hc), fun h => absurd h (out _ c hc)⟩
      have := yfs ok n0 n1 st (7 - i) (by omega) e
      rw [show i + 1 + (7 - i) = 8 by omega] at this
      exact this.symm
    · rw [if_neg q, zw_i (x := (i : Int) + 1) (by omega) (by omega)]
      have ih2 := ih (i + 1) y (by omega) hy hg
      rw [Int.natCast_succ] at ih2
      exact ih2
theorem c_joins {d : Nat} (hd : 1 ≤ d) {N σ : zF} {H p : Int → Int} {s e w : Int} (hs : 0 ≤ s ∧ s < 8) (he : 0 ≤ e ∧ e < 8) (hB : yBn N) (hC : yC N σ) (ok : yOK (N 0 0) (N 1) (N 2) H p) (hp : ∀ r, 0 ≤ r → r < N 0 0 → (p r = 0 ↔ N 5 r = 0 ∧ ¬ r = w)) : zx d 27 [.inl (some 1), .inr (.inl s), .inr (.inl e), .inr (.inl w)] σ = zri (if yD (N 0 0) (N 1) (N 2) H p s e < 1000000 then 1 else 0) σ := by
  obtain ⟨d, rfl, hd'⟩ := y_d hd; have hd := hd'
  rw [e_X3_joins]
  refine c_joins_i hs he hB hC ok hp 8 0 _ rfl (zshl_in _ _) (fun c hc => ?_)
  rw [yb_1 hs.1 (by omega), decide_eq_true_eq]
  show _ ↔ yd0 s c < 1000000
  unfold yd0
  have t1 : ((c.toNat : Nat) : Int) = c := by omega
  rw [t1]
  split
  · next h => exact ⟨fun _ => by omega, fun _ => h⟩
  · next h => exact ⟨fun g => absurd g h, fun g => by omega⟩
theorem ypw0 {N : zF} (w : Int) : ∀ r, 0 ≤ r → r < N 0 0 → (ypw N w r = 0 ↔ N 5 r = 0 ∧ ¬ r = w) := by
  intro r _ _
  unfold ypw
  by_cases h : r = w
  · rw [if_pos h]
    constructor
    · intro h2; omega
    · rintro ⟨-, h2⟩; exact absurd h h2
  · rw [if_neg h]
    exact ⟨fun h2 => ⟨h2, h⟩, fun h2 => h2.1⟩
theorem c_needed_l {d : Nat} (hd : 1 ≤ d) {N σ : zF} {G : yG} {s e : Int} (hs : 0 ≤ s ∧ s < 8) (he : 0 ≤ e ∧ e < 8) (hB : yBn N) (hC : yC N σ) : ∀ j k : Nat, (k : Int) + j = N 0 0 → P_X11_needed_40 d s e (ybs (fun r => decide (¬ yD (N 0 0) (N 1) (N 2) (yHR N G (ypw N r) (N 6)) (ypw N r) s e < 1000000)) k) (k : Int) σ = zri (ybs (fun r => decide (¬ yD (N 0 0) (N 1) (N 2) (yHR N G (ypw N r) (N 6)) (ypw N r) s e < 1000000)) (N 0 0).toNat) σ := by
  intro j
  have n1 := hB.2.1
  induction j with
  | zero =>
    intro k hk
    rw [e_X11_needed_40, hC.1, if_neg (by omega), show (N 0 0).toNat = k by omega]
  | succ j ih =>
    intro k hk
    have ih2 := ih (k + 1) (by omega)
    rw [Int.natCast_succ] at ih2
    rw [e_X11_needed_40, hC.1, if_pos (by omega), c_joins hd hs he hB hC (yOK_of (G := G) hB (ypw N k) (ypw N k) (N 6)) (ypw0 _), zCI_ri, y01, zw_i (x := (k : Int) + 1) (by omega) (by omega)]
    by_cases q : yD (N 0 0) (N 1) (N 2) (yHR N G (ypw N k) (N 6)) (ypw N k) s e < 1000000
    · rw [if_pos q]
      rw [ybs_f (by simp [q])] at ih2
      exact ih2
    · rw [if_neg q]
      rw [ybs_t (by simp; omega)] at ih2
      exact ih2
theorem m_needed_l {d : Nat} (hd : 9 ≤ d) {N σ0 : zF} {G : yG} {x : Int} (hx : zin x) (hP : yPair x) : ∀ (j k : Nat) (σ : zF), (k : Int) + j = N 0 0 → yY N G (N 5) (N 6) σ → yf ([60, 72, 73, 84, 85], []) σ0 σ → yT (P_X12_needed_25 d x (ybs (fun r => decide (yW N G (ypw N r) (N 6) x = -2)) k) (k : Int) σ) (yI fun v t => v = ybs (fun r => decide (yW N G (ypw N r) (N 6) x = -2)) (N 0 0).toNat ∧ yM N (N 5) (N 6) t ∧ yf ([60, 72, 73, 84, 85], []) σ0 t) := by
  intro j
  induction j with
  | zero =>
    intro k σ hk hY f
    rw [e_X12_needed_25, hY.2.2.2.1.1]
    refine y_n (by omega) (y_i ⟨?_, hY.2.2.2.1, f⟩)
    rw [show (N 0 0).toNat = k by omega]
  | succ j ih =>
    intro k σ hk hY f
    have n1 := hY.1.2.1
    have hY2 := hY
    obtain ⟨g1, g2, g3, g4, g5⟩ := hY2
    rw [e_X12_needed_25, g4.1]
    refine y_g (by omega) (y_cI (m_without hd hx hP hY (by omega) (by omega)) (fun v t ht => ?_))
    rw [ht.1, zw_i (x := (k : Int) + 1) (by omega) (by omega)]
    have ih2 := ih (k + 1) t (by omega) ⟨g1, g2, g3, ht.2.1, yLM_f g5 ht.2.2 (by decide)⟩ (yf_tr f ht.2.2)
    rw [Int.natCast_succ] at ih2
    refine y_if (fun q => ?_) (fun q => ?_)
    · rw [ybs_t (by simp [q])] at ih2
      exact ih2
    · rw [ybs_f (by simp [q])] at ih2
      exact ih2
theorem ybs_c {f g : Int → Bool} : ∀ k : Nat, (∀ c : Int, 0 ≤ c → c < (k : Int) → f c = g c) → ybs f k = ybs g k
  | 0, _ => rfl
  | k + 1, h => by
    show (if f k = true then _ else _) = if g k = true then _ else _
    rw [h k (by omega) (by omega), ybs_c k (fun c a b => h c a (by omega))]
theorem o_needed {x : Int} (hx : zin x) : yStep 115 205 [.inr (.inl x)] := by
  intro d hd c N G σ hI c0 c1
  obtain ⟨d, rfl, hd'⟩ := y_d hd; have hd := hd'
  obtain ⟨n1, n2, n3, n4⟩ := yI_n hI
  have hY := hI.2.1
  by_cases hp : yPair x
  · have hp' := hp
    unfold yPair at hp'
    have hx' := hx
    unfold zin at hx'
    have eW : ∀ p, (∀ r, 0 ≤ r → r < N 0 0 → (p r = 0 ∨ p r = 1)) → (yW N G p (N 6) x = -2 ↔ ¬ yD (N 0 0) (N 1) (N 2) (yHR N G p (N 6)) p (x / 10) (x % 10) < 1000000) := by
      intro p _
      rw [yDs _ hI.1.1 (by omega) (by omega)]
      unfold yW
      have b2 := yD_b (p := p) (s := x % 10) n3 (yOK_of (G := G) hI.1.1 p p (N 6)) (x / 10)
      split <;> omega
    rw [e_X11_needed, k_isPair1 (by omega) hx hp, zCI_ri, if_neg (by decide), if_neg (by decide), if_neg (by decide), zdiv_p hp'.1 hx'.2 (by decide), zrem_p hp'.1, c_joins (by omega) (by omega) (by omega) hI.1.1 hI.1.2.1 (yOK_of (G := G) hI.1.1 (ypw N (-1)) (ypw N (-1)) (N 6)) (ypw0 _), zCI_ri, y01, yD_w _ n3]
    have mod : ∀ v, v = (if yW N G (N 5) (N 6) x = -2 then 0 else ybs (fun r => decide (yW N G (ypw N r) (N 6) x = -2)) (N 0 0).toNat) → yT (zri v σ) (yI fun v s => yT (zx (d + 1) 205 [.inl (some 57), .inr (.inl x)] s) (yI fun w t => w = v ∧ ∃ N' G', yInv (c + 1) N' G' t)) := by
      intro v hv
      refine y_i ?_
      rw [e_X12_needed, k_mTwo1 (by omega) hx hp, zCI_ri, if_neg (by decide)]
      refine y_cI (m_wayOf (by omega) hx hp hY) (fun w t ht => ?_)
      rw [ht.1]
      refine y_if (fun q => y_i ⟨?_, N, G, yInv_th hI (s := σ) hI.1 (by omega) yf_rf (yM_f hY.2.2.2.1 ht.2.2.2 (by decide)) (yf_le ht.2.2.2 (by decide))⟩) (fun q => ?_)
      · rw [hv, if_pos q]
      · refine y_mI (m_needed_l (by omega) (σ0 := σ) hx hp (N 0 0).toNat 0 t (by omega) (yY_f hY ht.2.2.2 (by decide)) (yf_le ht.2.2.2 (by decide))) (fun w2 t2 ht2 => ⟨?_, N, G, yInv_th hI (s := σ) hI.1 (by omega) yf_rf ht2.2.1 (yf_le ht2.2.2 (by decide))⟩)
        rw [hv, if_neg q, ht2.1]
    by_cases q : yD (N 0 0) (N 1) (N 2) (yHR N G (N 5) (N 6)) (N 5) (x / 10) (x % 10) < 1000000
    · rw [if_pos q]
      rw [show P_X11_needed_40 d (x / 10) (x % 10) 0 0 σ = P_X11_needed_40 d (x / 10) (x % 10) (ybs (fun r => decide (¬ yD (N 0 0) (N 1) (N 2) (yHR N G (ypw N r) (N 6)) (ypw N r) (x / 10) (x % 10) < 1000000)) 0) ((0 : Nat) : Int) σ from rfl, c_needed_l (by omega) (by omega) (by omega) hI.1.1 hI.1.2.1 (N 0 0).toNat 0 (by omega)]
      refine mod _ ?_
      rw [if_neg (fun h => (eW (N 5) hY.2.2.1).mp h q)]
      refine ybs_c _ (fun r r0 r1 => ?_)
      have := eW (ypw N r) (fun q q0 q1 => by unfold ypw; split; exact Or.inr rfl; exact hY.2.2.1 q q0 q1)
      by_cases z : yD (N 0 0) (N 1) (N 2) (yHR N G (ypw N r) (N 6)) (ypw N r) (x / 10) (x % 10) < 1000000
      · rw [decide_eq_false (fun h => h z), decide_eq_false (fun h => this.mp h z)]
      · rw [decide_eq_true z, decide_eq_true (this.mpr z)]
    · rw [if_neg q]
      refine mod _ ?_
      rw [if_pos ((eW (N 5) hY.2.2.1).mpr q)]
  · rw [e_X11_needed, k_isPair0 (by omega) hx hp, zCI_ri, if_pos rfl]
    refine y_i ?_
    rw [e_X12_needed, k_mTwo0 (by omega) hx hp, zCI_ri, if_pos rfl]
    exact y_i ⟨rfl, N, G, yInv_id hI⟩
