/-! the model's distances: 9999 for the component's million -/
def yMf (d : Int → Int) (c : Int) : Int := if d c < 1000000 then d c else 9999
def ybd (b : Int) (d : Int → Int) : Prop := ∀ c, d c = 1000000 ∨ 0 ≤ d c ∧ d c ≤ b
theorem ybd_x {A B H p d : Int → Int} {b r : Int} (hb : ybd b d) (h1 : 1 ≤ H r ∧ H r ≤ 99) (h2 : 0 ≤ b) (h3 : b ≤ 900000) : ybd (b + 99) (yrx A B H p d r) := by
  intro c
  have a1 := hb (A r)
  have a2 := hb (B r)
  have a3 := hb c
  unfold yrx
  split
  · omega
  · split <;> omega
theorem ybd_k {n : Int} {A B H p d : Int → Int} {b : Int} (ok : yOK n A B H p) (hb : ybd b d) (h2 : 0 ≤ b) (h3 : b ≤ 800000) : ∀ k : Nat, (k : Int) ≤ n → k ≤ 12 → ybd (b + 99 * k) (yrk A B H p d k)
  | 0, _, _ => by
    intro c
    rcases hb c with e | e
    · exact Or.inl e
    · exact Or.inr ⟨e.1, Int.le_trans e.2 (by omega)⟩
  | k + 1, h, h4 => by
    have h5 := ok k (by omega) (by omega)
    have := ybd_x (A := A) (B := B) (p := p) (r := (k : Int)) (ybd_k ok hb h2 h3 k (by omega) (by omega)) ⟨h5.2.2.2.2.2.1, h5.2.2.2.2.2.2⟩ (by omega) (by omega)
    intro c
    rcases this c with e | e
    · exact Or.inl e
    · exact Or.inr ⟨e.1, Int.le_trans e.2 (by omega)⟩
theorem ybd_s {n : Int} {A B H p : Int → Int} {s : Int} (ok : yOK n A B H p) (n0 : 0 ≤ n) (n1 : n ≤ 12) : ∀ k : Nat, k ≤ 8 → ybd (1188 * k) (yrs n A B H p (yd0 s) k)
  | 0, _ => by
    intro c
    show yd0 s c = 1000000 ∨ 0 ≤ yd0 s c ∧ yd0 s c ≤ 1188 * ((0 : Nat) : Int)
    unfold yd0
    split <;> omega
  | k + 1, h => by
    have := ybd_k ok (ybd_s (s := s) ok n0 n1 k (by omega)) (by omega) (by omega) n.toNat (by omega) (by omega)
    intro c
    rcases this c with e | e
    · exact Or.inl e
    · exact Or.inr ⟨e.1, Int.le_trans e.2 (by omega)⟩
abbrev yAf : List Nat × List (Nat × Int) := ([72, 73, 84, 85], [])
/-- one relaxation in the model's way -/
theorem y_rlx {a b H A B : Int} (hab : ¬ A = B) (h1 : 1 ≤ H ∧ H ≤ 99) (ha : a = 1000000 ∨ 0 ≤ a ∧ a ≤ 9800) (hb : b = 1000000 ∨ 0 ≤ b ∧ b ≤ 9800) : min (if a < 1000000 then a else 9999) ((if b < 1000000 then b else 9999) + H) = (if (if b + H < a then b + H else a) < 1000000 then (if b + H < a then b + H else a) else 9999) ∧ min (if b < 1000000 then b else 9999) (min (if a < 1000000 then a else 9999) ((if b < 1000000 then b else 9999) + H) + H) = (if (if a + H < b then a + H else b) < 1000000 then (if a + H < b then a + H else b) else 9999) := by
  rcases ha with rfl | ha <;> rcases hb with rfl | hb
  · constructor <;> (repeat' split) <;> omega
  · constructor <;> (repeat' split) <;> omega
  · constructor <;> (repeat' split) <;> omega
  · rw [if_pos (show a < 1000000 by omega), if_pos (show b < 1000000 by omega)]
    constructor <;> (repeat' split) <;> omega
theorem m_near {d : Nat} (hd : 1 ≤ d) {N σ0 : zF} {p m H D : Int → Int} {bb i : Int} (hB : yBn N) (hp : yBp N p) (ok : yOK (N 0 0) (N 1) (N 2) H p) (hb : ybd bb D) (b0 : 0 ≤ bb) (b1 : bb ≤ 8316) {Q : zR → Prop} (hQ : ∀ σ : zF, yM N p m σ → (∀ c, 0 ≤ c → c < N 0 0 → σ 84 c = H c) → (∀ c, 0 ≤ c ∧ c < 8 → σ 85 c = yMf (yrd (N 0 0) (N 1) (N 2) H p D) c) → yf ([85], []) σ0 σ → yT (P_X12_looks_61 d (zw (i + 1)) σ) Q) : ∀ (j k : Nat) (σ : zF), (k : Int) + j = N 0 0 → yM N p m σ → (∀ c, 0 ≤ c → c < N 0 0 → σ 84 c = H c) → (∀ c, 0 ≤ c ∧ c < 8 → σ 85 c = yMf (yrk (N 1) (N 2) H p D k) c) → yf ([85], []) σ0 σ → yT (P_X12_looks_69 d i (k : Int) σ) Q := by
  have bn := hB.2.1
  intro j
  induction j with
  | zero =>
    intro k σ hk hM h84 h85 f
    rw [e_X12_looks_69, hM.1]
    refine y_n (by omega) (hQ σ hM h84 ?_ f)
    unfold yrd
    rw [show (N 0 0).toNat = k by omega]
    exact h85
  | succ j ih =>
    intro k σ hk hM h84 h85 f
    have ih2 := ih (k + 1)
    rw [Int.natCast_succ] at ih2
    have hc := hM.2.2 k (by omega) (by omega)
    obtain ⟨o1, o2, o3, o4, o5, o6, o7⟩ := ok k (by omega) (by omega)
    have pk := hp k (by omega) (by omega)
    have bk := ybd_k ok hb b0 (by omega) k (by omega) (by omega)
    have ba := bk (N 1 k)
    have bb2 := bk (N 2 k)
    have eA := h85 (N 1 k) ⟨o1, o2⟩
    have eB := h85 (N 2 k) ⟨o3, o4⟩
    have eH := h84 k (by omega) (by omega)
    have es : ∀ c, yrk (N 1) (N 2) H p D (k + 1) c = yrx (N 1) (N 2) H p (yrk (N 1) (N 2) H p D k) k c := fun c => rfl
    rw [e_X12_looks_69, hM.1]
    refine y_g (by omega) ?_
    rw [m_isPl hd hM (by omega) (by omega), zCI_ri, y01, zw_i (x := (k : Int) + 1) (by omega) (by omega)]
    refine y_if (fun q => ?_) (fun q => ?_)
    · refine ih2 σ (by omega) hM h84 (fun c hc2 => ?_) f
      rw [h85 c hc2]
      unfold yMf
      rw [es]
      unfold yrx
      have q0 : ¬ p k = 0 := by omega
      simp only [q0, false_and, if_false]
    · have hab : ¬ N 1 k = N 2 k := o5
      have q0 : p k = 0 := by omega
      have nab : ¬ N 2 k = N 1 k := fun e => hab e.symm
      rw [hc.1, hc.2.1, eA, eB, eH]
      have z1 : zset σ 85 (N 1 k) (zmin (yMf (yrk (N 1) (N 2) H p D k) (N 1 k)) (zw (yMf (yrk (N 1) (N 2) H p D k) (N 2 k) + H k))) 85 (N 2 k) = yMf (yrk (N 1) (N 2) H p D k) (N 2 k) := (zset_off nab).trans eB
      rw [z1, zset_hit rfl]
      have mA : 0 ≤ yMf (yrk (N 1) (N 2) H p D k) (N 1 k) ∧ yMf (yrk (N 1) (N 2) H p D k) (N 1 k) ≤ 9999 := by unfold yMf; split <;> omega
      have mB : 0 ≤ yMf (yrk (N 1) (N 2) H p D k) (N 2 k) ∧ yMf (yrk (N 1) (N 2) H p D k) (N 2 k) ≤ 9999 := by unfold yMf; split <;> omega
      rw [zmin_eq, zmin_eq, zw_i (x := yMf (yrk (N 1) (N 2) H p D k) (N 2 k) + H k) (by omega) (by omega), zw_i (by omega) (by omega)]
      have key := y_rlx (a := yrk (N 1) (N 2) H p D k (N 1 k)) (b := yrk (N 1) (N 2) H p D k (N 2 k)) (H := H k) hab ⟨o6, o7⟩ (by omega) (by omega)
      refine y_g (by omega) (y_g (by omega) (y_g ⟨o1, o2⟩ (y_g (by omega) (y_g ⟨o3, o4⟩ (y_g (by omega) (y_g ⟨o1, o2⟩ (y_g (by omega) (y_g (by omega) (y_g ⟨o3, o4⟩ (y_g (by omega) (y_g ⟨o1, o2⟩ (y_g (by omega) (y_g ⟨o3, o4⟩ ?_)))))))))))))
      refine ih2 _ (by omega) (yM_f hM (A := ([85], [])) (yf_set (yf_set yf_rf rfl) rfl) (by decide)) h84 (fun c hc2 => ?_) (yf_set (yf_set f rfl) rfl)
      by_cases e1 : c = N 2 k
      · rw [zset_hit e1]
        unfold yMf
        rw [es]
        unfold yrx
        rw [e1]
        simp only [q0, true_and, nab, false_and, if_false]
        exact key.2
      · rw [zset_off e1]
        by_cases e2 : c = N 1 k
        · rw [zset_hit e2]
          unfold yMf
          rw [es]
          unfold yrx
          rw [e2]
          simp only [q0, true_and, hab, false_and, if_false]
          exact key.1
        · rw [zset_off e2, h85 c hc2]
          unfold yMf
          rw [es]
          unfold yrx
          simp only [e1, e2, false_and, and_false, if_false]
theorem m_rounds {d : Nat} (hd : 1 ≤ d) {N σ0 : zF} {p m H : Int → Int} {s : Int} (hB : yBn N) (hp : yBp N p) (ok : yOK (N 0 0) (N 1) (N 2) H p) : ∀ (j k : Nat) (σ : zF), k + j = 8 → yM N p m σ → (∀ c, 0 ≤ c → c < N 0 0 → σ 84 c = H c) → (∀ c, 0 ≤ c ∧ c < 8 → σ 85 c = yMf (yrs (N 0 0) (N 1) (N 2) H p (yd0 s) k) c) → yf ([85], []) σ0 σ → yT (P_X12_looks_61 d (k : Int) σ) (yV fun t => (∀ c, 0 ≤ c ∧ c < 8 → t 85 c = yMf (yD (N 0 0) (N 1) (N 2) H p s) c) ∧ (∀ c, 0 ≤ c → c < N 0 0 → t 84 c = H c) ∧ yM N p m t ∧ yf ([85], []) σ0 t) := by
  intro j
  induction j with
  | zero =>
    intro k σ hk hM h84 h85 f
    rw [e_X12_looks_61]
    refine y_n (by omega) (y_v ⟨?_, h84, hM, f⟩)
    unfold yD
    rw [show k = 8 by omega] at h85
    exact h85
  | succ j ih =>
    intro k σ hk hM h84 h85 f
    rw [e_X12_looks_61]
    refine y_g (by omega) ?_
    refine m_near hd (m := m) (σ0 := σ0) hB hp ok (ybd_s (s := s) ok hB.1 hB.2.1 k (by omega)) (by omega) (by omega) (fun τ g1 g2 g3 g4 => ?_) (N 0 0).toNat 0 σ (by have := hB.1; omega) hM h84 h85 f
    rw [zw_i (x := (k : Int) + 1) (by omega) (by omega)]
    have := ih (k + 1) τ (by omega) g1 g2 g3 g4
    rw [Int.natCast_succ] at this
    exact this
theorem m_far_l {d : Nat} {N σ0 : zF} {p m H : Int → Int} {s : Int} (hs : 0 ≤ s ∧ s < 8) {Q : zR → Prop} (hQ : ∀ σ : zF, yM N p m σ → (∀ c, 0 ≤ c → c < N 0 0 → σ 84 c = H c) → (∀ c, 0 ≤ c ∧ c < 8 → σ 85 c = yMf (yd0 s) c) → yf ([85], []) σ0 σ → yT (P_X12_looks_61 d 0 σ) Q) : ∀ (j : Nat) (k : Int) (σ : zF), 0 ≤ k → k + j = 8 → yM N p m σ → (∀ c, 0 ≤ c → c < N 0 0 → σ 84 c = H c) → (∀ c, 0 ≤ c → c < k → σ 85 c = yMf (yd0 s) c) → yf ([85], []) σ0 σ → yT (P_X12_looks_29 d s k σ) Q := by
  intro j
  induction j with
  | zero =>
    intro k σ k0 hk hM h84 h85 f
    rw [e_X12_looks_29]
    refine y_n (by omega) (hQ σ hM h84 (fun c hc => h85 c hc.1 (by omega)) f)
  | succ j ih =>
    intro k σ k0 hk hM h84 h85 f
    rw [e_X12_looks_29, zw_i (x := k + 1) (by omega) (by omega)]
    have step : ∀ v, v = yMf (yd0 s) k → yT (P_X12_looks_29 d s (k + 1) (zset σ 85 k v)) Q := by
      intro v hv
      refine ih (k + 1) _ (by omega) (by omega) (yM_f hM (A := ([85], [])) (yf_set yf_rf rfl) (by decide)) h84 (fun c c0 c1 => ?_) (yf_set f rfl)
      by_cases e : c = k
      · rw [zset_hit e, hv, e]
      · rw [zset_off e]
        exact h85 c c0 (by omega)
    refine y_g (by omega) (y_if (fun q => y_g (by omega) (step 0 ?_)) (fun q => y_g (by omega) (step 9999 ?_)))
    · unfold yMf yd0
      rw [if_pos q]
      rfl
    · unfold yMf yd0
      rw [if_neg q]
      rfl
theorem m_looks_l {d : Nat} (hd : 6 ≤ d) {N : zF} {G : yG} {p m : Int → Int} {s : Int} {σ0 : zF} (hs : 0 ≤ s ∧ s < 8) : ∀ (j : Nat) (k : Int) (σ : zF), 0 ≤ k → k + j = N 0 0 → yY N G p m σ → (∀ c, 0 ≤ c → c < k → σ 84 c = yHR N G p m c) → yf yAf σ0 σ → yT (P_X12_looks_2 d s k σ) (yV fun t => (∀ c, 0 ≤ c ∧ c < 8 → t 85 c = yMf (yD (N 0 0) (N 1) (N 2) (yHR N G p m) p s) c) ∧ (∀ c, 0 ≤ c → c < N 0 0 → t 84 c = yHR N G p m c) ∧ yf yAf σ0 t) := by
  intro j
  induction j with
  | zero =>
    intro k σ k0 hk hY h84 f
    have hY2 := hY
    obtain ⟨hB, hm, hp, hM, hL⟩ := hY
    rw [e_X12_looks_2, hM.1]
    refine y_n (by omega) ?_
    refine m_far_l (σ0 := σ) (H := yHR N G p m) hs (fun τ g1 g2 g3 g4 => ?_) 8 0 σ (by omega) (by omega) hM (fun c c0 c1 => h84 c c0 (by omega)) (fun c a b => by omega) yf_rf
    refine y_mV (m_rounds (by omega) (σ0 := σ) (s := s) hB hp (yOK_of (G := G) hB p p m) 8 0 τ (by omega) g1 g2 g3 g4) (fun t ht => ⟨ht.1, ht.2.1, yf_tr f (yf_le ht.2.2.2 (by decide))⟩)
  | succ j ih =>
    intro k σ k0 hk hY h84 f
    have e1 : σ 57 0 = N 0 0 := hY.2.2.2.1.1
    have b1 := hY.1.2.1
    rw [e_X12_looks_2, e1]
    refine y_g (by omega) (y_cI (m_hours hd hY (by omega) (by omega)) (fun v t ht => y_g (by omega) ?_))
    rw [zw_i (x := k + 1) (by omega) (by omega)]
    have f2 : yf yAf σ (zset t 84 k v) := yf_set (yf_le ht.2 (by decide)) rfl
    refine ih (k + 1) _ (by omega) (by omega) (yY_f hY f2 (by decide)) (fun c c0 c1 => ?_) (yf_tr f f2)
    by_cases e : c = k
    · rw [zset_hit e, ht.1, e]
    · rw [zset_off e, ht.2 84 c rfl]
      exact h84 c c0 (by omega)
theorem m_looks {d : Nat} (hd : 7 ≤ d) {N : zF} {G : yG} {p m : Int → Int} {s : Int} {σ : zF} (hs : 0 ≤ s ∧ s < 8) (hY : yY N G p m σ) : yT (zx d 199 [.inl (some 57), .inr (.inl s)] σ) (yV fun t => (∀ c, 0 ≤ c ∧ c < 8 → t 85 c = yMf (yD (N 0 0) (N 1) (N 2) (yHR N G p m) p s) c) ∧ (∀ c, 0 ≤ c → c < N 0 0 → t 84 c = yHR N G p m c) ∧ yf yAf σ t) := by
  obtain ⟨d, rfl, hd'⟩ := y_d hd; have hd := hd'
  rw [e_X12_looks]
  exact m_looks_l hd hs (N 0 0).toNat 0 σ (by omega) (by have := hY.1.1; omega) hY (fun c a b => by omega) yf_rf
/-- hours of a way, -2: none -/
def yW (N : zF) (G : yG) (p m : Int → Int) (x : Int) : Int := if yD (N 0 0) (N 1) (N 2) (yHR N G p m) p (x % 10) (x / 10) < 1000000 then yD (N 0 0) (N 1) (N 2) (yHR N G p m) p (x % 10) (x / 10) else -2
theorem m_wayOf {d : Nat} (hd : 8 ≤ d) {N : zF} {G : yG} {p m : Int → Int} {x : Int} {σ : zF} (hx : zin x) (hP : yPair x) (hY : yY N G p m σ) : yT (zx d 200 [.inl (some 57), .inr (.inl x)] σ) (yI fun v t => v = yW N G p m x ∧ (∀ c, 0 ≤ c ∧ c < 8 → t 85 c = yMf (yD (N 0 0) (N 1) (N 2) (yHR N G p m) p (x % 10)) c) ∧ (∀ c, 0 ≤ c → c < N 0 0 → t 84 c = yHR N G p m c) ∧ yf yAf σ t) := by
  obtain ⟨d, rfl, hd'⟩ := y_d hd; have hd := hd'
  unfold yPair at hP
  unfold zin at hx
  rw [e_X12_wayOf, zdiv_p hP.1 hx.2 (by decide), zrem_p hP.1]
  refine y_n (by decide) (y_cV (m_looks hd (s := x % 10) (by omega) hY) (fun t ht => ?_))
  have e := ht.1 (x / 10) (by omega)
  have b := yD_693 (s := x % 10) (c := x / 10) (by omega) hY.1.1 (yOK_of (G := G) hY.1 p p m) (by omega)
  refine y_n (by decide) (y_g (by omega) ?_)
  unfold yW
  rw [e]
  unfold yMf
  by_cases q : yD (N 0 0) (N 1) (N 2) (yHR N G p m) p (x % 10) (x / 10) < 1000000
  · rw [if_pos q]
    have := b q
    exact y_g (by omega) (y_n (by decide) (y_g (by omega) (y_i ⟨(if_pos q).symm, ht⟩)))
  · rw [if_neg q]
    exact y_n (by omega) (y_i ⟨(if_neg q).symm, ht⟩)
