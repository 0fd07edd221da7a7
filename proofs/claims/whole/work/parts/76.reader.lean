/-! the component's reader -/
def yAtl (f : Int → Int) : Int → List Int → Prop
  | _, [] => True
  | p, s :: e => f p = s ∧ yAtl f (p + 1) e
theorem yAt_app {f : Int → Int} : ∀ (e e' : List Int) (p : Int), yAtl f p (e ++ e') ↔ yAtl f p e ∧ yAtl f (p + e.length) e'
  | [], e', p => by simp [yAtl]
  | s :: e, e', p => by
    have := yAt_app (f := f) e e' (p + 1)
    simp only [List.cons_append, yAtl, List.length_cons]
    rw [this, and_assoc, show p + 1 + (e.length : Int) = p + ((e.length + 1 : Nat) : Int) by omega]
theorem yAt_cg {f f' : Int → Int} : ∀ (e : List Int) (p : Int), (∀ i, p ≤ i → i < p + e.length → f' i = f i) → yAtl f p e → yAtl f' p e
  | [], _, _, _ => trivial
  | s :: e, p, h, g => by
    rw [List.length_cons] at h
    exact ⟨(h p (Int.le_refl _) (by omega)).trans g.1, yAt_cg e (p + 1) (fun i a b => h i (by omega) (by omega)) g.2⟩
abbrev yArd : List Nat × List (Nat × Int) := ([13], [(11, 3), (11, 4), (11, 5)])
def yRd (T : Int → Int) (L p : Int) (c : List Int) (σ : zF) : Prop := σ 11 1 = L ∧ σ 11 4 = p ∧ σ 11 5 = -1 ∧ σ 11 3 = c.length ∧ yAtl (σ 13) 0 c ∧ ∀ i, 0 ≤ i → i < L → σ 12 i = T i
def yRf (T : Int → Int) (L q : Int) (σ : zF) : Prop := σ 11 1 = L ∧ σ 11 5 = q ∧ 0 ≤ q ∧ 0 ≤ σ 11 4 ∧ σ 11 4 ≤ L ∧ 0 ≤ σ 11 3 ∧ σ 11 3 ≤ 121 ∧ ∀ i, 0 ≤ i → i < L → σ 12 i = T i
def yPo (T : Int → Int) (L : Int) (c : List Int) (r : yR3) (σ s : zF) : Prop := (r.1 = true → yRd T L r.2.1 (c ++ r.2.2) s) ∧ (¬ r.1 = true → yRf T L r.2.1 s) ∧ yf yArd σ s
theorem c_next {d : Nat} (hd : 1 ≤ d) {T : Int → Int} {L p : Int} {σ : zF} (hL : L ≤ 120) (h1 : σ 11 1 = L) (h4 : σ 11 4 = p) (h0 : 0 ≤ p) (ht : ∀ i, 0 ≤ i → i < L → σ 12 i = T i) : zx d 42 [.inl (some 11)] σ = zri (ynxt T L p) σ := by
  obtain ⟨d, rfl, -⟩ := y_d (k := 0) hd
  rw [e_X4_next, h1, h4, if_neg (by omega)]
  unfold ynxt
  by_cases q : p < L
  · rw [if_pos q, if_pos q, if_pos (by omega), ht p h0 q]
  · rw [if_neg q, if_neg q]
theorem c_add {d : Nat} (hd : 1 ≤ d) {T : Int → Int} {L p v : Int} {c : List Int} {σ : zF} (h : yRd T L p c σ) (hc : c.length ≤ 120) : ∃ s, zx d 44 [.inl (some 11), .inr (.inl v)] σ = zrv s ∧ yRd T L p (c ++ [v]) s ∧ yf yArd σ s := by
  obtain ⟨d, rfl, -⟩ := y_d (k := 0) hd
  obtain ⟨h1, h2, h3, h4, h5, h6⟩ := h
  rw [e_X4_addStep, h4, if_pos (by omega), if_pos (by omega), zw_i (x := (c.length : Int) + 1) (by omega) (by omega)]
  refine ⟨_, rfl, ⟨?_, ?_, ?_, ?_, ?_, fun i i0 i1 => ?_⟩, yf_set (yf_set yf_rf rfl) rfl⟩
  · rw [zset_off (by decide), zset_k (by decide)]; exact h1
  · rw [zset_off (by decide), zset_k (by decide)]; exact h2
  · rw [zset_off (by decide), zset_k (by decide)]; exact h3
  · rw [zset_hit rfl, List.length_append]; rfl
  · rw [yAt_app]
    refine ⟨yAt_cg c 0 (fun i i0 i1 => ?_) h5, ?_, trivial⟩
    · rw [zset_k (by decide), zset_off (by omega)]
    · rw [zset_k (by decide), zset_hit (by omega)]
  · rw [zset_k (by decide), zset_k (by decide)]; exact h6 i i0 i1
theorem c_addf {d : Nat} (hd : 1 ≤ d) {T : Int → Int} {L q v : Int} {σ : zF} (h : yRf T L q σ) : ∃ s, zx d 44 [.inl (some 11), .inr (.inl v)] σ = zrv s ∧ yRf T L q s ∧ yf yArd σ s := by
  obtain ⟨d, rfl, -⟩ := y_d (k := 0) hd
  have hh := h
  obtain ⟨h1, h2, h3, h4, h5, h6, h7, h8⟩ := h
  rw [e_X4_addStep]
  by_cases z : σ 11 3 < 121
  · rw [if_pos z, if_pos (by omega), zw_i (x := σ 11 3 + 1) (by omega) (by omega)]
    refine ⟨_, rfl, ⟨?_, ?_, h3, ?_, ?_, ?_, ?_, fun i i0 i1 => ?_⟩, yf_set (yf_set yf_rf rfl) rfl⟩
    · rw [zset_off (by decide), zset_k (by decide)]; exact h1
    · rw [zset_off (by decide), zset_k (by decide)]; exact h2
    · rw [zset_off (by decide), zset_k (by decide)]; exact h4
    · rw [zset_off (by decide), zset_k (by decide)]; exact h5
    · rw [zset_hit rfl]; omega
    · rw [zset_hit rfl]; omega
    · rw [zset_k (by decide), zset_k (by decide)]; exact h8 i i0 i1
  · rw [if_neg z]
    exact ⟨_, rfl, hh, yf_rf⟩
theorem c_dig {d : Nat} (hd : 1 ≤ d) (x : Int) (σ : zF) : zx d 45 [.inr (.inl x)] σ = zri (if 48 ≤ x ∧ x ≤ 57 then 1 else 0) σ := by
  obtain ⟨d, rfl, -⟩ := y_d hd
  rw [e_X4_isDigit, y_rg, y_ri]
theorem c_nam {d : Nat} (hd : 1 ≤ d) (x : Int) (σ : zF) : zx d 46 [.inr (.inl x)] σ = zri (if ynm x = true then 1 else 0) σ := by
  obtain ⟨d, rfl, -⟩ := y_d (k := 0) hd
  rw [e_X4_isName]
  by_cases q : x = 108 ∨ x = 109 ∨ x = 106 ∨ x = 110 ∨ x = 114 ∨ x = 107
  · rw [if_pos (show ynm x = true by unfold ynm; exact decide_eq_true q)]
    rcases q with rfl | rfl | rfl | rfl | rfl | rfl <;> rfl
  · rw [if_neg (show ¬ ynm x = true by unfold ynm; rw [decide_eq_false q]; decide), if_neg (by omega), if_neg (by omega), if_neg (by omega), if_neg (by omega), if_neg (by omega), if_neg (by omega)]
theorem c_sgn {d : Nat} (hd : 1 ≤ d) {lv : Nat} (hl : lv < 5) (x : Int) (σ : zF) : zx d 47 [.inr (.inl (lv : Int)), .inr (.inl x)] σ = zri (if ysg lv x = true then 1 else 0) σ := by
  obtain ⟨d, rfl, -⟩ := y_d (k := 0) hd
  have y3 : ∀ (a b e : Int), (if x = a then zri 1 σ else if x = b then zri 1 σ else if x = e then zri 1 σ else zri 0 σ) = zri (if decide (x = a ∨ x = b ∨ x = e) = true then 1 else 0) σ := fun a b e => by
    by_cases h1 : x = a
    · rw [if_pos h1, if_pos (by simp [h1])]
    · rw [if_neg h1]
      by_cases h2 : x = b
      · rw [if_pos h2, if_pos (by simp [h2])]
      · rw [if_neg h2]
        by_cases h3 : x = e
        · rw [if_pos h3, if_pos (by simp [h3])]
        · rw [if_neg h3, if_neg (by simp [h1, h2, h3])]
  have y2 : ∀ (a b : Int), (if x = a then zri 1 σ else if x = b then zri 1 σ else zri 0 σ) = zri (if decide (x = a ∨ x = b) = true then 1 else 0) σ := fun a b => by
    by_cases h1 : x = a
    · rw [if_pos h1, if_pos (by simp [h1])]
    · rw [if_neg h1]
      by_cases h2 : x = b
      · rw [if_pos h2, if_pos (by simp [h2])]
      · rw [if_neg h2, if_neg (by simp [h1, h2])]
  have y1 : ∀ (a : Int), (if x = a then zri 1 σ else zri 0 σ) = zri (if decide (x = a) = true then 1 else 0) σ := fun a => by
    by_cases h1 : x = a
    · rw [if_pos h1, if_pos (by simp [h1])]
    · rw [if_neg h1, if_neg (by simp [h1])]
  rw [e_X4_isSign]
  unfold ysg
  rcases (show lv = 0 ∨ lv = 1 ∨ lv = 2 ∨ lv = 3 ∨ lv = 4 by omega) with rfl | rfl | rfl | rfl | rfl
  · exact y1 124
  · exact y1 38
  · exact y3 60 61 62
  · exact y2 43 45
  · exact y3 42 47 37
theorem yRd_at {T : Int → Int} {L p q : Int} {c : List Int} {σ : zF} (h : yRd T L p c σ) : yRd T L q c (zset σ 11 4 q) := by
  obtain ⟨h1, h2, h3, h4, h5, h6⟩ := h
  refine ⟨?_, zset_hit rfl, ?_, ?_, yAt_cg c 0 (fun i _ _ => zset_k (by decide)) h5, fun i i0 i1 => ?_⟩
  · rw [zset_off (by decide)]; exact h1
  · rw [zset_off (by decide)]; exact h3
  · rw [zset_off (by decide)]; exact h4
  · rw [zset_k (by decide)]; exact h6 i i0 i1
theorem c_num_l {d : Nat} (hd : 1 ≤ d) {T : Int → Int} {L : Int} {c : List Int} {σ0 : zF} (hL : L ≤ 120) (hc : c.length ≤ 120) : ∀ (k : Nat) (v p i : Int) (σ : zF), 0 ≤ i → i + k = 4 → 0 ≤ p → p ≤ L → 0 ≤ v → v ≤ 10000 → (k = 0 ∧ v ≤ 9999 ∨ k = 1 ∧ v ≤ 999 ∨ k = 2 ∧ v ≤ 99 ∨ k = 3 ∧ v ≤ 9 ∨ k = 4 ∧ v = 0) → yRd T L p c σ → yf yArd σ0 σ → yT (P_X4_readNumber_4 d v i σ) (yV fun s => yRd T L (ynb T L k v p).2 (c ++ [(ynb T L k v p).1]) s ∧ yf yArd σ0 s) := by
  intro k
  induction k with
  | zero =>
    intro v p i σ i0 ik p0 p1 v0 v1 vb h f
    rw [e_X4_readNumber_4, if_neg (by omega)]
    obtain ⟨s, e, h2, h3⟩ := c_add hd (v := v) h hc
    rw [e, zCV_rv]
    exact y_v ⟨h2, yf_tr f h3⟩
  | succ k ih =>
    intro v p i σ i0 ik p0 p1 v0 v1 vb h f
    have nx := c_next hd hL h.1 h.2.1 p0 h.2.2.2.2.2
    rw [e_X4_readNumber_4, if_pos (by omega), nx, zCI_ri, c_dig hd, zCI_ri, y01]
    by_cases q : 48 ≤ ynxt T L p ∧ ynxt T L p ≤ 57
    · have lt := ynx_lt (T := T) (L := L) (p := p) (by omega)
      have e : ynb T L (k + 1) v p = ynb T L k (v * 10 + ynxt T L p - 48) (p + 1) := by
        show (if 48 ≤ ynxt T L p ∧ ynxt T L p ≤ 57 then _ else _) = _
        rw [if_pos q]
      rw [if_pos q, nx, zCI_ri, h.2.1, zw_i (x := v * 10) (by omega) (by omega), zw_i (x := v * 10 + ynxt T L p) (by omega) (by omega), zw_i (x := v * 10 + ynxt T L p - 48) (by omega) (by omega), zw_i (x := i + 1) (by omega) (by omega), zw_i (x := p + 1) (by omega) (by omega), e]
      exact ih _ (p + 1) (i + 1) _ (by omega) (by omega) (by omega) (by omega) (by omega) (by omega) (by omega) (yRd_at h) (yf_set f rfl)
    · have e : ynb T L (k + 1) v p = (v, p) := by
        show (if 48 ≤ ynxt T L p ∧ ynxt T L p ≤ 57 then _ else _) = _
        rw [if_neg q]
      rw [if_neg q, e]
      obtain ⟨s, e, h2, h3⟩ := c_add hd (v := v) h hc
      rw [e, zCV_rv]
      exact y_v ⟨h2, yf_tr f h3⟩
theorem c_lo {d : Nat} (hd : 1 ≤ d) {T : Int → Int} {L o : Int} {lv : Nat} {c : List Int} {g : Int → yR3} {σ0 : zF} {y3 : Int} (hL : 0 ≤ L ∧ L ≤ 120) (hl : lv < 5) (hy : y3 ≤ 120) (hk : ∀ q, 0 ≤ q → q ≤ L → yPkr L q (g q)) (hG : ∀ (q : Int) (c' : List Int) (σ' : zF), 0 ≤ q → q ≤ L → (c'.length : Int) ≤ q → yRd T L q c' σ' → yT (zx d 38 [.inl (some 11), .inr (.inl (lv : Int)), .inr (.inl o)] σ') (yV (yPo T L c' (g q) σ'))) : ∀ (m : Nat) (p y4 : Int) (e : List Int) (σ : zF), 0 ≤ y4 → y4 + m = y3 → 0 ≤ p → p ≤ L → (c.length : Int) + e.length ≤ p → yRd T L p (c ++ e) σ → yf yArd σ0 σ → yT (P_X4_readJoined_21 d (lv : Int) o y3 y4 σ) (yV (yPo T L c (ylo T L g lv m p e) σ0)) := by
  intro m
  induction m with
  | zero =>
    intro p y4 e σ i0 ik p0 p1 hc h f
    rw [e_X4_readJoined_21, if_neg (by omega)]
    exact y_v ⟨fun _ => h, fun z => absurd rfl z, f⟩
  | succ m ih =>
    intro p y4 e σ i0 ik p0 p1 hc h f
    have nx := c_next hd hL.2 h.1 h.2.1 p0 h.2.2.2.2.2
    rw [e_X4_readJoined_21, if_pos (by omega), if_pos h.2.2.1, nx, zCI_ri, c_sgn hd hl, zCI_ri, y01]
    unfold ylo
    by_cases q : ysg lv (ynxt T L p) = true
    · have s := ysg_s q
      have lt := ynx_lt (T := T) (L := L) (p := p) (by omega)
      have pk := hk (p + 1) (by omega) (by omega)
      have pk1 := pk.1
      have pk2 := pk.2.1
      rw [if_pos q, if_pos q, nx, zCI_ri, h.2.1, zw_i (x := p + 1) (by omega) (by omega), zw_i (x := -ynxt T L p) (by omega) (by omega), zw_i (x := y4 + 1) (by omega) (by omega)]
      refine y_cV (hG (p + 1) (c ++ e) _ (by omega) (by omega) (by simp only [List.length_append]; omega) (yRd_at h)) (fun t ht => ?_)
      obtain ⟨t1, t2, t3⟩ := ht
      have ft := yf_tr (yf_set f (k := 11) (i := 4) (v := p + 1) rfl) t3
      by_cases z : (g (p + 1)).1 = true
      · obtain ⟨a4, a5⟩ := pk.2.2 z
        obtain ⟨u, e1, u1, u2⟩ := c_add hd (v := -ynxt T L p) (t1 z) (by simp only [List.length_append]; omega)
        rw [if_pos z, e1, zCV_rv]
        rw [List.append_assoc, List.append_assoc, ← List.append_assoc e] at u1
        refine ih _ (y4 + 1) _ u (by omega) (by omega) (by omega) pk.2.1 ?_ u1 (yf_tr ft u2)
        simp only [List.length_append, List.length_cons, List.length_nil]
        omega
      · obtain ⟨u, e1, u1, u2⟩ := c_addf hd (v := -ynxt T L p) (t2 z)
        rw [if_neg z, e1, zCV_rv, e_X4_readJoined_21]
        have fu := yf_tr ft u2
        have ng : ¬ u 11 5 = -1 := by rw [u1.2.1]; have := u1.2.2.1; omega
        rw [if_neg ng, ite_self]
        exact y_v ⟨fun w => by simp at w, fun _ => u1, fu⟩
    · rw [if_neg q, if_neg q]
      exact y_v ⟨fun _ => h, fun z => absurd rfl z, f⟩
noncomputable def ycL (d lv : Nat) (o : Int) (σ : zF) : Option zR := if lv < 5 then zx d 37 [.inl (some 11), .inr (.inl (lv : Int)), .inr (.inl o)] σ else zx d 39 [.inl (some 11), .inr (.inl o)] σ
theorem c_part {d lv : Nat} {o : Int} {σ : zF} {Q : zF → Prop} (hl : lv < 5) (h : yT (ycL d (lv + 1) o σ) (yV Q)) : yT (zx (d + 1) 38 [.inl (some 11), .inr (.inl (lv : Int)), .inr (.inl o)] σ) (yV Q) := by
  rw [e_X4_readPart, zw_i (x := (lv : Int) + 1) (by omega) (by omega)]
  unfold ycL at h
  by_cases q : lv + 1 < 5
  · rw [if_pos q] at h
    rw [if_pos (by omega)]
    rw [Int.natCast_succ] at h
    exact y_cV h (fun s hs => y_v hs)
  · rw [if_neg q] at h
    rw [if_neg (by omega)]
    exact y_cV h (fun s hs => y_v hs)
theorem c_blame {d : Nat} (hd : 1 ≤ d) {T : Int → Int} {L q : Int} {c : List Int} {σ : zF} (h0 : 0 ≤ q) (h1 : q ≤ L) (hc : c.length ≤ 120) (h : yRd T L q c σ) : ∃ s, zx d 43 [.inl (some 11)] σ = zrv s ∧ yRf T L q s ∧ yf yArd σ s := by
  obtain ⟨d, rfl, -⟩ := y_d (k := 0) hd
  obtain ⟨g1, g2, g3, g4, g5, g6⟩ := h
  rw [e_X4_blame, if_pos g3, g2]
  refine ⟨_, rfl, ⟨?_, zset_hit rfl, h0, ?_, ?_, ?_, ?_, fun i i0 i1 => ?_⟩, yf_set yf_rf rfl⟩
  · rw [zset_off (by decide)]; exact g1
  · rw [zset_off (by decide)]; omega
  · rw [zset_off (by decide)]; omega
  · rw [zset_off (by decide)]; omega
  · rw [zset_off (by decide)]; omega
  · rw [zset_k (by decide)]; exact g6 i i0 i1
theorem c_blamef {d : Nat} (hd : 1 ≤ d) {T : Int → Int} {L q : Int} {σ : zF} (h : yRf T L q σ) : zx d 43 [.inl (some 11)] σ = zrv σ := by
  obtain ⟨d, rfl, -⟩ := y_d (k := 0) hd
  rw [e_X4_blame, if_neg (by rw [h.2.1]; have := h.2.2.1; omega)]
theorem c_clos {d : Nat} (hd : 2 ≤ d) {T : Int → Int} {L q : Int} {c : List Int} {σ : zF} (hL : L ≤ 120) (h0 : 0 ≤ q) (h1 : q ≤ L) (hc : c.length ≤ 120) (h : yRd T L q c σ) : yT (zx d 40 [.inl (some 11)] σ) (yV fun s => (ynxt T L q = 41 → yRd T L (q + 1) c s) ∧ (¬ ynxt T L q = 41 → yRf T L q s) ∧ yf yArd σ s) := by
  obtain ⟨d, rfl, hd'⟩ := y_d hd
  rw [e_X4_readClosing, c_next (by omega) hL h.1 h.2.1 h0 h.2.2.2.2.2, zCI_ri, h.2.1]
  by_cases z : ynxt T L q = 41
  · rw [if_pos z, zw_i (x := q + 1) (by omega) (by omega)]
    exact y_v ⟨fun _ => yRd_at h, fun w => absurd z w, yf_set yf_rf rfl⟩
  · obtain ⟨s, e, s1, s2⟩ := c_blame (d := d) (by omega) h0 h1 hc h
    rw [if_neg z, e, zCV_rv]
    exact y_v ⟨fun w => absurd w z, fun _ => s1, s2⟩
theorem c_closf {d : Nat} (hd : 2 ≤ d) {T : Int → Int} {L q : Int} {σ : zF} (hL : L ≤ 120) (h : yRf T L q σ) : yT (zx d 40 [.inl (some 11)] σ) (yV fun s => yRf T L q s ∧ yf yArd σ s) := by
  obtain ⟨d, rfl, hd'⟩ := y_d hd
  have hh := h
  obtain ⟨g1, g2, g3, g4, g5, g6, g7, g8⟩ := h
  rw [e_X4_readClosing, c_next (by omega) hL g1 rfl g4 g8, zCI_ri]
  by_cases z : ynxt T L (σ 11 4) = 41
  · have lt := ynx_lt (T := T) (L := L) (p := σ 11 4) (by omega)
    rw [if_pos z, zw_i (x := σ 11 4 + 1) (by omega) (by omega)]
    refine y_v ⟨⟨?_, ?_, g3, ?_, ?_, ?_, ?_, fun i i0 i1 => ?_⟩, yf_set yf_rf rfl⟩
    · rw [zset_off (by decide)]; exact g1
    · rw [zset_off (by decide)]; exact g2
    · rw [zset_hit rfl]; omega
    · rw [zset_hit rfl]; omega
    · rw [zset_off (by decide)]; exact g6
    · rw [zset_off (by decide)]; exact g7
    · rw [zset_k (by decide)]; exact g8 i i0 i1
  · rw [if_neg z, c_blamef (by omega) hh, zCV_rv]
    exact y_v ⟨hh, yf_rf⟩
