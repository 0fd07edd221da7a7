/-! the model's parser -/
abbrev yAmd : List Nat × List (Nat × Int) := ([71], [(57, 15), (57, 16), (57, 17)])
def yMd (T : Int → Int) (L p o : Int) (c : List Int) (σ : zF) : Prop := σ 57 7 = L ∧ σ 57 15 = p ∧ σ 57 16 = o ∧ σ 57 17 = c.length ∧ yAtl (σ 71) 0 (c.map ytrc) ∧ ∀ i, 0 ≤ i → i < L → σ 63 i = T i
def yMo (T : Int → Int) (L o : Int) (c : List Int) (r : yR3) (σ : zF) (v : Int) (s : zF) : Prop := (r.1 = true → v = 1 ∧ yMd T L r.2.1 o (c ++ r.2.2) s) ∧ (¬ r.1 = true → v = 0 ∧ s 57 15 = r.2.1) ∧ yf yAmd σ s
theorem yMd_at {T : Int → Int} {L p o q : Int} {c : List Int} {σ : zF} (h : yMd T L p o c σ) : yMd T L q o c (zset σ 57 15 q) := by
  obtain ⟨h1, h2, h3, h4, h5, h6⟩ := h
  refine ⟨?_, zset_hit rfl, ?_, ?_, yAt_cg _ 0 (fun i _ _ => zset_k (by decide)) h5, fun i i0 i1 => ?_⟩
  · rw [zset_off (by decide)]; exact h1
  · rw [zset_off (by decide)]; exact h3
  · rw [zset_off (by decide)]; exact h4
  · rw [zset_k (by decide)]; exact h6 i i0 i1
theorem yMd_op {T : Int → Int} {L p o q : Int} {c : List Int} {σ : zF} (h : yMd T L p o c σ) : yMd T L p q c (zset σ 57 16 q) := by
  obtain ⟨h1, h2, h3, h4, h5, h6⟩ := h
  refine ⟨?_, ?_, zset_hit rfl, ?_, yAt_cg _ 0 (fun i _ _ => zset_k (by decide)) h5, fun i i0 i1 => ?_⟩
  · rw [zset_off (by decide)]; exact h1
  · rw [zset_off (by decide)]; exact h2
  · rw [zset_off (by decide)]; exact h4
  · rw [zset_k (by decide)]; exact h6 i i0 i1
theorem m_sign {d : Nat} (hd : 1 ≤ d) {T : Int → Int} {L p o : Int} {c : List Int} {σ : zF} (hL : L ≤ 120) (h0 : 0 ≤ p) (h : yMd T L p o c σ) : zx d 173 [.inl (some 57)] σ = zri (ynxt T L p) σ := by
  obtain ⟨d, rfl, -⟩ := y_d (k := 0) hd
  rw [e_X12_sign, h.1, h.2.1]
  unfold ynxt
  by_cases q : p < L
  · rw [if_pos q, if_pos q, if_pos (by omega), h.2.2.2.2.2 p h0 q]
  · rw [if_neg q, if_neg q]
theorem m_is {d : Nat} (hd : 2 ≤ d) {T : Int → Int} {L p o x : Int} {c : List Int} {σ : zF} (hL : L ≤ 120) (h0 : 0 ≤ p) (h1 : p ≤ L) (h : yMd T L p o c σ) : zx d 174 [.inl (some 57), .inr (.inl x)] σ = if ynxt T L p = x then zri 1 (zset σ 57 15 (p + 1)) else zri 0 σ := by
  obtain ⟨d, rfl, hd'⟩ := y_d hd
  rw [e_X12_is, m_sign hd' hL h0 h, zCI_ri, h.2.1, zw_i (x := p + 1) (by omega) (by omega)]
theorem m_codes {d : Nat} (hd : 1 ≤ d) {T : Int → Int} {L p o x v : Int} {c : List Int} {σ : zF} (h : yMd T L p o c σ) (hc : c.length ≤ 120) (hx : x = ytrc v) : ∃ s, zx d 175 [.inl (some 57), .inr (.inl x)] σ = zri 1 s ∧ yMd T L p o (c ++ [v]) s ∧ yf yAmd σ s := by
  obtain ⟨d, rfl, -⟩ := y_d (k := 0) hd
  obtain ⟨h1, h2, h3, h4, h5, h6⟩ := h
  rw [e_X12_codes, h4, if_pos (by omega), zw_i (x := (c.length : Int) + 1) (by omega) (by omega)]
  refine ⟨_, rfl, ⟨?_, ?_, ?_, ?_, ?_, fun i i0 i1 => ?_⟩, yf_set (yf_set yf_rf rfl) rfl⟩
  · rw [zset_k (by decide), zset_off (by decide)]; exact h1
  · rw [zset_k (by decide), zset_off (by decide)]; exact h2
  · rw [zset_k (by decide), zset_off (by decide)]; exact h3
  · rw [zset_k (by decide), zset_hit rfl, List.length_append]; rfl
  · rw [List.map_append, yAt_app]
    refine ⟨yAt_cg _ 0 (fun i i0 i1 => ?_) h5, ?_, trivial⟩
    · rw [List.length_map] at i1
      rw [zset_off (by omega), zset_k (by decide)]
    · rw [List.length_map, zset_hit (by omega), hx]
  · rw [zset_k (by decide), zset_k (by decide)]; exact h6 i i0 i1
theorem m_dig {d : Nat} (hd : 2 ≤ d) {T : Int → Int} {L p o : Int} {c : List Int} {σ : zF} (hL : L ≤ 120) (h0 : 0 ≤ p) (h : yMd T L p o c σ) : zx d 176 [.inl (some 57)] σ = zri (if 48 ≤ ynxt T L p ∧ ynxt T L p ≤ 57 then 1 else 0) σ := by
  obtain ⟨d, rfl, hd'⟩ := y_d hd
  rw [e_X12_isDigit, m_sign hd' hL h0 h, zCI_ri, m_sign hd' hL h0 h, zCI_ri, y_rg, y_ri]
theorem m_nam {d : Nat} (hd : 1 ≤ d) (x : Int) (σ : zF) : ∃ v, zx d 177 [.inr (.inl x)] σ = zri v σ ∧ (ynm x = true → v = ytrc (-x) ∧ 0 ≤ v) ∧ (¬ ynm x = true → v = -1) := by
  obtain ⟨d, rfl, -⟩ := y_d (k := 0) hd
  rw [e_X12_nameOf]
  by_cases q : x = 108 ∨ x = 109 ∨ x = 106 ∨ x = 110 ∨ x = 114 ∨ x = 107
  · have : ynm x = true := by unfold ynm; exact decide_eq_true q
    rcases q with rfl | rfl | rfl | rfl | rfl | rfl <;> exact ⟨_, rfl, fun _ => ⟨rfl, by decide⟩, fun w => absurd this w⟩
  · have : ¬ ynm x = true := by unfold ynm; rw [decide_eq_false q]; decide
    rw [if_neg (by omega), if_neg (by omega), if_neg (by omega), if_neg (by omega), if_neg (by omega)]
    refine ⟨-1, ?_, fun w => absurd w this, fun _ => rfl⟩
    by_cases q1 : x = 111
    · rw [if_pos q1]
    · rw [if_neg q1]
      by_cases q2 : x = 112
      · rw [if_pos q2]
      · rw [if_neg q2]
        by_cases q3 : x = 113
        · rw [if_pos q3]
        · rw [if_neg q3, if_neg (by omega)]
theorem m_num {d : Nat} (hd : 2 ≤ d) {T : Int → Int} {L o : Int} {c : List Int} {σ0 : zF} (hL : L ≤ 120) (hc : c.length ≤ 120) : ∀ (k : Nat) (v p i : Int) (σ : zF), 0 ≤ i → i + k = 4 → 0 ≤ p → p ≤ L → 0 ≤ v → (k = 0 ∧ v ≤ 9999 ∨ k = 1 ∧ v ≤ 999 ∨ k = 2 ∧ v ≤ 99 ∨ k = 3 ∧ v ≤ 9 ∨ k = 4 ∧ v = 0) → yMd T L p o c σ → yf yAmd σ0 σ → yT (P_X12_isO_11 d v i σ) (yI fun w s => w = 1 ∧ yMd T L (ynb T L k v p).2 o (c ++ [(ynb T L k v p).1]) s ∧ yf yAmd σ0 s) := by
  intro k
  have fin : ∀ (v p : Int) (σ : zF), 0 ≤ v → v ≤ 9999 → yMd T L p o c σ → yf yAmd σ0 σ → yT (zCI LAY (zx d 175 [.inl (some 57), .inr (.inl (zw (18 + v)))] σ) fun r s => if r = 0 ∨ r = 1 then zri r s else none) (yI fun w s => w = 1 ∧ yMd T L p o (c ++ [v]) s ∧ yf yAmd σ0 s) := fun v p σ v0 v1 h f => by
    rw [zw_i (x := 18 + v) (by omega) (by omega)]
    obtain ⟨s, e, s1, s2⟩ := m_codes (d := d) (by omega) (x := 18 + v) (v := v) h hc (by unfold ytrc; rw [if_pos v0])
    rw [e, zCI_ri, if_pos (Or.inr rfl)]
    exact y_i ⟨rfl, s1, yf_tr f s2⟩
  induction k with
  | zero =>
    intro v p i σ i0 ik p0 p1 v0 vb h f
    rw [e_X12_isO_11, if_neg (by omega)]
    exact fin v p σ v0 (by omega) h f
  | succ k ih =>
    intro v p i σ i0 ik p0 p1 v0 vb h f
    rw [e_X12_isO_11, if_pos (by omega), m_dig hd hL p0 h, zCI_ri, y01]
    by_cases q : 48 ≤ ynxt T L p ∧ ynxt T L p ≤ 57
    · have lt := ynx_lt (T := T) (L := L) (p := p) (by omega)
      have e : ynb T L (k + 1) v p = ynb T L k (v * 10 + ynxt T L p - 48) (p + 1) := by
        show (if 48 ≤ ynxt T L p ∧ ynxt T L p ≤ 57 then _ else _) = _
        rw [if_pos q]
      have e2 : ynxt T L p = T p := by unfold ynxt; rw [if_pos lt]
      rw [if_pos q, h.2.1, if_pos (by omega), h.2.2.2.2.2 p p0 lt, ← e2, zw_i (x := 10 * v) (by omega) (by omega), zw_i (x := 10 * v + ynxt T L p) (by omega) (by omega), zw_i (x := 10 * v + ynxt T L p - 48) (by omega) (by omega), zw_i (x := i + 1) (by omega) (by omega), zw_i (x := p + 1) (by omega) (by omega), e, Int.mul_comm 10 v]
      exact ih _ (p + 1) (i + 1) _ (by omega) (by omega) (by omega) (by omega) (by omega) (by omega) (yMd_at h) (yf_set f rfl)
    · have e : ynb T L (k + 1) v p = (v, p) := by
        show (if 48 ≤ ynxt T L p ∧ ynxt T L p ≤ 57 then _ else _) = _
        rw [if_neg q]
      rw [if_neg q, e]
      exact fin v p σ v0 (by omega) h f
/-- a level's loop -/
theorem m_lo {d id : Nat} (hd : 2 ≤ d) {T : Int → Int} {L o : Int} {lv : Nat} {c : List Int} {g : Int → yR3} {σ0 : zF} {P : zF → Option zR} (hL : 0 ≤ L ∧ L ≤ 120) (hk : ∀ q, 0 ≤ q → q ≤ L → yPkr L q (g q)) (hG : ∀ (q : Int) (c' : List Int) (σ' : zF), 0 ≤ q → q ≤ L → (c'.length : Int) ≤ q → yMd T L q o c' σ' → yT (zx d id [.inl (some 57)] σ') (yI (yMo T L o c' (g q) σ'))) (hP : ∀ (q : Int) (c' : List Int) (σ' : zF), 0 ≤ q → q ≤ L → yMd T L q o c' σ' → P σ' = if ysg lv (ynxt T L q) = true then (zCI LAY (zx d id [.inl (some 57)] (zset σ' 57 15 (q + 1))) fun r s => if r = 0 then zri 0 s else zCI LAY (zx d 175 [.inl (some 57), .inr (.inl (ytrc (-(ynxt T L q))))] s) fun _ s' => P s') else zri 1 σ') : ∀ (m : Nat) (p : Int) (e : List Int) (σ : zF), 120 ≤ p + m → 0 ≤ p → p ≤ L → (c.length : Int) + e.length ≤ p → yMd T L p o (c ++ e) σ → yf yAmd σ0 σ → yT (P σ) (yI (yMo T L o c (ylo T L g lv m p e) σ0)) := by
  intro m
  induction m with
  | zero =>
    intro p e σ hm p0 p1 hc h f
    have : ynxt T L p = -1 := by unfold ynxt; rw [if_neg (by omega)]
    have ng : ¬ ysg lv (ynxt T L p) = true := fun w => by
      have := ysg_s w
      omega
    rw [hP p _ σ p0 p1 h, if_neg ng]
    exact y_i ⟨fun _ => ⟨rfl, h⟩, fun w => absurd rfl w, f⟩
  | succ m ih =>
    intro p e σ hm p0 p1 hc h f
    rw [hP p _ σ p0 p1 h]
    unfold ylo
    by_cases q : ysg lv (ynxt T L p) = true
    · have s := ysg_s q
      have lt := ynx_lt (T := T) (L := L) (p := p) (by omega)
      have pk := hk (p + 1) (by omega) (by omega)
      have pk1 := pk.1
      have pk2 := pk.2.1
      rw [if_pos q, if_pos q]
      refine y_cI (hG (p + 1) (c ++ e) _ (by omega) (by omega) (by simp only [List.length_append]; omega) (yMd_at h)) (fun v t ht => ?_)
      obtain ⟨t1, t2, t3⟩ := ht
      have ft := yf_tr (yf_set f (k := 57) (i := 15) (v := p + 1) rfl) t3
      by_cases z : (g (p + 1)).1 = true
      · obtain ⟨a4, a5⟩ := pk.2.2 z
        obtain ⟨rfl, tz⟩ := t1 z
        obtain ⟨u, e1, u1, u2⟩ := m_codes (d := d) (by omega) (v := -ynxt T L p) tz (by simp only [List.length_append]; omega) rfl
        rw [if_pos z, if_neg (by decide), e1, zCI_ri]
        rw [List.append_assoc, List.append_assoc, ← List.append_assoc e] at u1
        refine ih _ _ u (by omega) (by omega) pk.2.1 ?_ u1 (yf_tr ft u2)
        simp only [List.length_append, List.length_cons, List.length_nil]
        omega
      · obtain ⟨rfl, tz⟩ := t2 z
        rw [if_neg z, if_pos rfl]
        exact y_i ⟨fun w => by simp at w, fun _ => ⟨rfl, tz⟩, ft⟩
    · rw [if_neg q, if_neg q]
      exact y_i ⟨fun _ => ⟨rfl, h⟩, fun w => absurd rfl w, f⟩
theorem m_lv {d id : Nat} (hd : 2 ≤ d) {T : Int → Int} {L o p : Int} {lv f : Nat} {c : List Int} {σ : zF} {P : zF → Option zR} (hL : 0 ≤ L ∧ L ≤ 120) (hl : lv < 5) (h2 : ¬ lv = 2) (p0 : 0 ≤ p) (p1 : p ≤ L) (hc : (c.length : Int) ≤ p) (h : yMd T L p o c σ) (hG : ∀ (q : Int) (c' : List Int) (σ' : zF), 0 ≤ q → q ≤ L → (c'.length : Int) ≤ q → yMd T L q o c' σ' → yT (zx d id [.inl (some 57)] σ') (yI (yMo T L o c' (ypz T L f (lv + 1) o q) σ'))) (hP : ∀ (q : Int) (c' : List Int) (σ' : zF), 0 ≤ q → q ≤ L → yMd T L q o c' σ' → P σ' = if ysg lv (ynxt T L q) = true then (zCI LAY (zx d id [.inl (some 57)] (zset σ' 57 15 (q + 1))) fun r s => if r = 0 then zri 0 s else zCI LAY (zx d 175 [.inl (some 57), .inr (.inl (ytrc (-(ynxt T L q))))] s) fun _ s' => P s') else zri 1 σ') : yT (zCI LAY (zx d id [.inl (some 57)] σ) fun r s => if r = 0 then zri 0 s else P s) (yI (yMo T L o c (ypz T L (f + 1) lv o p) σ)) := by
  have pk := ypz_k (T := T) (L := L) f (lv + 1) o p p0 p1
  have pk1 := pk.1
  have pk2 := pk.2.1
  refine y_cI (hG p c σ p0 p1 hc h) (fun v t ht => ?_)
  obtain ⟨t1, t2, t3⟩ := ht
  unfold ypz
  rw [if_pos hl]
  by_cases z : (ypz T L f (lv + 1) o p).1 = true
  · obtain ⟨a4, a5⟩ := pk.2.2 z
    obtain ⟨rfl, tz⟩ := t1 z
    have := pk.1
    rw [if_pos z, if_neg h2, if_neg (by decide)]
    exact m_lo hd hL (fun q q0 q1 => ypz_k f (lv + 1) o q q0 q1) hG hP 120 _ _ t (by omega) (by omega) pk.2.1 (by omega) tz t3
  · obtain ⟨rfl, tz⟩ := t2 z
    rw [if_neg z, if_pos rfl]
    exact y_i ⟨fun w => by simp at w, fun _ => ⟨rfl, tz⟩, t3⟩
theorem m_pE {d : Nat} (hd : 2 ≤ d) {T : Int → Int} {L o q : Int} {c' : List Int} {σ' : zF} (hL : 0 ≤ L ∧ L ≤ 120) (q0 : 0 ≤ q) (q1 : q ≤ L) (h : yMd T L q o c' σ') : P_X12_isE_9 d σ' = if ysg 0 (ynxt T L q) = true then (zCI LAY (zx d 182 [.inl (some 57)] (zset σ' 57 15 (q + 1))) fun r s => if r = 0 then zri 0 s else zCI LAY (zx d 175 [.inl (some 57), .inr (.inl (ytrc (-(ynxt T L q))))] s) fun _ s' => P_X12_isE_9 d s') else zri 1 σ' := by
  rw [e_X12_isE_9, m_is hd hL.2 q0 q1 h]
  by_cases e : ynxt T L q = 124
  · rw [e, if_pos rfl, zCI_ri, if_neg (by decide), if_pos (show ysg 0 124 = true from rfl), show ytrc (-124) = 6 from rfl]
  · rw [if_neg e, zCI_ri, if_pos rfl, if_neg (show ¬ ysg 0 (ynxt T L q) = true by unfold ysg; rw [if_pos rfl, decide_eq_false e]; decide)]
theorem m_pA {d : Nat} (hd : 2 ≤ d) {T : Int → Int} {L o q : Int} {c' : List Int} {σ' : zF} (hL : 0 ≤ L ∧ L ≤ 120) (q0 : 0 ≤ q) (q1 : q ≤ L) (h : yMd T L q o c' σ') : P_X12_isA_9 d σ' = if ysg 1 (ynxt T L q) = true then (zCI LAY (zx d 181 [.inl (some 57)] (zset σ' 57 15 (q + 1))) fun r s => if r = 0 then zri 0 s else zCI LAY (zx d 175 [.inl (some 57), .inr (.inl (ytrc (-(ynxt T L q))))] s) fun _ s' => P_X12_isA_9 d s') else zri 1 σ' := by
  rw [e_X12_isA_9, m_is hd hL.2 q0 q1 h]
  by_cases e : ynxt T L q = 38
  · rw [e, if_pos rfl, zCI_ri, if_neg (by decide), if_pos (show ysg 1 38 = true from rfl), show ytrc (-38) = 7 from rfl]
  · rw [if_neg e, zCI_ri, if_pos rfl, if_neg (show ¬ ysg 1 (ynxt T L q) = true by unfold ysg; rw [if_neg (by decide), if_pos rfl, decide_eq_false e]; decide)]
theorem m_pS {d : Nat} (hd : 2 ≤ d) {T : Int → Int} {L o q : Int} {c' : List Int} {σ' : zF} (hL : 0 ≤ L ∧ L ≤ 120) (q0 : 0 ≤ q) (q1 : q ≤ L) (h : yMd T L q o c' σ') : P_X12_isS_9 d σ' = if ysg 3 (ynxt T L q) = true then (zCI LAY (zx d 179 [.inl (some 57)] (zset σ' 57 15 (q + 1))) fun r s => if r = 0 then zri 0 s else zCI LAY (zx d 175 [.inl (some 57), .inr (.inl (ytrc (-(ynxt T L q))))] s) fun _ s' => P_X12_isS_9 d s') else zri 1 σ' := by
  have sg := m_sign (d := d) (by omega) hL.2 q0 h
  rw [e_X12_isS_9, sg, zCI_ri, sg, zCI_ri, h.2.1, zw_i (x := q + 1) (by omega) (by omega)]
  by_cases e : ynxt T L q = 43
  · rw [e, if_pos rfl, if_neg (by decide), if_pos (show ysg 3 43 = true from rfl), show ytrc (-43) = 11 from rfl]
  · rw [if_neg e]
    by_cases e2 : ynxt T L q = 45
    · rw [e2, if_pos rfl, if_neg (by decide), if_pos (show ysg 3 45 = true from rfl), show ytrc (-45) = 12 from rfl]
    · rw [if_neg e2, if_pos (by decide), if_neg (show ¬ ysg 3 (ynxt T L q) = true by unfold ysg; rw [if_neg (by decide), if_neg (by decide), if_neg (by decide), if_pos rfl, decide_eq_false (by omega)]; decide)]
theorem m_pP {d : Nat} (hd : 2 ≤ d) {T : Int → Int} {L o q : Int} {c' : List Int} {σ' : zF} (hL : 0 ≤ L ∧ L ≤ 120) (q0 : 0 ≤ q) (q1 : q ≤ L) (h : yMd T L q o c' σ') : P_X12_isP_9 d σ' = if ysg 4 (ynxt T L q) = true then (zCI LAY (zx d 178 [.inl (some 57)] (zset σ' 57 15 (q + 1))) fun r s => if r = 0 then zri 0 s else zCI LAY (zx d 175 [.inl (some 57), .inr (.inl (ytrc (-(ynxt T L q))))] s) fun _ s' => P_X12_isP_9 d s') else zri 1 σ' := by
  have sg := m_sign (d := d) (by omega) hL.2 q0 h
  rw [e_X12_isP_9, sg, zCI_ri, sg, zCI_ri, sg, zCI_ri, e_X12_isP_52, e_X12_isP_52, e_X12_isP_52, e_X12_isP_52, h.2.1, zw_i (x := q + 1) (by omega) (by omega)]
  by_cases e : ynxt T L q = 42
  · rw [e, if_pos rfl, if_neg (by decide), if_pos (show ysg 4 42 = true from rfl), show ytrc (-42) = 13 from rfl]
  · rw [if_neg e]
    by_cases e2 : ynxt T L q = 47
    · rw [e2, if_pos rfl, if_neg (by decide), if_pos (show ysg 4 47 = true from rfl), show ytrc (-47) = 14 from rfl]
    · rw [if_neg e2]
      by_cases e3 : ynxt T L q = 37
      · rw [e3, if_pos rfl, if_neg (by decide), if_pos (show ysg 4 37 = true from rfl), show ytrc (-37) = 15 from rfl]
      · rw [if_neg e3, if_pos (by decide), if_neg (show ¬ ysg 4 (ynxt T L q) = true by unfold ysg; rw [if_neg (by decide), if_neg (by decide), if_neg (by decide), if_neg (by decide), decide_eq_false (by omega)]; decide)]
