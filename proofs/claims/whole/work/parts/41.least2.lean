/-! the fewest thanks, 2 -/
def yVl (ps : List Int) : Int := ps.foldl (fun a p => 12 * a + p) 0
theorem c_np {d : Nat} (hd : 1 ≤ d) {N σ : zF} (hB : yBn N) (hn : σ 1 0 = N 0 0) {many : Int} (ps : List Int) (hl : (ps.length : Int) = many) (hm : many ≤ 3) (hP : yPk (σ 25) ps) (hg : yGd N ps) : (∃ qs σ', ynx (N 0 0) ps = some qs ∧ qs.length = ps.length ∧ zx d 55 [.inl (some 24), .inr (.inl many)] σ = zri 1 σ' ∧ yPk (σ' 25) qs ∧ yGd N qs ∧ yVl ps < yVl qs ∧ yf ([25], []) σ σ') ∨ (ynx (N 0 0) ps = none ∧ zx d 55 [.inl (some 24), .inr (.inl many)] σ = zri 0 σ) := by
  obtain ⟨d, rfl, -⟩ := y_d hd
  have n1 := hB.2.1
  have hb : ∀ c, 0 ≤ c → c < many → 0 ≤ σ 25 c ∧ σ 25 c < N 0 0 := by
    intro c c0 c1
    have hc : c.toNat < ps.length := by omega
    have := hP c.toNat hc
    rw [show ((c.toNat : Nat) : Int) = c by omega] at this
    rw [this]
    refine hg _ ?_
    rw [List.getD_eq_getElem?_getD, List.getElem?_eq_getElem hc]
    exact List.getElem_mem hc
  have np := c_np_l (d := d) (σ := σ) hm hB many.toNat (many - 1) (by omega) (by omega) hn hb
  rw [e_X6_nextPicks, zw_i (x := many - 1) (by omega) (by omega)]
  match ps, hl, hP, hg with
  | [], hl, hP, hg =>
    right
    simp at hl
    refine ⟨rfl, ?_⟩
    rcases np with ⟨k, σ', h1, -⟩ | ⟨-, h2⟩
    · omega
    · exact h2
  | [a], hl, hP, hg =>
    simp at hl
    have ea : σ 25 0 = a := hP 0 (by simp)
    have ba := hb 0 (by omega) (by omega)
    have y1 : ynx (N 0 0) [a] = if a + 1 < N 0 0 then some [a + 1] else none := rfl
    rcases np with ⟨k, σ', h1, h2, h3, h4, h5, h6⟩ | ⟨h1, h2⟩
    · left
      have k0 : k = 0 := by omega
      subst k0
      rw [ea] at h2 h5 ba
      refine ⟨[a + 1], σ', by rw [y1, if_pos h2], rfl, h4, fun i hi => ?_, fun r hr => ?_, by simp [yVl]; omega, h6⟩
      · simp at hi
        subst hi
        rw [h5, if_pos (by omega)]
        rfl
      · simp at hr
        omega
    · right
      have q := h1 0 (by omega) (by omega)
      rw [ea] at q
      exact ⟨by rw [y1, if_neg q], h2⟩
  | [a, b], hl, hP, hg =>
    simp at hl
    have ea : σ 25 0 = a := hP 0 (by simp)
    have eb : σ 25 1 = b := hP 1 (by simp)
    have ba := hb 0 (by omega) (by omega)
    have bb := hb 1 (by omega) (by omega)
    have y1 : ynx (N 0 0) [a, b] = match (if b + 1 < N 0 0 then some [b + 1] else none) with | some qs => some (a :: qs) | none => if a + 1 < N 0 0 then some [a + 1, a + 1] else none := rfl
    rw [ea] at ba
    rw [eb] at bb
    rcases np with ⟨k, σ', h1, h2, h3, h4, h5, h6⟩ | ⟨h1, h2⟩
    · left
      rcases (show k = 0 ∨ k = 1 by omega) with rfl | rfl
      · have q := h3 1 (by omega) (by omega)
        rw [eb] at q
        rw [ea] at h2 h5
        refine ⟨[a + 1, a + 1], σ', by rw [y1, if_neg q]; simp [h2], rfl, h4, fun i hi => ?_, fun r hr => ?_, by simp [yVl]; omega, h6⟩
        · simp at hi
          rcases (show i = 0 ∨ i = 1 by omega) with rfl | rfl
          · rw [h5, if_pos (by omega)]; rfl
          · rw [h5, if_pos (by omega)]; rfl
        · simp at hr
          omega
      · rw [eb] at h2 h5
        refine ⟨[a, b + 1], σ', by rw [y1, if_pos h2], rfl, h4, fun i hi => ?_, fun r hr => ?_, by simp [yVl]; omega, h6⟩
        · simp at hi
          rcases (show i = 0 ∨ i = 1 by omega) with rfl | rfl
          · rw [h5, if_neg (by omega)]; exact ea
          · rw [h5, if_pos (by omega)]; rfl
        · simp at hr
          omega
    · right
      have q0 := h1 0 (by omega) (by omega)
      have q1 := h1 1 (by omega) (by omega)
      rw [ea] at q0
      rw [eb] at q1
      exact ⟨by rw [y1, if_neg q1]; simp [q0], h2⟩
  | [a, b, e], hl, hP, hg =>
    simp at hl
    have ea : σ 25 0 = a := hP 0 (by simp)
    have eb : σ 25 1 = b := hP 1 (by simp)
    have ee : σ 25 2 = e := hP 2 (by simp)
    have ba := hb 0 (by omega) (by omega)
    have bb := hb 1 (by omega) (by omega)
    have be := hb 2 (by omega) (by omega)
    have y1 : ynx (N 0 0) [a, b, e] = match (match (if e + 1 < N 0 0 then some [e + 1] else none) with | some qs => some (b :: qs) | none => if b + 1 < N 0 0 then some [b + 1, b + 1] else none) with | some qs => some (a :: qs) | none => if a + 1 < N 0 0 then some [a + 1, a + 1, a + 1] else none := rfl
    rw [ea] at ba
    rw [eb] at bb
    rw [ee] at be
    rcases np with ⟨k, σ', h1, h2, h3, h4, h5, h6⟩ | ⟨h1, h2⟩
    · left
      rcases (show k = 0 ∨ k = 1 ∨ k = 2 by omega) with rfl | rfl | rfl
      · have q1 := h3 1 (by omega) (by omega)
        have q2 := h3 2 (by omega) (by omega)
        rw [eb] at q1
        rw [ee] at q2
        rw [ea] at h2 h5
        refine ⟨[a + 1, a + 1, a + 1], σ', by rw [y1, if_neg q2]; simp [q1, h2], rfl, h4, fun i hi => ?_, fun r hr => ?_, by simp [yVl]; omega, h6⟩
        · simp at hi
          rcases (show i = 0 ∨ i = 1 ∨ i = 2 by omega) with rfl | rfl | rfl
          · rw [h5, if_pos (by omega)]; rfl
          · rw [h5, if_pos (by omega)]; rfl
          · rw [h5, if_pos (by omega)]; rfl
        · simp at hr
          omega
      · have q2 := h3 2 (by omega) (by omega)
        rw [ee] at q2
        rw [eb] at h2 h5
        refine ⟨[a, b + 1, b + 1], σ', by rw [y1, if_neg q2]; simp [h2], rfl, h4, fun i hi => ?_, fun r hr => ?_, by simp [yVl]; omega, h6⟩
        · simp at hi
          rcases (show i = 0 ∨ i = 1 ∨ i = 2 by omega) with rfl | rfl | rfl
          · rw [h5, if_neg (by omega)]; exact ea
          · rw [h5, if_pos (by omega)]; rfl
          · rw [h5, if_pos (by omega)]; rfl
        · simp at hr
          omega
      · rw [ee] at h2 h5
        refine ⟨[a, b, e + 1], σ', by rw [y1, if_pos h2], rfl, h4, fun i hi => ?_, fun r hr => ?_, by simp [yVl]; omega, h6⟩
        · simp at hi
          rcases (show i = 0 ∨ i = 1 ∨ i = 2 by omega) with rfl | rfl | rfl
          · rw [h5, if_neg (by omega)]; exact ea
          · rw [h5, if_neg (by omega)]; exact eb
          · rw [h5, if_pos (by omega)]; rfl
        · simp at hr
          omega
    · right
      have q0 := h1 0 (by omega) (by omega)
      have q1 := h1 1 (by omega) (by omega)
      have q2 := h1 2 (by omega) (by omega)
      rw [ea] at q0
      rw [eb] at q1
      rw [ee] at q2
      exact ⟨by rw [y1, if_neg q2]; simp [q0, q1], h2⟩
  | a :: b :: e :: f :: r, hl, hP, hg =>
    exfalso
    simp at hl
    omega
theorem yVl_b {N : zF} (hB : yBn N) {ps : List Int} (hl : ps.length ≤ 3) (hg : yGd N ps) : 0 ≤ yVl ps ∧ yVl ps < 1728 := by
  have n1 := hB.2.1
  match ps, hl, hg with
  | [], _, _ => simp [yVl]
  | [a], _, hg =>
    have := hg a (by simp)
    simp [yVl]
    omega
  | [a, b], _, hg =>
    have := hg a (by simp)
    have := hg b (by simp)
    simp [yVl]
    omega
  | [a, b, e], _, hg =>
    have := hg a (by simp)
    have := hg b (by simp)
    have := hg e (by simp)
    simp [yVl]
    omega
  | a :: b :: e :: f :: r, hl, _ => simp at hl
abbrev yAo : List Nat × List (Nat × Int) := ([16, 18, 19, 20, 21, 22, 23, 25], [(14, 3)])
def yis {α : Type} : Option α → Int
  | some _ => 1
  | none => 0
theorem c_find_l {d : Nat} (hd : 6 ≤ d) {N σ0 : zF} {G : yG} {T x t many : Int} (hP2 : yPair x) (hB : yBn N) (hm : many ≤ 3) : ∀ (j : Nat) (i : Int) (ps : List Int) (m : Int → Int) (σ : zF), i + j = 2000 → 0 ≤ i → (ps.length : Int) = many → i ≤ yVl ps → yGd N ps → yPk (σ 25) ps → yX N G T (-1) m σ → yf yAo σ0 σ → yT (P_X6_findThanks_11 d many (x / 10) (x % 10) t i σ) (yI fun v u => v = yis (yRm (yok N G x t) (N 0 0) ps []) ∧ (∀ qs, yRm (yok N G x t) (N 0 0) ps [] = some qs → yPk (u 25) qs ∧ (qs.length : Int) = many) ∧ (∃ m, yX N G T (-1) m u) ∧ yf yAo σ0 u) := by
  unfold yPair at hP2
  intro j
  induction j with
  | zero =>
    intro i ps m σ hi i0 hl hv hg hP hX g
    have := yVl_b hB (by omega) hg
    omega
  | succ j ih =>
    intro i ps m σ hi i0 hl hv hg hP hX g
    rw [e_X6_findThanks_11]
    refine y_g (by omega) (y_cV (c_now (by omega) hX) (fun s1 hs1 => ?_))
    have g1 : yf yAo σ0 s1 := yf_tr g (yf_le hs1.2 (by decide))
    have nx := yRm_next (yok N G x t) (N 0 0) ps []
    rw [List.nil_append] at nx
    refine c_test_l hd (σ0 := s1) (mf := ymo N ps (N 6)) (by omega) (by omega) hB (fun s2 hX2 f2 => ?_) ps 0 (N 6) s1 (by omega) (by omega) hm hg (fun c hc => ?_) rfl hs1.1 yf_rf
    · have g2 : yf yAo σ0 s2 := yf_tr g1 (yf_le f2 (by decide))
      have hP2' : yPk (s2 25) ps := fun c hc => by rw [f2 25 _ rfl, hs1.2 25 _ rfl]; exact hP c hc
      refine y_if (fun q => ?_) (fun q => y_i ⟨?_, fun qs hq => ?_, ⟨_, hX2⟩, g2⟩)
      · have no : ¬ yok N G x t ps = true := by unfold yok; simp; omega
        rw [if_neg no] at nx
        rcases c_np (d := d) (σ := s2) (by omega) hB hX2.2.2.2.2.1.1 ps hl hm hP2' hg with ⟨qs, s3, h1, h2, h3, h4, h5, h6, h7⟩ | ⟨h1, h2⟩
        · rw [h3, zCI_ri, if_neg (by decide), zw_i (x := i + 1) (by omega) (by omega)]
          rw [h1] at nx
          rw [nx]
          exact ih (i + 1) qs _ s3 (by omega) (by omega) (by omega) (by omega) h5 h4 (yX_f hX2 h7 (by decide)) (yf_tr g2 (yf_le h7 (by decide)))
        · rw [h2, zCI_ri, if_pos rfl]
          rw [h1] at nx
          rw [nx]
          exact y_i ⟨rfl, fun qs hq => (by cases hq), ⟨_, hX2⟩, g2⟩
      · have yes : yok N G x t ps = true := by unfold yok; simp; omega
        rw [nx, if_pos yes]
        rfl
      · have yes : yok N G x t ps = true := by unfold yok; simp; omega
        rw [nx, if_pos yes] at hq
        cases hq
        exact ⟨hP2', hl⟩
    · rw [hs1.2 25 _ rfl, show (0 : Int) + (c : Int) = (c : Int) by omega]
      exact hP c hc
def yFT (ok : List Int → Bool) (R : Int) : Nat → Nat → Option (Nat × List Int)
  | 0, _ => none
  | j + 1, k => match yEn ok R k [] 0 with
    | some ps => some (k, ps)
    | none => yFT ok R j (k + 1)
def yfv : Option (Nat × List Int) → Int
  | some q => (q.1 : Int)
  | none => -2
theorem c_few_l {d : Nat} (hd : 8 ≤ d) {N σ0 : zF} {G : yG} {T x t : Int} (hP2 : yPair x) (hB : yBn N) (hn : 0 < N 0 0) : ∀ (j k : Nat) (m : Int → Int) (σ : zF), k + j = 4 → yX N G T (-1) m σ → yf yAo σ0 σ → yT (P_X6_fewestThanks_27 d (x / 10) (x % 10) t (k : Int) σ) (yI fun v u => v = yfv (yFT (yok N G x t) (N 0 0) j k) ∧ (∀ q, yFT (yok N G x t) (N 0 0) j k = some q → yPk (u 25) q.2 ∧ q.2.length = q.1 ∧ q.1 ≤ 3) ∧ (∃ m, yX N G T (-1) m u) ∧ yf yAo σ0 u) := by
  intro j
  induction j with
  | zero =>
    intro k m σ hk hX g
    rw [e_X6_fewestThanks_27]
    exact y_g (by omega) (y_i ⟨rfl, fun q hq => (by cases hq), ⟨m, hX⟩, g⟩)
  | succ j ih =>
    intro k m σ hk hX g
    rw [e_X6_fewestThanks_27]
    have fnd : yT (zx d 54 [.inl (some 24), .inr (.inl (k : Int)), .inr (.inl (x / 10)), .inr (.inl (x % 10)), .inr (.inl t)] σ) (yI fun v u => v = yis (yEn (yok N G x t) (N 0 0) k [] 0) ∧ (∀ qs, yEn (yok N G x t) (N 0 0) k [] 0 = some qs → yPk (u 25) qs ∧ (qs.length : Int) = (k : Int)) ∧ (∃ m, yX N G T (-1) m u) ∧ yf yAo σ0 u) := by
      obtain ⟨e, rfl, he⟩ := y_d (k := 7) (d := d) (by omega)
      rw [e_X6_findThanks]
      refine y_cV (c_fill25 (by omega) 0 σ) (fun s1 hs1 => ?_)
      have h := c_find_l (d := e) (by omega) (σ0 := σ0) (t := t) (many := (k : Int)) hP2 hB (by omega) 2000 0 (List.replicate k 0) m s1 (by omega) (by omega) (by simp) ?_ ?_ ?_ (yX_f hX hs1.2 (by decide)) (yf_tr g (yf_le hs1.2 (by decide)))
      · rw [yRm_rep _ _ k [] 0 hn] at h
        exact h
      · rcases (show k = 0 ∨ k = 1 ∨ k = 2 ∨ k = 3 by omega) with rfl | rfl | rfl | rfl <;> decide
      · intro r hr
        have := List.eq_of_mem_replicate hr
        omega
      · intro c hc
        simp at hc
        rw [hs1.1 c (by omega) (by omega), List.getD_eq_getElem?_getD, List.getElem?_replicate, if_pos hc]
        rfl
    refine y_n (by omega) (y_cI fnd (fun v u hu => ?_))
    rw [zw_i (x := (k : Int) + 1) (by omega) (by omega), hu.1]
    rcases e : yEn (yok N G x t) (N 0 0) k [] 0 with _ | ps
    · have ef : yFT (yok N G x t) (N 0 0) (j + 1) k = yFT (yok N G x t) (N 0 0) j (k + 1) := by
        show (match yEn (yok N G x t) (N 0 0) k [] 0 with | some ps => some (k, ps) | none => yFT (yok N G x t) (N 0 0) j (k + 1)) = _
        rw [e]
      rw [ef]
      obtain ⟨-, -, ⟨m', hX'⟩, g'⟩ := hu
      have := ih (k + 1) m' u (by omega) hX' g'
      rw [Int.natCast_succ] at this
      exact y_g rfl this
    · have ef : yFT (yok N G x t) (N 0 0) (j + 1) k = some (k, ps) := by
        show (match yEn (yok N G x t) (N 0 0) k [] 0 with | some ps => some (k, ps) | none => yFT (yok N G x t) (N 0 0) j (k + 1)) = _
        rw [e]
      rw [ef]
      have := hu.2.1 ps e
      refine y_n (by show ¬ (1 : Int) = 0; decide) (y_i ⟨rfl, fun q hq => ?_, hu.2.2.1, hu.2.2.2⟩)
      cases hq
      exact ⟨this.1, by have := this.2; show ps.length = k; omega, by show k ≤ 3; omega⟩
