/-! the law's text: a parser, told without a machine -/
def ynxt (T : Int → Int) (L p : Int) : Int := if p < L then T p else -1
def ysg (lv : Nat) (x : Int) : Bool := if lv = 0 then decide (x = 124) else if lv = 1 then decide (x = 38) else if lv = 2 then decide (x = 60 ∨ x = 61 ∨ x = 62) else if lv = 3 then decide (x = 43 ∨ x = 45) else decide (x = 42 ∨ x = 47 ∨ x = 37)
def ynm (x : Int) : Bool := decide (x = 108 ∨ x = 109 ∨ x = 106 ∨ x = 110 ∨ x = 114 ∨ x = 107)
abbrev yR3 : Type := Bool × Int × List Int
def ynb (T : Int → Int) (L : Int) : Nat → Int → Int → Int × Int
  | 0, v, p => (v, p)
  | k + 1, v, p => if 48 ≤ ynxt T L p ∧ ynxt T L p ≤ 57 then ynb T L k (v * 10 + ynxt T L p - 48) (p + 1) else (v, p)
def ylo (T : Int → Int) (L : Int) (g : Int → yR3) (lv : Nat) : Nat → Int → List Int → yR3
  | 0, p, e => (true, p, e)
  | m + 1, p, e => if ysg lv (ynxt T L p) = true then (if (g (p + 1)).1 = true then ylo T L g lv m (g (p + 1)).2.1 (e ++ (g (p + 1)).2.2 ++ [-(ynxt T L p)]) else (false, (g (p + 1)).2.1, [])) else (true, p, e)
def ypz (T : Int → Int) (L : Int) : Nat → Nat → Int → Int → yR3
  | 0, _, _, p => (false, p, [])
  | f + 1, lv, o, p =>
    if lv < 5 then (if (ypz T L f (lv + 1) o p).1 = true then ylo T L (fun q => ypz T L f (lv + 1) o q) lv (if lv = 2 then 1 else 120) (ypz T L f (lv + 1) o p).2.1 (ypz T L f (lv + 1) o p).2.2 else (false, (ypz T L f (lv + 1) o p).2.1, []))
    else if 48 ≤ ynxt T L p ∧ ynxt T L p ≤ 57 then (true, (ynb T L 4 0 p).2, [(ynb T L 4 0 p).1])
    else if ynm (ynxt T L p) = true then (true, p + 1, [-(ynxt T L p)])
    else if 6 ≤ o then (false, p, [])
    else if ynxt T L p = 40 then (if (ypz T L f 0 (o + 1) (p + 1)).1 = true then (if ynxt T L (ypz T L f 0 (o + 1) (p + 1)).2.1 = 41 then (true, (ypz T L f 0 (o + 1) (p + 1)).2.1 + 1, (ypz T L f 0 (o + 1) (p + 1)).2.2) else (false, (ypz T L f 0 (o + 1) (p + 1)).2.1, [])) else (false, (ypz T L f 0 (o + 1) (p + 1)).2.1, []))
    else if ynxt T L p = 33 ∨ ynxt T L p = 45 then (if (ypz T L f 5 (o + 1) (p + 1)).1 = true then (true, (ypz T L f 5 (o + 1) (p + 1)).2.1, (ypz T L f 5 (o + 1) (p + 1)).2.2 ++ [if ynxt T L p = 33 then -33 else -126]) else (false, (ypz T L f 5 (o + 1) (p + 1)).2.1, []))
    else (false, p, [])
/-! steps, as the model codes them; a stack -/
def ytrc (s : Int) : Int := if 0 ≤ s then 18 + s else if s = -108 then 0 else if s = -109 then 1 else if s = -106 then 2 else if s = -110 then 3 else if s = -114 then 4 else if s = -107 then 5 else if s = -124 then 6 else if s = -38 then 7 else if s = -60 then 8 else if s = -61 then 9 else if s = -62 then 10 else if s = -43 then 11 else if s = -45 then 12 else if s = -42 then 13 else if s = -47 then 14 else if s = -37 then 15 else if s = -33 then 16 else 17
def ylg (s : Int) : Prop := 0 ≤ s ∧ s ≤ 9999 ∨ (s = -108 ∨ s = -109 ∨ s = -106 ∨ s = -110 ∨ s = -114 ∨ s = -107) ∨ (s = -33 ∨ s = -126) ∨ (s = -124 ∨ s = -38 ∨ s = -60 ∨ s = -61 ∨ s = -62 ∨ s = -43 ∨ s = -45 ∨ s = -42 ∨ s = -47 ∨ s = -37)
def ybo (c x y : Int) : Int := if c = 6 then (if x = 0 then (if y = 0 then 0 else 1) else 1) else if c = 7 then (if x = 0 then 0 else if y = 0 then 0 else 1) else if c = 8 then (if x < y then 1 else 0) else if c = 9 then (if x = y then 1 else 0) else if c = 10 then (if y < x then 1 else 0) else if c = 11 then zw (x + y) else if c = 12 then zw (x - y) else if c = 13 then zw (x * y) else if c = 14 then (if y = 0 then 0 else zdiv x y) else (if y = 0 then 0 else zrem x y)
def yst (nm : Int → Int) (s : Int) (S : List Int) : Option (List Int) :=
  if 0 ≤ s then some (s :: S) else if ytrc s < 6 then some (nm (ytrc s) :: S) else
  match S with
  | [] => none
  | y :: R => if s = -33 then some ((if y = 0 then 1 else 0) :: R) else if s = -126 then some (zw (-y) :: R) else
    match R with
    | [] => none
    | x :: R' => some (ybo (ytrc s) x y :: R')
def yev (nm : Int → Int) : List Int → List Int → Option (List Int)
  | [], S => some S
  | s :: e, S => match yst nm s S with
    | none => none
    | some S' => yev nm e S'
theorem yev_app (nm : Int → Int) : ∀ (e e' S S' : List Int), yev nm e S = some S' → yev nm (e ++ e') S = yev nm e' S'
  | [], e', S, S', h => by
    simp only [yev, Option.some.injEq] at h
    rw [h]
    rfl
  | s :: e, e', S, S', h => by
    simp only [yev, List.cons_append] at h ⊢
    rcases q : yst nm s S with _ | S1
    · rw [q] at h
      simp at h
    · rw [q] at h
      simp only at h ⊢
      exact yev_app nm e e' S1 S' h
/-- a good code: legal steps, one value more -/
def yGde (e : List Int) : Prop := (∀ s ∈ e, ylg s) ∧ ∀ (nm : Int → Int) (S : List Int), ∃ v, yev nm e S = some (v :: S)
theorem yGd_ne {e : List Int} (h : yGde e) : 1 ≤ e.length := by
  rcases e with _ | ⟨s, e⟩
  · obtain ⟨v, hv⟩ := h.2 (fun _ => 0) []
    simp [yev] at hv
  · simp
theorem yGd_one {s : Int} (h : ylg s) (h2 : ∀ (nm : Int → Int) (S : List Int), ∃ v, yst nm s S = some (v :: S)) : yGde [s] := by
  refine ⟨fun s' hs => ?_, fun nm S => ?_⟩
  · rw [List.mem_singleton] at hs
    rw [hs]
    exact h
  · obtain ⟨v, hv⟩ := h2 nm S
    refine ⟨v, ?_⟩
    simp only [yev, hv]
theorem yGd_un {e : List Int} {s : Int} (h : yGde e) (hs : s = -33 ∨ s = -126) : yGde (e ++ [s]) := by
  refine ⟨fun s' hs' => ?_, fun nm S => ?_⟩
  · rcases List.mem_append.mp hs' with q | q
    · exact h.1 s' q
    · rw [List.mem_singleton] at q
      rw [q]
      exact Or.inr (Or.inr (Or.inl hs))
  · obtain ⟨v, hv⟩ := h.2 nm S
    rw [yev_app nm e [s] S _ hv]
    rcases hs with rfl | rfl
    · exact ⟨_, rfl⟩
    · exact ⟨_, rfl⟩
theorem yGd_bi {e e' : List Int} {s : Int} (h : yGde e) (h' : yGde e') (hs : s = -124 ∨ s = -38 ∨ s = -60 ∨ s = -61 ∨ s = -62 ∨ s = -43 ∨ s = -45 ∨ s = -42 ∨ s = -47 ∨ s = -37) : yGde (e ++ e' ++ [s]) := by
  refine ⟨fun s' hs' => ?_, fun nm S => ?_⟩
  · rcases List.mem_append.mp hs' with q | q
    · rcases List.mem_append.mp q with q | q
      · exact h.1 s' q
      · exact h'.1 s' q
    · rw [List.mem_singleton] at q
      rw [q]
      exact Or.inr (Or.inr (Or.inr hs))
  · obtain ⟨v, hv⟩ := h.2 nm S
    obtain ⟨w, hw⟩ := h'.2 nm (v :: S)
    rw [List.append_assoc, yev_app nm e _ S _ hv, yev_app nm e' _ _ _ hw]
    rcases hs with rfl | rfl | rfl | rfl | rfl | rfl | rfl | rfl | rfl | rfl <;> exact ⟨_, rfl⟩
/-! what the parser gives -/
def yPkr (L p : Int) (r : yR3) : Prop := p ≤ r.2.1 ∧ r.2.1 ≤ L ∧ (r.1 = true → p + r.2.2.length ≤ r.2.1 ∧ yGde r.2.2)
theorem ynx_lt {T : Int → Int} {L p : Int} (h : ¬ ynxt T L p = -1) : p < L := by
  unfold ynxt at h
  by_cases q : p < L
  · exact q
  · rw [if_neg q] at h
    exact absurd rfl h
theorem ynb_k {T : Int → Int} {L : Int} : ∀ (k : Nat) (v p : Int), p ≤ L → 0 ≤ v → (k = 0 ∧ v ≤ 9999 ∨ k = 1 ∧ v ≤ 999 ∨ k = 2 ∧ v ≤ 99 ∨ k = 3 ∧ v ≤ 9 ∨ k = 4 ∧ v = 0) → 0 ≤ (ynb T L k v p).1 ∧ (ynb T L k v p).1 ≤ 9999 ∧ p ≤ (ynb T L k v p).2 ∧ (ynb T L k v p).2 ≤ L
  | 0, v, p, hp, hv, h => by
    unfold ynb
    exact ⟨hv, by omega, Int.le_refl _, hp⟩
  | k + 1, v, p, hp, hv, h => by
    unfold ynb
    by_cases q : 48 ≤ ynxt T L p ∧ ynxt T L p ≤ 57
    · rw [if_pos q]
      have lt := ynx_lt (T := T) (L := L) (p := p) (by omega)
      have := ynb_k (T := T) (L := L) k (v * 10 + ynxt T L p - 48) (p + 1) (by omega) (by omega) (by omega)
      exact ⟨this.1, this.2.1, by omega, this.2.2.2⟩
    · rw [if_neg q]
      exact ⟨hv, by omega, Int.le_refl _, hp⟩
theorem ysg_s {lv : Nat} {x : Int} (h : ysg lv x = true) : -x = -124 ∨ -x = -38 ∨ -x = -60 ∨ -x = -61 ∨ -x = -62 ∨ -x = -43 ∨ -x = -45 ∨ -x = -42 ∨ -x = -47 ∨ -x = -37 := by
  unfold ysg at h
  split at h
  · rw [decide_eq_true_eq] at h; omega
  · split at h
    · rw [decide_eq_true_eq] at h; omega
    · split at h
      · rw [decide_eq_true_eq] at h; omega
      · split at h
        · rw [decide_eq_true_eq] at h; omega
        · rw [decide_eq_true_eq] at h; omega
theorem ylo_k {T : Int → Int} {L : Int} {g : Int → yR3} {lv : Nat} (hg : ∀ q, 0 ≤ q → q ≤ L → yPkr L q (g q)) : ∀ (m : Nat) (p p0 : Int) (e : List Int), 0 ≤ p0 → p0 + e.length ≤ p → p ≤ L → yGde e → yPkr L p0 (ylo T L g lv m p e)
  | 0, p, p0, e, h0, h1, h2, h3 => by
    unfold ylo
    exact ⟨by show p0 ≤ p; omega, h2, fun _ => ⟨h1, h3⟩⟩
  | m + 1, p, p0, e, h0, h1, h2, h3 => by
    unfold ylo
    by_cases q : ysg lv (ynxt T L p) = true
    · rw [if_pos q]
      have s := ysg_s q
      have lt := ynx_lt (T := T) (L := L) (p := p) (by omega)
      obtain ⟨a1, a2, a3⟩ := hg (p + 1) (by omega) (by omega)
      by_cases z : (g (p + 1)).1 = true
      · rw [if_pos z]
        obtain ⟨a4, a5⟩ := a3 z
        refine ylo_k hg m _ p0 _ h0 ?_ a2 (yGd_bi h3 a5 s)
        simp only [List.length_append, List.length_cons, List.length_nil]
        omega
      · rw [if_neg z]
        exact ⟨by show p0 ≤ (g (p + 1)).2.1; omega, a2, fun w => by simp at w⟩
    · rw [if_neg q]
      exact ⟨by show p0 ≤ p; omega, h2, fun _ => ⟨h1, h3⟩⟩
theorem ypz_k {T : Int → Int} {L : Int} : ∀ (f lv : Nat) (o p : Int), 0 ≤ p → p ≤ L → yPkr L p (ypz T L f lv o p)
  | 0, lv, o, p, h0, h1 => by
    unfold ypz
    exact ⟨Int.le_refl _, h1, fun w => by simp at w⟩
  | f + 1, lv, o, p, h0, h1 => by
    have no : ∀ q : Int, p ≤ q → q ≤ L → yPkr L p (false, q, []) := fun q a b => ⟨a, b, fun w => by simp at w⟩
    unfold ypz
    by_cases c1 : lv < 5
    · rw [if_pos c1]
      obtain ⟨a1, a2, a3⟩ := ypz_k (T := T) (L := L) f (lv + 1) o p h0 h1
      by_cases z : (ypz T L f (lv + 1) o p).1 = true
      · rw [if_pos z]
        obtain ⟨a4, a5⟩ := a3 z
        exact ylo_k (fun q q0 q1 => ypz_k f (lv + 1) o q q0 q1) _ _ p _ h0 a4 a2 a5
      · rw [if_neg z]
        exact no _ a1 a2
    · rw [if_neg c1]
      by_cases c2 : 48 ≤ ynxt T L p ∧ ynxt T L p ≤ 57
      · rw [if_pos c2]
        have lt := ynx_lt (T := T) (L := L) (p := p) (by omega)
        have e : ynb T L 4 0 p = ynb T L 3 (0 * 10 + ynxt T L p - 48) (p + 1) := by
          show (if 48 ≤ ynxt T L p ∧ ynxt T L p ≤ 57 then _ else _) = _
          rw [if_pos c2]
        obtain ⟨b1, b2, b3, b4⟩ := ynb_k (T := T) (L := L) 3 (0 * 10 + ynxt T L p - 48) (p + 1) (by omega) (by omega) (by omega)
        rw [e]
        refine ⟨by show p ≤ (ynb T L 3 (0 * 10 + ynxt T L p - 48) (p + 1)).2; omega, b4, fun _ => ⟨by simp only [List.length_cons, List.length_nil]; omega, yGd_one (Or.inl ⟨b1, b2⟩) (fun nm S => ⟨_, if_pos b1⟩)⟩⟩
      · rw [if_neg c2]
        by_cases c3 : ynm (ynxt T L p) = true
        · rw [if_pos c3]
          unfold ynm at c3
          rw [decide_eq_true_eq] at c3
          have lt := ynx_lt (T := T) (L := L) (p := p) (by omega)
          refine ⟨by show p ≤ p + 1; omega, by show p + 1 ≤ L; omega, fun _ => ⟨by simp only [List.length_cons, List.length_nil]; omega, yGd_one (Or.inr (Or.inl (by omega))) (fun nm S => ?_)⟩⟩
          rcases c3 with c | c | c | c | c | c <;> (rw [c]; exact ⟨_, rfl⟩)
        · rw [if_neg c3]
          by_cases c4 : 6 ≤ o
          · rw [if_pos c4]
            exact no p (Int.le_refl _) h1
          · rw [if_neg c4]
            by_cases c5 : ynxt T L p = 40
            · have lt := ynx_lt (T := T) (L := L) (p := p) (by omega)
              obtain ⟨a1, a2, a3⟩ := ypz_k (T := T) (L := L) f 0 (o + 1) (p + 1) (by omega) (by omega)
              rw [if_pos c5]
              by_cases z : (ypz T L f 0 (o + 1) (p + 1)).1 = true
              · rw [if_pos z]
                obtain ⟨a4, a5⟩ := a3 z
                by_cases c6 : ynxt T L (ypz T L f 0 (o + 1) (p + 1)).2.1 = 41
                · have lt2 := ynx_lt (T := T) (L := L) (p := (ypz T L f 0 (o + 1) (p + 1)).2.1) (by omega)
                  rw [if_pos c6]
                  exact ⟨by show p ≤ (ypz T L f 0 (o + 1) (p + 1)).2.1 + 1; omega, by show (ypz T L f 0 (o + 1) (p + 1)).2.1 + 1 ≤ L; omega, fun _ => ⟨by show p + ((ypz T L f 0 (o + 1) (p + 1)).2.2.length : Int) ≤ (ypz T L f 0 (o + 1) (p + 1)).2.1 + 1; omega, a5⟩⟩
                · rw [if_neg c6]
                  exact no _ (by omega) a2
              · rw [if_neg z]
                exact no _ (by omega) a2
            · rw [if_neg c5]
              by_cases c6 : ynxt T L p = 33 ∨ ynxt T L p = 45
              · have lt := ynx_lt (T := T) (L := L) (p := p) (by omega)
                obtain ⟨a1, a2, a3⟩ := ypz_k (T := T) (L := L) f 5 (o + 1) (p + 1) (by omega) (by omega)
                rw [if_pos c6]
                by_cases z : (ypz T L f 5 (o + 1) (p + 1)).1 = true
                · rw [if_pos z]
                  obtain ⟨a4, a5⟩ := a3 z
                  refine ⟨by show p ≤ (ypz T L f 5 (o + 1) (p + 1)).2.1; omega, a2, fun _ => ⟨?_, yGd_un a5 ?_⟩⟩
                  · simp only [List.length_append, List.length_cons, List.length_nil]
                    omega
                  · split
                    · exact Or.inl rfl
                    · exact Or.inr rfl
                · rw [if_neg z]
                  exact no _ (by omega) a2
              · rw [if_neg c6]
                exact no p (Int.le_refl _) h1
