/-! the fewest thanks -/
def yfst {α : Type} (f : Int → Option α) : Nat → Int → Option α
  | 0, _ => none
  | j + 1, r => match f r with
    | some x => some x
    | none => yfst f j (r + 1)
theorem yfst_s {α : Type} {f : Int → Option α} {j : Nat} {r : Int} {x : α} (h : f r = some x) : yfst f (j + 1) r = some x := by
  show (match f r with | some x => some x | none => yfst f j (r + 1)) = _
  rw [h]
theorem yfst_n {α : Type} {f : Int → Option α} {j : Nat} {r : Int} (h : f r = none) : yfst f (j + 1) r = yfst f j (r + 1) := by
  show (match f r with | some x => some x | none => yfst f j (r + 1)) = _
  rw [h]
/-- k more roads behind pre, from one on: the first by numbers that is enough -/
def yEn (ok : List Int → Bool) (R : Int) : Nat → List Int → Int → Option (List Int)
  | 0, pre, _ => if ok pre = true then some pre else none
  | k + 1, pre, a => yfst (fun r => yEn ok R k (pre ++ [r]) r) (R - a).toNat a
/-- the same, from a row of roads on -/
def yRm (ok : List Int → Bool) (R : Int) : List Int → List Int → Option (List Int)
  | [], pre => if ok pre = true then some pre else none
  | p :: ps, pre => match yRm ok R ps (pre ++ [p]) with
    | some x => some x
    | none => yfst (fun r => yEn ok R ps.length (pre ++ [r]) r) (R - (p + 1)).toNat (p + 1)
def ynx (R : Int) : List Int → Option (List Int)
  | [] => none
  | p :: ps => match ynx R ps with
    | some qs => some (p :: qs)
    | none => if p + 1 < R then some (List.replicate (ps.length + 1) (p + 1)) else none
theorem yRm_rep (ok : List Int → Bool) (R : Int) : ∀ (k : Nat) (pre : List Int) (a : Int), a < R → yRm ok R (List.replicate k a) pre = yEn ok R k pre a
  | 0, _, _, _ => rfl
  | k + 1, pre, a, h => by
    have ih := yRm_rep ok R k (pre ++ [a]) a h
    show (match yRm ok R (List.replicate k a) (pre ++ [a]) with | some x => some x | none => yfst (fun r => yEn ok R (List.replicate k a).length (pre ++ [r]) r) (R - (a + 1)).toNat (a + 1)) = yfst (fun r => yEn ok R k (pre ++ [r]) r) (R - a).toNat a
    rw [ih, List.length_replicate, show (R - a).toNat = (R - (a + 1)).toNat + 1 by omega]
    rcases e : yEn ok R k (pre ++ [a]) a with _ | x
    · exact (yfst_n (f := fun r => yEn ok R k (pre ++ [r]) r) e).symm
    · exact (yfst_s (f := fun r => yEn ok R k (pre ++ [r]) r) e).symm
theorem yRm_next (ok : List Int → Bool) (R : Int) : ∀ (ps pre : List Int), yRm ok R ps pre = if ok (pre ++ ps) = true then some (pre ++ ps) else match ynx R ps with
    | some qs => yRm ok R qs pre
    | none => none
  | [], pre => by
    show (if ok pre = true then some pre else none) = _
    rw [List.append_nil]
    rfl
  | p :: ps, pre => by
    have ih := yRm_next ok R ps (pre ++ [p])
    have ea : pre ++ [p] ++ ps = pre ++ p :: ps := by simp
    rw [ea] at ih
    show (match yRm ok R ps (pre ++ [p]) with | some x => some x | none => yfst (fun r => yEn ok R ps.length (pre ++ [r]) r) (R - (p + 1)).toNat (p + 1)) = _
    rw [ih]
    by_cases h : ok (pre ++ p :: ps) = true
    · rw [if_pos h, if_pos h]
    · rw [if_neg h, if_neg h]
      rcases e : ynx R ps with _ | qs
      · have e2 : ynx R (p :: ps) = if p + 1 < R then some (List.replicate (ps.length + 1) (p + 1)) else none := by
          show (match ynx R ps with | some qs => some (p :: qs) | none => _) = _
          rw [e]
        rw [e2]
        show yfst (fun r => yEn ok R ps.length (pre ++ [r]) r) (R - (p + 1)).toNat (p + 1) = _
        by_cases q : p + 1 < R
        · rw [if_pos q]
          exact (yRm_rep ok R (ps.length + 1) pre (p + 1) q).symm
        · rw [if_neg q, show (R - (p + 1)).toNat = 0 by omega]
          rfl
      · have e2 : ynx R (p :: ps) = some (p :: qs) := by
          show (match ynx R ps with | some qs => some (p :: qs) | none => _) = _
          rw [e]
        have el : qs.length = ps.length := by
          have : ∀ (as bs : List Int), ynx R as = some bs → bs.length = as.length := by
            intro as
            induction as with
            | nil => intro bs hb; cases hb
            | cons a as iha =>
              intro bs hb
              have hb' : (match ynx R as with | some qs => some (a :: qs) | none => if a + 1 < R then some (List.replicate (as.length + 1) (a + 1)) else none) = some bs := hb
              rcases e3 : ynx R as with _ | cs
              · rw [e3] at hb'
                by_cases q : a + 1 < R
                · simp only [if_pos q, Option.some.injEq] at hb'
                  rw [← hb']
                  simp
                · simp only [if_neg q] at hb'
                  cases hb'
              · rw [e3] at hb'
                simp only [Option.some.injEq] at hb'
                rw [← hb', List.length_cons, List.length_cons, iha cs e3]
          exact this ps qs e
        rw [e2]
        show _ = (match yRm ok R qs (pre ++ [p]) with | some x => some x | none => yfst (fun r => yEn ok R qs.length (pre ++ [r]) r) (R - (p + 1)).toNat (p + 1))
        rw [el]
theorem yEn_none {ok : List Int → Bool} {R : Int} (h : ∀ ps, ok ps = false) : ∀ (k : Nat) (pre : List Int) (a : Int), yEn ok R k pre a = none
  | 0, pre, a => by
    show (if ok pre = true then some pre else none) = none
    rw [h, if_neg (by decide)]
  | k + 1, pre, a => by
    show yfst (fun r => yEn ok R k (pre ++ [r]) r) (R - a).toNat a = none
    generalize (R - a).toNat = j
    induction j generalizing a with
    | zero => rfl
    | succ j ih => exact (yfst_n (f := fun r => yEn ok R k (pre ++ [r]) r) (yEn_none h k _ _)).trans (ih (a + 1))
def ymo (N : zF) (ps : List Int) (m : Int → Int) : Int → Int := ps.foldl (fun m r => yw N r 1 m) m
def yPk (P : Int → Int) (ps : List Int) : Prop := ∀ i : Nat, i < ps.length → P i = ps.getD i 0
def yGd (N : zF) (ps : List Int) : Prop := ∀ r, r ∈ ps → 0 ≤ r ∧ r < N 0 0
theorem ymo_b {N : zF} (hB : yBn N) : ∀ (ps : List Int) (m : Int → Int), yGd N ps → yBm m → yBm (ymo N ps m)
  | [], _, _, hm => hm
  | r :: ps, m, hg, hm => ymo_b hB ps _ (fun q hq => hg q (List.mem_cons_of_mem _ hq)) (yw_b (hg r List.mem_cons_self).1 (by have := (hg r List.mem_cons_self).2; have := hB.2.1; omega) hm)
def yok (N : zF) (G : yG) (x t : Int) (ps : List Int) : Bool := decide (¬ t < yD (N 0 0) (N 1) (N 2) (yHR N G (N 5) (ymo N ps (N 6))) (N 5) (x / 10) (x % 10))
/-! the component -/
abbrev yAl : List Nat × List (Nat × Int) := ([16, 18, 19, 20, 21, 22, 23, 25], [(14, 3)])
theorem c_test_l {d : Nat} (hd : 6 ≤ d) {N : zF} {G : yG} {T s e t many i : Int} {Q : zR → Prop} {σ0 : zF} {mf : Int → Int} (hs : 0 ≤ s ∧ s < 8) (he : 0 ≤ e ∧ e < 8) (hB : yBn N) (hQ : ∀ σ : zF, yX N G T (-1) mf σ → yf yAi σ0 σ → yT (if t < yD (N 0 0) (N 1) (N 2) (yHR N G (N 5) mf) (N 5) s e then (zCI LAY (zx d 55 [.inl (some 24), .inr (.inl many)] σ) fun r103 s102 => if r103 = 0 then zri 0 s102 else P_X6_findThanks_11 d many s e t (zw (i + 1)) s102) else zri 1 σ) Q) : ∀ (rs : List Int) (p : Int) (m : Int → Int) (σ : zF), 0 ≤ p → p + rs.length = many → many ≤ 3 → yGd N rs → (∀ c : Nat, c < rs.length → σ 25 (p + c) = rs.getD c 0) → ymo N rs m = mf → yX N G T (-1) m σ → yf yAi σ0 σ → yT (P_X6_findThanks_29 d many s e t i p σ) Q := by
  intro rs
  induction rs with
  | nil =>
    intro p m σ p0 hp hm hg h25 hmf hX g
    rw [e_X6_findThanks_29]
    refine y_n (by simp at hp; omega) (y_cV (c_meas hd hs hX) (fun s1 hs1 => y_g he ?_))
    have e1 := hs1.1 e he
    rw [yD_w _ hB.1] at e1
    have hmf' : m = mf := hmf
    rw [e1, hmf']
    refine hQ s1 (by rw [← hmf']; exact hs1.2.2.1) (yf_tr g (yf_le hs1.2.2.2 (by decide)))
  | cons r rs ih =>
    intro p m σ p0 hp hm hg h25 hmf hX g
    have hr := hg r List.mem_cons_self
    have e0 := h25 0 (by simp)
    simp only [List.length_cons, Int.natCast_succ] at hp
    have e0' : σ 25 p = r := by
      have : p + ((0 : Nat) : Int) = p := by omega
      rw [this] at e0
      exact e0
    rw [e_X6_findThanks_29, e0', zw_i (x := p + 1) (by omega) (by omega)]
    refine y_g (by omega) (y_g (by omega) (y_cV (c_say (by omega) 1 hX hr.1 hr.2) (fun s1 hs1 => ?_)))
    refine ih (p + 1) _ s1 (by omega) (by omega) hm (fun q hq => hg q (List.mem_cons_of_mem _ hq)) (fun c hc => ?_) hmf hs1.1 (yf_tr g (yf_le hs1.2 (by decide)))
    rw [hs1.2 25 _ rfl]
    have := h25 (c + 1) (by simp; omega)
    rw [show p + 1 + (c : Int) = p + ((c + 1 : Nat) : Int) by omega, this]
    rfl
theorem c_np31 {d : Nat} {σ0 : zF} {many v : Int} (hm : many ≤ 3) : ∀ (j : Nat) (k : Int) (σ : zF), 0 ≤ k → k + j = many → yf ([25], []) σ0 σ → ∃ σ', P_X6_nextPicks_31 d many v k σ = zri 1 σ' ∧ (∀ c, σ' 25 c = if k ≤ c ∧ c < many then v else σ 25 c) ∧ yf ([25], []) σ0 σ' := by
  intro j
  induction j with
  | zero =>
    intro k σ k0 hk f
    rw [e_X6_nextPicks_31, if_neg (by omega)]
    exact ⟨σ, rfl, fun c => by rw [if_neg (by omega)], f⟩
  | succ j ih =>
    intro k σ k0 hk f
    rw [e_X6_nextPicks_31, if_pos (by omega), if_pos (by omega), zw_i (x := k + 1) (by omega) (by omega)]
    obtain ⟨σ', h1, h2, h3⟩ := ih (k + 1) (zset σ 25 k v) (by omega) (by omega) (yf_set f rfl)
    refine ⟨σ', h1, fun c => ?_, h3⟩
    rw [h2 c]
    by_cases e : c = k
    · rw [if_neg (by omega), if_pos (by omega), zset_hit e]
    · rw [zset_off e]
      exact y_cc (by omega)
/-- the next roads: by the last that may rise -/
theorem c_np_l {d : Nat} {N : zF} {many : Int} (hm : many ≤ 3) (hB : yBn N) : ∀ (j : Nat) (p : Int) (σ : zF), p + 1 = j → p < many → σ 1 0 = N 0 0 → (∀ c, 0 ≤ c → c < many → 0 ≤ σ 25 c ∧ σ 25 c < N 0 0) → (∃ k σ', (0 ≤ k ∧ k ≤ p) ∧ σ 25 k + 1 < N 0 0 ∧ (∀ c, k < c → c ≤ p → ¬ σ 25 c + 1 < N 0 0) ∧ P_X6_nextPicks_4 d many p σ = zri 1 σ' ∧ (∀ c, σ' 25 c = if k ≤ c ∧ c < many then σ 25 k + 1 else σ 25 c) ∧ yf ([25], []) σ σ') ∨ ((∀ c, 0 ≤ c → c ≤ p → ¬ σ 25 c + 1 < N 0 0) ∧ P_X6_nextPicks_4 d many p σ = zri 0 σ) := by
  have n1 := hB.2.1
  intro j
  induction j with
  | zero =>
    intro p σ hp hpm hn hb
    right
    refine ⟨fun c a b => by omega, ?_⟩
    rw [e_X6_nextPicks_4, if_pos (by omega)]
  | succ j ih =>
    intro p σ hp hpm hn hb
    have bp := hb p (by omega) hpm
    rw [e_X6_nextPicks_4, if_neg (by omega), if_pos (by omega), zw_i (x := σ 25 p + 1) (by omega) (by omega), hn]
    by_cases q : σ 25 p + 1 < N 0 0
    · left
      rw [if_pos q]
      obtain ⟨σ', h1, h2, h3⟩ := c_np31 (d := d) (σ0 := σ) (v := σ 25 p + 1) hm (many - p).toNat p σ (by omega) (by omega) yf_rf
      exact ⟨p, σ', by omega, q, fun c a b => by omega, h1, h2, h3⟩
    · rw [if_neg q, zw_i (x := p + -1) (by omega) (by omega)]
      rcases ih (p + -1) σ (by omega) (by omega) hn hb with ⟨k, σ', h1, h2, h3, h4, h5, h6⟩ | ⟨h1, h2⟩
      · left
        refine ⟨k, σ', by omega, h2, fun c a b => ?_, h4, h5, h6⟩
        by_cases e : c = p
        · rw [e]; exact q
        · exact h3 c a (by omega)
      · right
        refine ⟨fun c a b => ?_, h2⟩
        by_cases e : c = p
        · rw [e]; exact q
        · exact h1 c a (by omega)
