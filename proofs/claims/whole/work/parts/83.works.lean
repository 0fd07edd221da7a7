/-! codes worked out -/
theorem yst_num {nm : Int → Int} {s : Int} {S S' : List Int} (h : 0 ≤ s) (he : yst nm s S = some S') : S' = s :: S := by
  unfold yst at he
  rw [if_pos h, Option.some.injEq] at he
  exact he.symm
theorem yst_nam {nm : Int → Int} {s : Int} {S S' : List Int} (h : s = -108 ∨ s = -109 ∨ s = -106 ∨ s = -110 ∨ s = -114 ∨ s = -107) (he : yst nm s S = some S') : S' = nm (ytrc s) :: S ∧ 0 ≤ ytrc s ∧ ytrc s < 6 := by
  have e : yst nm s S = some (nm (ytrc s) :: S) ∧ 0 ≤ ytrc s ∧ ytrc s < 6 := by
    rcases h with rfl | rfl | rfl | rfl | rfl | rfl <;> exact ⟨rfl, by decide, by decide⟩
  rw [e.1, Option.some.injEq] at he
  exact ⟨he.symm, e.2⟩
theorem yst_bin {nm : Int → Int} {s : Int} {S S' : List Int} (h : s = -124 ∨ s = -38 ∨ s = -60 ∨ s = -61 ∨ s = -62 ∨ s = -43 ∨ s = -45 ∨ s = -42 ∨ s = -47 ∨ s = -37) (he : yst nm s S = some S') : (∃ y x R, S = y :: x :: R ∧ S' = ybo (ytrc s) x y :: R) ∧ 6 ≤ ytrc s ∧ ytrc s ≤ 15 := by
  refine ⟨?_, ?_, ?_⟩
  · rcases S with _ | ⟨y, _ | ⟨x, R⟩⟩
    · have : yst nm s [] = none := by
        rcases h with rfl | rfl | rfl | rfl | rfl | rfl | rfl | rfl | rfl | rfl <;> rfl
      rw [this] at he
      exact absurd he (by simp)
    · have : yst nm s [y] = none := by
        rcases h with rfl | rfl | rfl | rfl | rfl | rfl | rfl | rfl | rfl | rfl <;> rfl
      rw [this] at he
      exact absurd he (by simp)
    · have : yst nm s (y :: x :: R) = some (ybo (ytrc s) x y :: R) := by
        rcases h with rfl | rfl | rfl | rfl | rfl | rfl | rfl | rfl | rfl | rfl <;> rfl
      rw [this, Option.some.injEq] at he
      exact ⟨y, x, R, rfl, he.symm⟩
  · rcases h with rfl | rfl | rfl | rfl | rfl | rfl | rfl | rfl | rfl | rfl <;> decide
  · rcases h with rfl | rfl | rfl | rfl | rfl | rfl | rfl | rfl | rfl | rfl <;> decide
theorem m_st {d : Nat} (hd : 1 ≤ d) {nm : Int → Int} {y1 y3 s : Int} {S S' : List Int} {σ : zF} (hl : ylg s) (h67 : σ 67 y3 = ytrc s) (hy : 0 ≤ y3 ∧ y3 < y1 ∧ y1 ≤ 200) (hS : (S.length : Int) ≤ y3) (hk : ySk (σ 72) S) (hn : ∀ i, 0 ≤ i → i < 6 → σ 73 i = nm i) (he : yst nm s S = some S') : ∃ t, P_X12_worked_5 d y1 (S.length : Int) y3 σ = P_X12_worked_5 d y1 (S'.length : Int) (y3 + 1) t ∧ (S'.length : Int) ≤ y3 + 1 ∧ ySk (t 72) S' ∧ yf ([72], []) σ t := by
  have sl : (0 : Int) ≤ (S.length : Int) ∧ (S.length : Int) < 200 := by omega
  have push : ∀ v : Int, S' = v :: S → P_X12_worked_5 d y1 ((S.length : Int) + 1) (y3 + 1) (zset σ 72 (S.length : Int) v) = P_X12_worked_5 d y1 (S'.length : Int) (y3 + 1) (zset σ 72 (S.length : Int) v) ∧ (S'.length : Int) ≤ y3 + 1 ∧ ySk ((zset σ 72 (S.length : Int) v) 72) S' ∧ yf ([72], []) σ (zset σ 72 (S.length : Int) v) := fun v e => by
    rw [e, List.length_cons]
    exact ⟨rfl, by omega, ⟨zset_hit rfl, ySk_cg S (fun i i0 i1 => zset_off (by omega)) hk⟩, yf_set yf_rf rfl⟩
  rw [e_X12_worked_5, if_pos hy.2.1, if_pos (by omega), h67, zw_i (x := y3 + 1) (by omega) (by omega), zw_i (x := (S.length : Int) + 1) (by omega) (by omega)]
  rcases hl with hl | hl | hl | hl
  · have e := yst_num hl.1 he
    have t : ytrc s = 18 + s := by unfold ytrc; rw [if_pos hl.1]
    rw [t, if_neg (by omega), if_neg (by omega), if_pos sl, show 18 + s - 18 = s by omega, zw_i (x := s) (by omega) (by omega)]
    exact ⟨_, push s e⟩
  · obtain ⟨e, b0, b1⟩ := yst_nam hl he
    rw [if_pos (show ytrc s < 18 by omega), if_neg (show ¬ (5 : Int) < ytrc s by omega), if_pos (show ytrc s < 18 by omega), if_pos ⟨b0, b1⟩, if_pos sl, hn _ b0 b1]
    exact ⟨_, push _ e⟩
  · rcases S with _ | ⟨y, R⟩
    · rcases hl with rfl | rfl <;> exact absurd he (by simp [yst, ytrc])
    · have k1 := hk.1
      have k2 := hk.2
      rw [List.length_cons] at hS sl
      have rl : (0 : Int) ≤ (R.length : Int) ∧ (R.length : Int) < 200 := by omega
      have un : ∀ v : Int, some (v :: R) = some S' → P_X12_worked_5 d y1 (((y :: R).length : Nat) : Int) (y3 + 1) (zset σ 72 (R.length : Int) v) = P_X12_worked_5 d y1 (S'.length : Int) (y3 + 1) (zset σ 72 (R.length : Int) v) ∧ (S'.length : Int) ≤ y3 + 1 ∧ ySk ((zset σ 72 (R.length : Int) v) 72) S' ∧ yf ([72], []) σ (zset σ 72 (R.length : Int) v) := fun v e => by
        rw [Option.some.injEq] at e
        rw [← e, List.length_cons, List.length_cons]
        exact ⟨rfl, by omega, ⟨zset_hit rfl, ySk_cg R (fun i i0 i1 => zset_off (by omega)) k2⟩, yf_set yf_rf rfl⟩
      have ix : (((y :: R).length : Nat) : Int) - 1 = (R.length : Int) := by rw [List.length_cons]; omega
      rw [ix, zw_i (x := (R.length : Int)) (by omega) (by omega)]
      simp only [if_pos rl]
      rw [k1]
      rcases hl with rfl | rfl
      · have he' : some ((if y = 0 then 1 else 0) :: R) = some S' := he
        rw [show ytrc (-33) = 16 from rfl, if_pos (by decide), if_pos (by decide), if_pos rfl, if_neg (by decide)]
        by_cases q : y = 0
        · rw [if_pos q] at he' ⊢
          exact ⟨_, un 1 he'⟩
        · rw [if_neg q] at he' ⊢
          exact ⟨_, un 0 he'⟩
      · have he' : some (zw (-y) :: R) = some S' := he
        rw [show ytrc (-126) = 17 from rfl, if_pos (by decide), if_pos (by decide), if_neg (by decide), if_pos rfl, if_pos rfl]
        exact ⟨_, un _ he'⟩
  · obtain ⟨⟨y, x, R, rfl, rfl⟩, b0, b1⟩ := yst_bin hl he
    have k1 := hk.1
    have k2 := hk.2.1
    have k3 := hk.2.2
    rw [List.length_cons] at k1
    have ln : (((y :: x :: R).length : Nat) : Int) = (R.length : Int) + 2 := by rw [List.length_cons, List.length_cons]; omega
    rw [ln] at hS sl
    rw [if_pos (show ytrc s < 18 by omega), if_pos (show (5 : Int) < ytrc s by omega), if_neg (show ¬ ytrc s = 16 by omega), if_neg (show ¬ ytrc s = 17 by omega), ln, show (R.length : Int) + 2 + -1 = (R.length : Int) + 1 by omega, zw_i (x := (R.length : Int) + 1) (by omega) (by omega), show (R.length : Int) + 1 - 1 = (R.length : Int) by omega, zw_i (x := (R.length : Int)) (by omega) (by omega), if_pos (by omega), if_pos (by omega), m_both hd, zCI_ri, if_pos (by omega), k2, show (R.length : Int) + 1 = ((R.length + 1 : Nat) : Int) by omega, k1]
    refine ⟨_, by rw [List.length_cons], by rw [List.length_cons]; omega, ⟨zset_hit rfl, ySk_cg R (fun i i0 i1 => zset_off (by omega)) k3⟩, yf_set yf_rf rfl⟩
theorem c_runc {d : Nat} (hd : 1 ≤ d) {l m j n r k : Int} : ∀ (e S S' : List Int) (y7 : Int) (σ : zF), (∀ s ∈ e, ylg s) → yev (yNc l m j n r k) e S = some S' → yAtl (σ 15) y7 e → 0 ≤ y7 → y7 + e.length ≤ σ 14 1 → σ 14 1 ≤ 121 → σ 14 3 = S.length → (S.length : Int) ≤ y7 → ySk (σ 16) S → ∃ t, P_X2_work_19 d l m j n r k y7 σ = P_X2_work_19 d l m j n r k (y7 + e.length) t ∧ t 14 3 = S'.length ∧ (S'.length : Int) ≤ y7 + e.length ∧ ySk (t 16) S' ∧ yf yAev σ t := by
  intro e
  induction e with
  | nil =>
    intro S S' y7 σ hl he ha y0 y1 y2 hn hS hk
    simp only [yev, Option.some.injEq] at he
    subst he
    exact ⟨σ, by simp, hn, by simp; exact hS, hk, yf_rf⟩
  | cons s e ih =>
    intro S S' y7 σ hl he ha y0 y1 y2 hn hS hk
    rw [List.length_cons] at y1
    rcases q : yst (yNc l m j n r k) s S with _ | S1
    · simp only [yev, q] at he
      exact absurd he (by simp)
    · simp only [yev, q] at he
      obtain ⟨t, e1, t1, t2, t3, t4⟩ := c_st hd (hl s List.mem_cons_self) ha.1 ⟨y0, by omega, y2⟩ hn hS hk q
      have a1 : t 14 1 = σ 14 1 := t4 14 1 rfl
      obtain ⟨u, e2, u1, u2, u3, u4⟩ := ih S1 S' (y7 + 1) t (fun s' hs => hl s' (List.mem_cons_of_mem _ hs)) he (yAt_cg e _ (fun i _ _ => t4 15 i rfl) ha.2) (by omega) (by omega) (by omega) t1 t2 t3
      refine ⟨u, ?_, u1, by rw [List.length_cons]; omega, u3, yf_tr t4 u4⟩
      rw [e1, e2, List.length_cons, show y7 + 1 + (e.length : Int) = y7 + ((e.length + 1 : Nat) : Int) by omega]
theorem m_runc {d : Nat} (hd : 1 ≤ d) {nm : Int → Int} {y1 : Int} (hy : y1 ≤ 200) : ∀ (e S S' : List Int) (y3 : Int) (σ : zF), (∀ s ∈ e, ylg s) → yev nm e S = some S' → yAtl (σ 67) y3 (e.map ytrc) → 0 ≤ y3 → y3 + e.length ≤ y1 → (S.length : Int) ≤ y3 → ySk (σ 72) S → (∀ i, 0 ≤ i → i < 6 → σ 73 i = nm i) → ∃ t, P_X12_worked_5 d y1 (S.length : Int) y3 σ = P_X12_worked_5 d y1 (S'.length : Int) (y3 + e.length) t ∧ (S'.length : Int) ≤ y3 + e.length ∧ ySk (t 72) S' ∧ yf ([72], []) σ t := by
  intro e
  induction e with
  | nil =>
    intro S S' y3 σ hl he ha y0 y1' hS hk hn
    simp only [yev, Option.some.injEq] at he
    subst he
    exact ⟨σ, by simp, by simp; exact hS, hk, yf_rf⟩
  | cons s e ih =>
    intro S S' y3 σ hl he ha y0 y1' hS hk hn
    rw [List.length_cons] at y1'
    rcases q : yst nm s S with _ | S1
    · simp only [yev, q] at he
      exact absurd he (by simp)
    · simp only [yev, q] at he
      obtain ⟨t, e1, t2, t3, t4⟩ := m_st hd (hl s List.mem_cons_self) ha.1 ⟨y0, by omega, hy⟩ hS hk hn q
      obtain ⟨u, e2, u2, u3, u4⟩ := ih S1 S' (y3 + 1) t (fun s' hs => hl s' (List.mem_cons_of_mem _ hs)) he (yAt_cg _ _ (fun i _ _ => t4 67 i rfl) ha.2) (by omega) (by omega) t2 t3 (fun i i0 i1 => (t4 73 i rfl).trans (hn i i0 i1))
      refine ⟨u, ?_, by rw [List.length_cons]; omega, u3, yf_tr t4 u4⟩
      rw [e1, e2, List.length_cons, show y3 + 1 + (e.length : Int) = y3 + ((e.length + 1 : Nat) : Int) by omega]
/-! lines worked out -/
def ytop (nm : Int → Int) (e : List Int) : Int := match yev nm e [] with
  | some (v :: _) => v
  | _ => 0
theorem ytop_g {e : List Int} (h : yGde e) (nm : Int → Int) : yev nm e [] = some [ytop nm e] := by
  obtain ⟨v, hv⟩ := h.2 nm []
  unfold ytop
  rw [hv]
def yvl (nm : Int → Int) : List yLn → Int
  | [] => 0
  | (none, s) :: _ => ytop nm s
  | (some a, s) :: ls => if ytop nm a = 0 then yvl nm ls else ytop nm s
theorem c_end {d : Nat} {σ : zF} : ∀ (e : List Int) (i : Int), (∀ s ∈ e, ¬ s = -59) → yAtl (σ 15) i (e ++ [-59]) → 0 ≤ i → i + e.length < σ 14 1 → σ 14 1 ≤ 121 → P_X2_endOfLine_2 d i σ = zri (i + e.length) σ
  | [], i, _, ha, i0, i1, i2 => by
    have a : σ 15 i = -59 := ha.1
    simp at i1
    rw [e_X2_endOfLine_2, if_pos i1, if_pos (by omega), if_pos a]
    simp
  | s :: e, i, hs, ha, i0, i1, i2 => by
    rw [List.length_cons] at i1
    have a : σ 15 i = s := ha.1
    rw [e_X2_endOfLine_2, if_pos (by omega), if_pos (by omega), if_neg (by rw [a]; exact hs s List.mem_cons_self), zw_i (x := i + 1) (by omega) (by omega), c_end e (i + 1) (fun s' h' => hs s' (List.mem_cons_of_mem _ h')) ha.2 (by omega) (by omega) i2, List.length_cons, show i + 1 + (e.length : Int) = i + ((e.length + 1 : Nat) : Int) by omega]
theorem ylg_59 {s : Int} (h : ylg s) : ¬ s = -59 := by unfold ylg at h; omega
/-- a value, and the line ends -/
theorem c_ret {d : Nat} (hd : 1 ≤ d) {l m j n r k y7 : Int} {s : List Int} {σ σ0 : zF} (hs : yGde s) (ha : yAtl (σ 15) y7 (s ++ [-59])) (h0 : 0 ≤ y7) (h1 : y7 + s.length < σ 14 1) (h2 : σ 14 1 ≤ 121) (hn : σ 14 3 = 0) (f : yf yAev σ0 σ) : yT (P_X2_work_19 d l m j n r k y7 σ) (yI fun v t => v = ytop (yNc l m j n r k) s ∧ yf yAev σ0 t) := by
  rw [yAt_app] at ha
  obtain ⟨t, e1, t1, t2, t3, t4⟩ := c_runc hd (l := l) (m := m) (j := j) (n := n) (r := r) (k := k) s [] _ y7 σ hs.1 (ytop_g hs _) ha.1 h0 (by omega) h2 hn (by simp; omega) trivial
  have a1 : t 14 1 = σ 14 1 := t4 14 1 rfl
  have a2 : t 15 (y7 + s.length) = -59 := (t4 15 _ rfl).trans ha.2.1
  rw [e1, e_X2_work_19, if_pos (by omega), if_pos (by omega), a2, if_neg (show ¬ zw (-(-59 : Int)) = 33 by decide), if_pos (show zw (-(-59 : Int)) = 59 by decide), c_pop hd t1 (by simp), zCI_ri]
  refine y_i ⟨?_, yf_set (yf_tr f t4) rfl⟩
  exact t3.1
theorem c_work {d : Nat} (hd : 2 ≤ d) {l m j n r k : Int} {σ0 : zF} : ∀ (ls : List yLn) (y7 : Int) (σ : zF), (∀ q ∈ ls, yGl q) → yAtl (σ 15) y7 (ycs ls) → 0 ≤ y7 → y7 + (ycs ls).length = σ 14 1 → σ 14 1 ≤ 121 → σ 14 3 = 0 → yf yAev σ0 σ → yT (P_X2_work_19 d l m j n r k y7 σ) (yI fun v t => v = yvl (yNc l m j n r k) ls ∧ yf yAev σ0 t)
  | [], y7, σ, hg, ha, h0, h1, h2, h3, f => by
    simp [ycs] at h1
    rw [e_X2_work_19, if_neg (by omega)]
    exact y_i ⟨rfl, f⟩
  | (none, s) :: ls, y7, σ, hg, ha, h0, h1, h2, h3, f => by
    have g := hg _ List.mem_cons_self
    have e : ycs ((none, s) :: ls) = s ++ [-59] ++ ycs ls := rfl
    rw [e, yAt_app] at ha
    rw [e] at h1
    simp only [List.length_append, List.length_cons, List.length_nil] at h1
    exact c_ret (by omega) g.2 ha.1 h0 (by omega) h2 h3 f
  | (some a, s) :: ls, y7, σ, hg, ha, h0, h1, h2, h3, f => by
    have g := hg _ List.mem_cons_self
    have ga := g.1 a rfl
    have e : ycs ((some a, s) :: ls) = a ++ ([-63] ++ (s ++ [-59]) ++ ycs ls) := by
      show a ++ [-63] ++ s ++ [-59] ++ ycs ls = _
      simp only [List.append_assoc]
    rw [e, yAt_app, yAt_app] at ha
    rw [e] at h1
    simp only [List.length_append, List.length_cons, List.length_nil] at h1
    obtain ⟨ha1, ha2, ha3⟩ := ha
    simp only [List.length_append, List.length_cons, List.length_nil] at ha3
    obtain ⟨t, e1, t1, t2, t3, t4⟩ := c_runc (d := d) (by omega) (l := l) (m := m) (j := j) (n := n) (r := r) (k := k) a [] _ y7 σ ga.1 (ytop_g ga _) ha1 h0 (by omega) h2 h3 (by simp; omega) trivial
    have a1 : t 14 1 = σ 14 1 := t4 14 1 rfl
    have a2 : t 15 (y7 + a.length) = -63 := (t4 15 _ rfl).trans ha2.1
    have ft := yf_tr f t4
    rw [e1, e_X2_work_19, if_pos (by omega), if_pos (by omega), a2, if_neg (show ¬ zw (-(-63 : Int)) = 33 by decide), if_neg (show ¬ zw (-(-63 : Int)) = 59 by decide), if_pos (show zw (-(-63 : Int)) = 63 by decide), c_pop (by omega) t1 (by simp), zCI_ri]
    have t16 : t 16 (((([ytop (yNc l m j n r k) a] : List Int).length : Nat) : Int) - 1) = ytop (yNc l m j n r k) a := t3.1
    have t143 : (zset t 14 3 (((([ytop (yNc l m j n r k) a] : List Int).length : Nat) : Int) - 1)) 14 3 = 0 := zset_hit rfl
    have fu : yf yAev σ0 (zset t 14 3 (((([ytop (yNc l m j n r k) a] : List Int).length : Nat) : Int) - 1)) := yf_set ft rfl
    have u15 : (zset t 14 3 (((([ytop (yNc l m j n r k) a] : List Int).length : Nat) : Int) - 1)) 15 = σ 15 := funext fun i => (zset_k (by decide)).trans (t4 15 i rfl)
    have u141 : (zset t 14 3 (((([ytop (yNc l m j n r k) a] : List Int).length : Nat) : Int) - 1)) 14 1 = σ 14 1 := (zset_off (by decide)).trans a1
    rw [t16]
    generalize zset t 14 3 (((([ytop (yNc l m j n r k) a] : List Int).length : Nat) : Int) - 1) = u at t143 fu u15 u141
    unfold yvl
    by_cases z : ytop (yNc l m j n r k) a = 0
    · rw [if_pos z, if_pos z]
      obtain ⟨d, rfl, hd'⟩ := y_d (k := 1) (d := d) (by omega)
      rw [e_X2_endOfLine, c_end (-63 :: s) (y7 + a.length) (fun s' hs => ?_) (by rw [u15]; exact ha2) (by omega) (by rw [u141, List.length_cons]; omega) (by omega), zCI_ri, List.length_cons, zw_i (by omega) (by omega)]
      · refine c_work (by omega) ls _ u (fun q hq => hg q (List.mem_cons_of_mem _ hq)) ?_ (by omega) (by rw [u141]; omega) (by omega) t143 fu
        rw [u15, show y7 + (a.length : Int) + ((s.length + 1 : Nat) : Int) + 1 = y7 + (a.length : Int) + ((0 + 1 + (s.length + (0 + 1)) : Nat) : Int) by omega]
        exact ha3
      · rcases List.mem_cons.mp hs with x | x
        · rw [x]; decide
        · exact ylg_59 (g.2.1 s' x)
    · rw [if_neg z, if_neg z, zw_i (by omega) (by omega)]
      exact c_ret (by omega) g.2 (by rw [u15]; exact ha2.2) (by omega) (by omega) (by omega) t143 fu
theorem m_worked {d : Nat} (hd : 2 ≤ d) {nm : Int → Int} {a b : Int} {e : List Int} {σ : zF} (he : yGde e) (h : yAtl (σ 67) a (e.map ytrc)) (ha : 0 ≤ a) (hb : b = a + e.length) (hb2 : b ≤ 200) (hn : ∀ i, 0 ≤ i → i < 6 → σ 73 i = nm i) : yT (zx d 187 [.inl (some 57), .inr (.inl a), .inr (.inl b)] σ) (yI fun v s => v = ytop nm e ∧ yf ([72], []) σ s) := by
  obtain ⟨d, rfl, hd'⟩ := y_d hd
  obtain ⟨t, e1, t2, t3, t4⟩ := m_runc hd' hb2 e [] _ a σ he.1 (ytop_g he nm) h ha (by omega) (by simp; omega) trivial hn
  rw [e_X12_worked, show (0 : Int) = ((([] : List Int).length : Nat) : Int) from rfl, e1, e_X12_worked_5, if_neg (by omega), if_pos (by decide)]
  exact y_i ⟨t3.1, t4⟩
theorem m_byl {d : Nat} (hd : 2 ≤ d) {nm : Int → Int} {σ0 : zF} : ∀ (ls : List yLn) (i k : Int) (σ : zF), (∀ q ∈ ls, yGl q) → yLb (σ 64) (σ 65) (σ 66) i k ls → yAtl (σ 67) k ((ykc ls).map ytrc) → 0 ≤ i → 0 ≤ k → σ 57 10 = i + ls.length → σ 57 10 ≤ 60 → k + (ykc ls).length ≤ 200 → (∀ i, 0 ≤ i → i < 6 → σ 73 i = nm i) → yf ([72], []) σ0 σ → yT (P_X12_byLaw_103 d i σ) (yI fun v s => v = yvl nm ls ∧ yf ([72], []) σ0 s)
  | [], i, k, σ, hg, hb, ha, i0, k0, h1, h2, h3, hn, f => by
    simp at h1
    rw [e_X12_byLaw_103, if_neg (by omega)]
    exact y_i ⟨rfl, f⟩
  | (none, s) :: ls, i, k, σ, hg, hb, ha, i0, k0, h1, h2, h3, hn, f => by
    have g := hg _ List.mem_cons_self
    obtain ⟨b1, b2, b3, b4⟩ := hb
    rw [List.length_cons] at h1
    have e : ykc ((none, s) :: ls) = s ++ ykc ls := rfl
    rw [e, List.map_append, yAt_app] at ha
    rw [e, List.length_append] at h3
    have b2' : σ 65 i = k := by rw [b2]; show k + 0 = k; omega
    have b3' : σ 66 i = k + s.length := b3
    have ii : 0 ≤ i ∧ i < 60 := by omega
    rw [e_X12_byLaw_103, if_pos (by omega), if_pos ii, if_pos ii, if_neg (by omega), if_pos ii, if_pos ii, b2', b3']
    exact y_cI (m_worked hd (nm := nm) g.2 ha.1 k0 rfl (by omega) hn) (fun v t ht => y_i ⟨ht.1, yf_tr f ht.2⟩)
  | (some a, s) :: ls, i, k, σ, hg, hb, ha, i0, k0, h1, h2, h3, hn, f => by
    have g := hg _ List.mem_cons_self
    have ga := g.1 a rfl
    have na := yGd_ne ga
    obtain ⟨b1, b2, b3, b4⟩ := hb
    rw [List.length_cons] at h1
    have e : ykc ((some a, s) :: ls) = a ++ (s ++ ykc ls) := List.append_assoc a s (ykc ls)
    rw [e, List.map_append, List.map_append, yAt_app, yAt_app, List.length_map, List.length_map] at ha
    rw [e, List.length_append, List.length_append] at h3
    have b2' : σ 65 i = k + a.length := b2
    have b3' : σ 66 i = k + a.length + s.length := by rw [b3]; show k + ((a ++ s).length : Int) = _; rw [List.length_append]; omega
    have b4' : yLb (σ 64) (σ 65) (σ 66) (i + 1) (k + a.length + s.length) ls := by
      have : k + ((yk1 (some a, s)).length : Int) = k + a.length + s.length := by show k + ((a ++ s).length : Int) = _; rw [List.length_append]; omega
      rw [this] at b4
      exact b4
    have ii : 0 ≤ i ∧ i < 60 := by omega
    rw [e_X12_byLaw_103, if_pos (by omega), if_pos ii, if_pos ii, if_pos (by omega), if_pos ii, if_pos ii, b1, b2']
    refine y_cI (m_worked hd (nm := nm) ga ha.1 k0 rfl (by omega) hn) (fun v t ht => ?_)
    obtain ⟨rfl, t1⟩ := ht
    have ft := yf_tr f t1
    unfold yvl
    by_cases z : ytop nm a = 0
    · rw [if_pos z, if_pos z, zw_i (x := i + 1) (by omega) (by omega)]
      have r64 : t 64 = σ 64 := funext fun q => t1 64 q rfl
      have r65 : t 65 = σ 65 := funext fun q => t1 65 q rfl
      have r66 : t 66 = σ 66 := funext fun q => t1 66 q rfl
      have r67 : t 67 = σ 67 := funext fun q => t1 67 q rfl
      have r10 : t 57 10 = σ 57 10 := t1 57 10 rfl
      refine m_byl hd ls (i + 1) (k + a.length + s.length) t (fun q hq => hg q (List.mem_cons_of_mem _ hq)) ?_ ?_ (by omega) (by omega) (by omega) (by omega) (by omega) (fun q q0 q1 => (t1 73 q rfl).trans (hn q q0 q1)) ft
      · rw [r64, r65, r66]; exact b4'
      · rw [r67]; exact ha.2.2
    · rw [if_neg z, if_neg z, if_pos ii, if_pos ii, t1 65 i rfl, t1 66 i rfl, b2', b3']
      refine y_cI (m_worked hd (nm := nm) g.2 (yAt_cg _ _ (fun q _ _ => t1 67 q rfl) ha.2.1) (by omega) rfl (by omega) (fun q q0 q1 => (t1 73 q rfl).trans (hn q q0 q1))) (fun v u hu => y_i ⟨hu.1, yf_tr ft hu.2⟩)
