/-! the model reads lines and texts -/
def yk1 : yLn → List Int
  | (none, s) => s
  | (some a, s) => a ++ s
def ykc : List yLn → List Int
  | [] => []
  | l :: ls => yk1 l ++ ykc ls
def yal : yLn → Int
  | (none, _) => 0
  | (some a, _) => a.length
def yLb (A S E : Int → Int) : Int → Int → List yLn → Prop
  | _, _, [] => True
  | i, k, l :: ls => A i = k ∧ S i = k + yal l ∧ E i = k + (yk1 l).length ∧ yLb A S E (i + 1) (k + (yk1 l).length) ls
theorem ykc_app : ∀ (ls : List yLn) (l : yLn), ykc (ls ++ [l]) = ykc ls ++ yk1 l
  | [], l => by simp [ykc]
  | x :: ls, l => by
    show yk1 x ++ ykc (ls ++ [l]) = yk1 x ++ ykc ls ++ yk1 l
    rw [ykc_app ls l, List.append_assoc]
theorem yLb_app {A S E : Int → Int} : ∀ (ls : List yLn) (l : yLn) (i k : Int), yLb A S E i k (ls ++ [l]) ↔ yLb A S E i k ls ∧ A (i + ls.length) = k + (ykc ls).length ∧ S (i + ls.length) = k + (ykc ls).length + yal l ∧ E (i + ls.length) = k + (ykc ls).length + (yk1 l).length
  | [], l, i, k => by simp [yLb, ykc]
  | x :: ls, l, i, k => by
    have := yLb_app (A := A) (S := S) (E := E) ls l (i + 1) (k + (yk1 x).length)
    simp only [List.cons_append, yLb, ykc, List.length_cons, List.length_append]
    rw [this, show i + 1 + (ls.length : Int) = i + ((ls.length + 1 : Nat) : Int) by omega, show k + ((yk1 x).length : Int) + ((ykc ls).length : Int) = k + (((yk1 x).length + (ykc ls).length : Nat) : Int) by omega, and_assoc, and_assoc, and_assoc]
theorem yLb_cg {A S E A' S' E' : Int → Int} : ∀ (ls : List yLn) (i k : Int), (∀ j, i ≤ j → j < i + ls.length → A' j = A j ∧ S' j = S j ∧ E' j = E j) → yLb A S E i k ls → yLb A' S' E' i k ls
  | [], _, _, _, _ => trivial
  | l :: ls, i, k, h, g => by
    rw [List.length_cons] at h
    obtain ⟨a1, a2, a3⟩ := h i (Int.le_refl _) (by omega)
    exact ⟨a1.trans g.1, a2.trans g.2.1, a3.trans g.2.2.1, yLb_cg ls (i + 1) _ (fun j a b => h j (by omega) (by omega)) g.2.2.2⟩
abbrev yAml : List Nat × List (Nat × Int) := ([68, 69, 70, 71], [(57, 15), (57, 16), (57, 17), (57, 18)])
def yMt (T : Int → Int) (L p : Int) (ls : List yLn) (σ : zF) : Prop := yMd T L p 0 (ykc ls) σ ∧ σ 57 18 = ls.length ∧ yLb (σ 68) (σ 69) (σ 70) 0 0 ls
theorem yMd_g {T : Int → Int} {L p o : Int} {c : List Int} {σ s : zF} (f : yf ([68, 69, 70], [(57, 18)]) σ s) (h : yMd T L p o c σ) : yMd T L p o c s := by
  obtain ⟨h1, h2, h3, h4, h5, h6⟩ := h
  refine ⟨(f 57 7 rfl).trans h1, (f 57 15 rfl).trans h2, (f 57 16 rfl).trans h3, (f 57 17 rfl).trans h4, yAt_cg _ 0 (fun i _ _ => f 71 i rfl) h5, fun i i0 i1 => (f 63 i rfl).trans (h6 i i0 i1)⟩
theorem m_line {d : Nat} (hd : 50 ≤ d) {T : Int → Int} {L p : Int} {ls : List yLn} {σ : zF} (hL : 0 ≤ L ∧ L ≤ 120) (h0 : 0 ≤ p) (h1 : p ≤ L) (hc : ((ykc ls).length : Int) ≤ p) (hn : 2 * (ls.length : Int) ≤ p) (h : yMt T L p ls σ) : yT (zx d 184 [.inl (some 57)] σ) (yI fun v s => ((yln T L p).1 = true → v = 1 ∧ yMt T L (yln T L p).2.1 (ls ++ [(yln T L p).2.2]) s) ∧ (¬ (yln T L p).1 = true → v = 0 ∧ s 57 15 = (yln T L p).2.1) ∧ yf yAml σ s) := by
  obtain ⟨d, rfl, hd'⟩ := y_d (k := 49) (d := d) (by omega)
  obtain ⟨g1, g2, g3⟩ := h
  have pz : ∀ (q : Int) (c' : List Int) (σ' : zF), 0 ≤ q → q ≤ L → (c'.length : Int) ≤ q → yMd T L q 0 c' σ' → yT (zx d 183 [.inl (some 57)] σ') (yI (yMo T L 0 c' (ypz T L 42 0 0 q) σ')) := fun q c' σ' q0 q1 qc hq => m_pz hL 42 0 0 q c' d σ' (by omega) (by omega) (by omega) (by omega) (by omega) q0 q1 qc hq
  have k := ypz_k (T := T) (L := L) 42 0 0 p h0 h1
  have ln : (0 : Int) ≤ (ls.length : Int) ∧ (ls.length : Int) < 61 := by omega
  have fa : yf ([68, 69, 70], [(57, 18)]) σ (zset σ 68 (ls.length : Int) ((ykc ls).length : Int)) := yf_set yf_rf rfl
  rw [e_X12_isLine, g2, g1.2.2.2.1, if_pos ln]
  refine y_cI (pz p (ykc ls) _ h0 h1 hc (yMd_g fa g1)) (fun v t ht => ?_)
  obtain ⟨t1, t2, t3⟩ := ht
  have ft : yf yAml σ t := yf_tr (yf_le fa (by decide)) (yf_le t3 (by decide))
  have t18 : t 57 18 = ls.length := (t3 57 18 rfl).trans ((zset_k (by decide)).trans g2)
  have t68 : ∀ i, t 68 i = if i = (ls.length : Int) then ((ykc ls).length : Int) else σ 68 i := fun i => by
    rw [t3 68 i rfl]
    by_cases e : i = (ls.length : Int)
    · rw [zset_hit e, if_pos e]
    · rw [zset_off e, if_neg e]
  have t69 : ∀ i, t 69 i = σ 69 i := fun i => (t3 69 i rfl).trans (zset_k (by decide))
  have t70 : ∀ i, t 70 i = σ 70 i := fun i => (t3 70 i rfl).trans (zset_k (by decide))
  unfold yln
  by_cases z : (ypz T L 42 0 0 p).1 = true
  · obtain ⟨a4, a5⟩ := k.2.2 z
    obtain ⟨rfl, tz⟩ := t1 z
    have k1 := k.1
    have k2 := k.2.1
    rw [if_pos z, if_neg (by decide), t18, if_pos ln, if_pos ln, t68, if_pos rfl]
    -- the line's beginning stands
    have fb : yf ([68, 69, 70], [(57, 18)]) t (zset t 69 (ls.length : Int) ((ykc ls).length : Int)) := yf_set yf_rf rfl
    have b69 : ∀ i, (zset t 69 (ls.length : Int) ((ykc ls).length : Int)) 69 i = if i = (ls.length : Int) then ((ykc ls).length : Int) else σ 69 i := fun i => by
      by_cases e : i = (ls.length : Int)
      · rw [zset_hit e, if_pos e]
      · rw [zset_off e, if_neg e, t69]
    have b68 : ∀ i, (zset t 69 (ls.length : Int) ((ykc ls).length : Int)) 68 i = t 68 i := fun i => zset_k (by decide)
    have b70 : ∀ i, (zset t 69 (ls.length : Int) ((ykc ls).length : Int)) 70 i = t 70 i := fun i => zset_k (by decide)
    have b18 : (zset t 69 (ls.length : Int) ((ykc ls).length : Int)) 57 18 = ls.length := (zset_k (by decide)).trans t18
    have bz := yMd_g fb tz
    have fbb : yf yAml σ (zset t 69 (ls.length : Int) ((ykc ls).length : Int)) := yf_set ft rfl
    generalize zset t 69 (ls.length : Int) ((ykc ls).length : Int) = b at fb b69 b68 b70 b18 bz fbb
    rw [m_is (by omega) hL.2 (by omega) k2 bz]
    by_cases q : ynxt T L (ypz T L 42 0 0 p).2.1 = 63
    · have lt := ynx_lt (T := T) (L := L) (p := (ypz T L 42 0 0 p).2.1) (by omega)
      have bz2 := yMd_at (q := (ypz T L 42 0 0 p).2.1 + 1) bz
      have e18 : (zset b 57 15 ((ypz T L 42 0 0 p).2.1 + 1)) 57 18 = ls.length := (zset_off (by decide)).trans b18
      rw [if_pos q, if_pos q, zCI_ri, if_neg (by decide), e18, if_pos ln, bz2.2.2.2.1]
      have fc : yf ([68, 69, 70], [(57, 18)]) (zset b 57 15 ((ypz T L 42 0 0 p).2.1 + 1)) (zset (zset b 57 15 ((ypz T L 42 0 0 p).2.1 + 1)) 69 (ls.length : Int) ((ykc ls ++ (ypz T L 42 0 0 p).2.2).length : Int)) := yf_set yf_rf rfl
      have c69 : ∀ i, (zset (zset b 57 15 ((ypz T L 42 0 0 p).2.1 + 1)) 69 (ls.length : Int) ((ykc ls ++ (ypz T L 42 0 0 p).2.2).length : Int)) 69 i = if i = (ls.length : Int) then ((ykc ls ++ (ypz T L 42 0 0 p).2.2).length : Int) else σ 69 i := fun i => by
        by_cases e : i = (ls.length : Int)
        · rw [zset_hit e, if_pos e]
        · rw [zset_off e, if_neg e, zset_k (by decide), b69, if_neg e]
      have c68 : ∀ i, (zset (zset b 57 15 ((ypz T L 42 0 0 p).2.1 + 1)) 69 (ls.length : Int) ((ykc ls ++ (ypz T L 42 0 0 p).2.2).length : Int)) 68 i = t 68 i := fun i => ((zset_k (by decide)).trans (zset_k (by decide))).trans (b68 i)
      have c70 : ∀ i, (zset (zset b 57 15 ((ypz T L 42 0 0 p).2.1 + 1)) 69 (ls.length : Int) ((ykc ls ++ (ypz T L 42 0 0 p).2.2).length : Int)) 70 i = t 70 i := fun i => ((zset_k (by decide)).trans (zset_k (by decide))).trans (b70 i)
      have c18 : (zset (zset b 57 15 ((ypz T L 42 0 0 p).2.1 + 1)) 69 (ls.length : Int) ((ykc ls ++ (ypz T L 42 0 0 p).2.2).length : Int)) 57 18 = ls.length := (zset_k (by decide)).trans e18
      have cz := yMd_g fc bz2
      have fcc : yf yAml σ (zset (zset b 57 15 ((ypz T L 42 0 0 p).2.1 + 1)) 69 (ls.length : Int) ((ykc ls ++ (ypz T L 42 0 0 p).2.2).length : Int)) := yf_set (yf_set fbb rfl) rfl
      generalize zset (zset b 57 15 ((ypz T L 42 0 0 p).2.1 + 1)) 69 (ls.length : Int) ((ykc ls ++ (ypz T L 42 0 0 p).2.2).length : Int) = e at fc c69 c68 c70 c18 cz fcc
      have kk := ypz_k (T := T) (L := L) 42 0 0 ((ypz T L 42 0 0 p).2.1 + 1) (by omega) (by omega)
      refine y_cI (pz ((ypz T L 42 0 0 p).2.1 + 1) _ e (by omega) (by omega) (by rw [List.length_append]; omega) cz) (fun w u hu => ?_)
      obtain ⟨u1, u2, u3⟩ := hu
      have fu : yf yAml σ u := yf_tr fcc (yf_le u3 (by decide))
      by_cases z2 : (ypz T L 42 0 0 ((ypz T L 42 0 0 p).2.1 + 1)).1 = true
      · obtain ⟨rfl, uz⟩ := u1 z2
        have u18 : u 57 18 = ls.length := (u3 57 18 rfl).trans c18
        rw [if_neg (by decide), u18, if_pos ln, uz.2.2.2.1, zw_i (x := (ls.length : Int) + 1) (by omega) (by omega)]
        have fv : yf ([68, 69, 70], [(57, 18)]) u (zset (zset u 57 18 ((ls.length : Int) + 1)) 70 (ls.length : Int) ((ykc ls ++ (ypz T L 42 0 0 p).2.2 ++ (ypz T L 42 0 0 ((ypz T L 42 0 0 p).2.1 + 1)).2.2).length : Int)) := yf_set (yf_set yf_rf rfl) rfl
        have vz := yMd_g fv uz
        refine y_i ⟨fun _ => ⟨rfl, ?_, ?_, ?_⟩, fun w => absurd z2 w, yf_set (yf_set fu rfl) rfl⟩
        · rw [ykc_app]
          rw [List.append_assoc] at vz
          exact vz
        · rw [zset_k (by decide), zset_hit rfl, List.length_append]; rfl
        · rw [yLb_app]
          refine ⟨yLb_cg ls 0 0 (fun j j0 j1 => ⟨?_, ?_, ?_⟩) g3, ?_, ?_, ?_⟩
          · rw [zset_k (by decide), zset_k (by decide), u3 68 j rfl, c68, t68, if_neg (by omega)]
          · rw [zset_k (by decide), zset_k (by decide), u3 69 j rfl, c69, if_neg (by omega)]
          · rw [zset_off (by omega), zset_k (by decide), u3 70 j rfl, c70, t70]
          · rw [zset_k (by decide), zset_k (by decide), u3 68 _ rfl, c68, t68, if_pos (by omega), Int.zero_add]
          · rw [zset_k (by decide), zset_k (by decide), u3 69 _ rfl, c69, if_pos (by omega), List.length_append]
            show _ = 0 + ((ykc ls).length : Int) + ((ypz T L 42 0 0 p).2.2.length : Int)
            omega
          · rw [zset_hit (by omega), List.length_append, List.length_append]
            show _ = 0 + ((ykc ls).length : Int) + (((ypz T L 42 0 0 p).2.2 ++ (ypz T L 42 0 0 ((ypz T L 42 0 0 p).2.1 + 1)).2.2).length : Int)
            rw [List.length_append]
            omega
      · obtain ⟨rfl, uz⟩ := u2 z2
        rw [if_pos rfl]
        exact y_i ⟨fun w => absurd w z2, fun _ => ⟨rfl, uz⟩, fu⟩
    · rw [if_neg q, if_neg q, zCI_ri, if_pos rfl, b18, if_pos ln, bz.2.2.2.1, zw_i (x := (ls.length : Int) + 1) (by omega) (by omega)]
      have fv : yf ([68, 69, 70], [(57, 18)]) b (zset (zset b 57 18 ((ls.length : Int) + 1)) 70 (ls.length : Int) ((ykc ls ++ (ypz T L 42 0 0 p).2.2).length : Int)) := yf_set (yf_set yf_rf rfl) rfl
      have vz := yMd_g fv bz
      refine y_i ⟨fun _ => ⟨rfl, ?_, ?_, ?_⟩, fun w => absurd rfl w, yf_set (yf_set fbb rfl) rfl⟩
      · rw [ykc_app]
        exact vz
      · rw [zset_k (by decide), zset_hit rfl, List.length_append]; rfl
      · rw [yLb_app]
        refine ⟨yLb_cg ls 0 0 (fun j j0 j1 => ⟨?_, ?_, ?_⟩) g3, ?_, ?_, ?_⟩
        · rw [zset_k (by decide), zset_k (by decide), b68, t68, if_neg (by omega)]
        · rw [zset_k (by decide), zset_k (by decide), b69, if_neg (by omega)]
        · rw [zset_off (by omega), zset_k (by decide), b70, t70]
        · rw [zset_k (by decide), zset_k (by decide), b68, t68, if_pos (by omega), Int.zero_add]
        · rw [zset_k (by decide), zset_k (by decide), b69, if_pos (by omega)]
          show _ = 0 + ((ykc ls).length : Int) + 0
          omega
        · rw [zset_hit (by omega), List.length_append]
          show _ = 0 + ((ykc ls).length : Int) + ((ypz T L 42 0 0 p).2.2.length : Int)
          omega
  · obtain ⟨rfl, tz⟩ := t2 z
    rw [if_neg z, if_pos rfl]
    exact y_i ⟨fun w => by simp at w, fun _ => ⟨rfl, tz⟩, ft⟩
theorem m_text {d : Nat} (hd : 50 ≤ d) {T : Int → Int} {L : Int} (hL : 0 ≤ L ∧ L ≤ 120) {Q : zR → Prop} {σ0 : zF} : ∀ (m : Nat) (p : Int) (ls : List yLn) (σ : zF), 121 ≤ p + m → 0 ≤ p → p ≤ L → ((ykc ls).length : Int) ≤ p → 2 * (ls.length : Int) ≤ p → yMt T L p ls σ → yf yAml σ0 σ → ((ytx T L m p).1 = true → ∀ s, yMt T L L (ls ++ (ytx T L m p).2.2) s → (ykc (ls ++ (ytx T L m p).2.2)).length ≤ 120 → (ls ++ (ytx T L m p).2.2).length ≤ 60 → yf yAml σ0 s → yT (P_X12_law_99 d 0 (zset (zset (zset s 57 7 0) 57 9 1) 57 10 (s 57 18))) Q) → (¬ (ytx T L m p).1 = true → ∀ s, yf yAml σ0 s → yT (zri (zw (-100 - (ytx T L m p).2.1)) (zset s 57 7 0)) Q) → yT (zCI LAY (zx d 184 [.inl (some 57)] σ) fun r s => P_X12_law_25 d r s) Q := by
  intro m
  induction m with
  | zero =>
    intro p ls σ hm p0 p1 hc hn h f H1 H2
    omega
  | succ m ih =>
    intro p ls σ hm p0 p1 hc hn h f H1 H2
    obtain ⟨k1, k2, k3⟩ := yln_k (T := T) p0 p1
    refine y_cI (m_line hd hL p0 p1 hc hn h) (fun v t ht => ?_)
    obtain ⟨t1, t2, t3⟩ := ht
    have ft := yf_tr f t3
    unfold ytx yled at H1 H2
    rw [e_X12_law_25]
    by_cases z : (yln T L p).1 = true
    · obtain ⟨rfl, tz⟩ := t1 z
      obtain ⟨k4, k5⟩ := k3 z
      have c1 : ((yk1 (yln T L p).2.2).length : Int) + 1 ≤ ((yc1 (yln T L p).2.2).length : Int) ∧ 1 ≤ (yk1 (yln T L p).2.2).length := by
        have g := yGd_ne k5.2
        rcases e : (yln T L p).2.2 with ⟨_ | a, s⟩
        · rw [e] at g
          simp only [yc1, yk1, List.length_append, List.length_cons, List.length_nil]
          simp only at g
          omega
        · rw [e] at g
          simp only [yc1, yk1, List.length_append, List.length_cons, List.length_nil]
          simp only at g
          omega
      have kl : (ykc (ls ++ [(yln T L p).2.2])).length = (ykc ls).length + (yk1 (yln T L p).2.2).length := by rw [ykc_app, List.length_append]
      have ll : (ls ++ [(yln T L p).2.2]).length = ls.length + 1 := by rw [List.length_append]; rfl
      rw [if_pos z] at H1 H2
      rw [if_neg (by decide), m_is (by omega) hL.2 (by omega) k2 tz.1]
      by_cases q : ynxt T L (yln T L p).2.1 = 59
      · have lt := ynx_lt (T := T) (L := L) (p := (yln T L p).2.1) (by omega)
        have e1 : ((yln T L p).2.1 < L ∧ ¬ ynxt T L (yln T L p).2.1 = 59) = False := by simp [q]
        simp only [e1, if_false, if_true, if_pos lt] at H1 H2
        rw [if_pos q, zCI_ri, if_neg (by decide)]
        refine ih ((yln T L p).2.1 + 1) (ls ++ [(yln T L p).2.2]) _ (by omega) (by omega) (by omega) (by omega) (by omega) ⟨yMd_at tz.1, ?_, ?_⟩ (yf_set ft rfl) (fun w s s1 s2 s3 s4 => ?_) (fun w s s1 => ?_)
        · rw [zset_off (by decide)]; exact tz.2.1
        · exact yLb_cg _ 0 0 (fun j _ _ => ⟨zset_k (by decide), zset_k (by decide), zset_k (by decide)⟩) tz.2.2
        · rw [List.append_assoc] at s1 s2 s3
          exact H1 w s s1 s2 s3 s4
        · exact H2 w s s1
      · rw [if_neg q, zCI_ri, if_pos rfl, if_neg (show ¬ (1 : Int) = 0 by decide), tz.1.1, tz.1.2.1]
        by_cases lt : (yln T L p).2.1 < L
        · simp only [if_pos (show (yln T L p).2.1 < L ∧ ¬ ynxt T L (yln T L p).2.1 = 59 from ⟨lt, q⟩)] at H2
          rw [if_neg (show ¬ (yln T L p).2.1 = L by omega), if_pos rfl]
          exact H2 (by simp) t ft
        · have e1 : ((yln T L p).2.1 < L ∧ ¬ ynxt T L (yln T L p).2.1 = 59) = False := by simp [lt]
          have eL : (yln T L p).2.1 = L := by omega
          simp only [e1, if_false, if_true, if_neg lt] at H1
          rw [if_pos eL, if_neg (show ¬ (1 : Int) = 0 by decide)]
          rw [eL] at tz
          exact H1 trivial t tz (by omega) (by omega) ft
    · obtain ⟨rfl, tz⟩ := t2 z
      rw [if_neg z] at H2
      rw [if_pos rfl, if_pos rfl, if_pos rfl, tz]
      exact H2 (by simp) t ft
