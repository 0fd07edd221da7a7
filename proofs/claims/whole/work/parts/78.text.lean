/-! lines and texts; the component reads them -/
abbrev yLn : Type := Option (List Int) × List Int
def yln (T : Int → Int) (L p : Int) : Bool × Int × yLn :=
  if (ypz T L 42 0 0 p).1 = true then (if ynxt T L (ypz T L 42 0 0 p).2.1 = 63 then ((ypz T L 42 0 0 ((ypz T L 42 0 0 p).2.1 + 1)).1, (ypz T L 42 0 0 ((ypz T L 42 0 0 p).2.1 + 1)).2.1, (some (ypz T L 42 0 0 p).2.2, (ypz T L 42 0 0 ((ypz T L 42 0 0 p).2.1 + 1)).2.2)) else (true, (ypz T L 42 0 0 p).2.1, (none, (ypz T L 42 0 0 p).2.2))) else (false, (ypz T L 42 0 0 p).2.1, (none, []))
def yled (T : Int → Int) (L p : Int) : Bool × Int × yLn :=
  if (yln T L p).1 = true then (if (yln T L p).2.1 < L ∧ ¬ ynxt T L (yln T L p).2.1 = 59 then (false, (yln T L p).2.1, (yln T L p).2.2) else (true, (yln T L p).2.1, (yln T L p).2.2)) else (false, (yln T L p).2.1, (yln T L p).2.2)
def ytx (T : Int → Int) (L : Int) : Nat → Int → Bool × Int × List yLn
  | 0, p => (false, p, [])
  | m + 1, p => if (yled T L p).1 = true then (if (yled T L p).2.1 < L then ((ytx T L m ((yled T L p).2.1 + 1)).1, (ytx T L m ((yled T L p).2.1 + 1)).2.1, (yled T L p).2.2 :: (ytx T L m ((yled T L p).2.1 + 1)).2.2) else (true, (yled T L p).2.1, [(yled T L p).2.2])) else (false, (yled T L p).2.1, [])
def yc1 : yLn → List Int
  | (none, s) => s ++ [-59]
  | (some a, s) => a ++ [-63] ++ s ++ [-59]
def ycs : List yLn → List Int
  | [] => []
  | l :: ls => yc1 l ++ ycs ls
def yGl (l : yLn) : Prop := (∀ a, l.1 = some a → yGde a) ∧ yGde l.2
theorem yln_k {T : Int → Int} {L p : Int} (h0 : 0 ≤ p) (h1 : p ≤ L) : p ≤ (yln T L p).2.1 ∧ (yln T L p).2.1 ≤ L ∧ ((yln T L p).1 = true → p + (yc1 (yln T L p).2.2).length ≤ (yln T L p).2.1 + 1 ∧ yGl (yln T L p).2.2) := by
  obtain ⟨a1, a2, a3⟩ := ypz_k (T := T) (L := L) 42 0 0 p h0 h1
  unfold yln
  by_cases z : (ypz T L 42 0 0 p).1 = true
  · rw [if_pos z]
    obtain ⟨a4, a5⟩ := a3 z
    by_cases c : ynxt T L (ypz T L 42 0 0 p).2.1 = 63
    · have lt := ynx_lt (T := T) (L := L) (p := (ypz T L 42 0 0 p).2.1) (by omega)
      obtain ⟨b1, b2, b3⟩ := ypz_k (T := T) (L := L) 42 0 0 ((ypz T L 42 0 0 p).2.1 + 1) (by omega) (by omega)
      rw [if_pos c]
      refine ⟨by show p ≤ (ypz T L 42 0 0 ((ypz T L 42 0 0 p).2.1 + 1)).2.1; omega, b2, fun w => ?_⟩
      obtain ⟨b4, b5⟩ := b3 w
      refine ⟨?_, fun a ha => ?_, b5⟩
      · simp only [yc1, List.length_append, List.length_cons, List.length_nil]
        omega
      · simp only [Option.some.injEq] at ha
        rw [← ha]
        exact a5
    · rw [if_neg c]
      refine ⟨a1, a2, fun _ => ⟨?_, fun a ha => by simp at ha, a5⟩⟩
      simp only [yc1, List.length_append, List.length_cons, List.length_nil]
      omega
  · rw [if_neg z]
    exact ⟨a1, a2, fun w => by simp at w⟩
theorem yle_k {T : Int → Int} {L p : Int} (h0 : 0 ≤ p) (h1 : p ≤ L) : p ≤ (yled T L p).2.1 ∧ (yled T L p).2.1 ≤ L ∧ ((yled T L p).1 = true → p + (yc1 (yled T L p).2.2).length ≤ (yled T L p).2.1 + 1 ∧ yGl (yled T L p).2.2) := by
  have k := yln_k (T := T) h0 h1
  unfold yled
  by_cases z : (yln T L p).1 = true
  · rw [if_pos z]
    by_cases c : (yln T L p).2.1 < L ∧ ¬ ynxt T L (yln T L p).2.1 = 59
    · rw [if_pos c]
      exact ⟨k.1, k.2.1, fun w => by simp at w⟩
    · rw [if_neg c]
      exact ⟨k.1, k.2.1, fun _ => k.2.2 z⟩
  · rw [if_neg z]
    exact ⟨k.1, k.2.1, fun w => by simp at w⟩
/-- the end of a line -/
theorem c_eol {d : Nat} (hd : 2 ≤ d) {T : Int → Int} {L q : Int} {c : List Int} {σ0 σ : zF} (hL : 0 ≤ L ∧ L ≤ 120) (h0 : 0 ≤ q) (h1 : q ≤ L) (hc : c.length ≤ 120) (h : yRd T L q c σ) (f : yf yArd σ0 σ) : yT (P_X4_readLine_45 d σ) (yV fun s => (¬ (q < L ∧ ¬ ynxt T L q = 59) → yRd T L q (c ++ [-59]) s) ∧ (q < L ∧ ¬ ynxt T L q = 59 → yRf T L q s) ∧ yf yArd σ0 s) := by
  obtain ⟨s, e, s1, s2⟩ := c_add (d := d) (by omega) (v := -59) h hc
  rw [e_X4_readLine_45, h.2.1, h.1]
  by_cases q1 : q < L
  · rw [if_pos q1, c_next (by omega) hL.2 h.1 h.2.1 h0 h.2.2.2.2.2, zCI_ri]
    by_cases q2 : ynxt T L q = 59
    · rw [if_pos q2, e, zCV_rv]
      exact y_v ⟨fun _ => s1, fun w => absurd q2 w.2, yf_tr f s2⟩
    · obtain ⟨t, e2, t1, t2⟩ := c_blame (d := d) (by omega) h0 h1 hc h
      obtain ⟨u, e3, u1, u2⟩ := c_addf (d := d) (by omega) (v := -59) t1
      rw [if_neg q2, e2, zCV_rv, e3, zCV_rv]
      exact y_v ⟨fun w => absurd ⟨q1, q2⟩ w, fun _ => u1, yf_tr (yf_tr f t2) u2⟩
  · rw [if_neg q1, e, zCV_rv]
    exact y_v ⟨fun _ => s1, fun w => absurd w.1 q1, yf_tr f s2⟩
theorem c_eolf {d : Nat} (hd : 2 ≤ d) {T : Int → Int} {L q : Int} {σ0 σ : zF} (hL : 0 ≤ L ∧ L ≤ 120) (h : yRf T L q σ) (f : yf yArd σ0 σ) : yT (P_X4_readLine_45 d σ) (yV fun s => yRf T L q s ∧ yf yArd σ0 s) := by
  obtain ⟨s, e, s1, s2⟩ := c_addf (d := d) (by omega) (v := -59) h
  rw [e_X4_readLine_45, h.1]
  by_cases q1 : σ 11 4 < L
  · rw [if_pos q1, c_next (by omega) hL.2 h.1 rfl h.2.2.2.1 h.2.2.2.2.2.2.2, zCI_ri, c_blamef (by omega) h, zCV_rv, e, zCV_rv, ite_self]
    exact y_v ⟨s1, yf_tr f s2⟩
  · rw [if_neg q1, e, zCV_rv]
    exact y_v ⟨s1, yf_tr f s2⟩
theorem c_line {d : Nat} (hd : 90 ≤ d) {T : Int → Int} {L p : Int} {c : List Int} {σ : zF} (hL : 0 ≤ L ∧ L ≤ 120) (h0 : 0 ≤ p) (h1 : p ≤ L) (hc : (c.length : Int) ≤ p) (h : yRd T L p c σ) : yT (zx d 36 [.inl (some 11)] σ) (yV fun s => ((yled T L p).1 = true → yRd T L (yled T L p).2.1 (c ++ yc1 (yled T L p).2.2) s) ∧ (¬ (yled T L p).1 = true → yRf T L (yled T L p).2.1 s) ∧ yf yArd σ s) := by
  obtain ⟨d, rfl, hd'⟩ := y_d (k := 89) (d := d) (by omega)
  have pz : ∀ (q : Int) (c' : List Int) (σ' : zF), 0 ≤ q → q ≤ L → (c'.length : Int) ≤ q → yRd T L q c' σ' → yT (zx d 37 [.inl (some 11), .inr (.inl 0), .inr (.inl 0)] σ') (yV (yPo T L c' (ypz T L 42 0 0 q) σ')) := fun q c' σ' q0 q1 qc hq => by
    have := c_pz hL 42 0 0 q c' d σ' (by omega) (by omega) (by omega) (by omega) (by omega) q0 q1 qc hq
    unfold ycL at this
    rw [if_pos (by decide)] at this
    exact this
  have k := ypz_k (T := T) (L := L) 42 0 0 p h0 h1
  -- a line that stands, and its end
  have fin : ∀ (q : Int) (l : yLn) (σ' : zF), yln T L p = (true, q, l) → 0 ≤ q → q ≤ L → yRd T L q (c ++ (yc1 l).dropLast) σ' → (c ++ (yc1 l).dropLast) ++ [-59] = c ++ yc1 l → (c ++ (yc1 l).dropLast).length ≤ 120 → yf yArd σ σ' → yT (P_X4_readLine_45 d σ') (yV fun s => ((yled T L p).1 = true → yRd T L (yled T L p).2.1 (c ++ yc1 (yled T L p).2.2) s) ∧ (¬ (yled T L p).1 = true → yRf T L (yled T L p).2.1 s) ∧ yf yArd σ s) := fun q l σ' e q0 q1 g eq hcl f => by
    refine y_mV (c_eol (by omega) hL q0 q1 hcl g f) (fun s hs => ?_)
    unfold yled
    rw [e]
    simp only [if_true]
    by_cases z : q < L ∧ ¬ ynxt T L q = 59
    · rw [if_pos z]
      exact ⟨fun w => by simp at w, fun _ => hs.2.1 z, hs.2.2⟩
    · rw [if_neg z]
      refine ⟨fun _ => ?_, fun w => absurd rfl w, hs.2.2⟩
      have := hs.1 z
      rw [eq] at this
      exact this
  have bad : ∀ (q : Int) (l : yLn) (σ' : zF), yln T L p = (false, q, l) → yRf T L q σ' → yf yArd σ σ' → yT (P_X4_readLine_45 d σ') (yV fun s => ((yled T L p).1 = true → yRd T L (yled T L p).2.1 (c ++ yc1 (yled T L p).2.2) s) ∧ (¬ (yled T L p).1 = true → yRf T L (yled T L p).2.1 s) ∧ yf yArd σ s) := fun q l σ' e g f => by
    refine y_mV (c_eolf (by omega) hL g f) (fun s hs => ?_)
    unfold yled
    rw [e]
    simp only [if_neg (show ¬ false = true by decide)]
    exact ⟨fun w => by simp at w, fun _ => hs.1, hs.2⟩
  have kl := yln_k (T := T) (L := L) h0 h1
  rw [e_X4_readLine]
  refine y_cV (pz p c σ h0 h1 hc h) (fun t ht => ?_)
  obtain ⟨t1, t2, t3⟩ := ht
  by_cases z : (ypz T L 42 0 0 p).1 = true
  · have tr := t1 z
    obtain ⟨a4, a5⟩ := k.2.2 z
    rw [if_pos tr.2.2.1, c_next (by omega) hL.2 tr.1 tr.2.1 (by have := k.1; omega) tr.2.2.2.2.2, zCI_ri, tr.2.1]
    by_cases q : ynxt T L (ypz T L 42 0 0 p).2.1 = 63
    · have lt := ynx_lt (T := T) (L := L) (p := (ypz T L 42 0 0 p).2.1) (by omega)
      have k1 := k.1
      have k2 := ypz_k (T := T) (L := L) 42 0 0 ((ypz T L 42 0 0 p).2.1 + 1) (by omega) (by omega)
      have e : yln T L p = ((ypz T L 42 0 0 ((ypz T L 42 0 0 p).2.1 + 1)).1, (ypz T L 42 0 0 ((ypz T L 42 0 0 p).2.1 + 1)).2.1, (some (ypz T L 42 0 0 p).2.2, (ypz T L 42 0 0 ((ypz T L 42 0 0 p).2.1 + 1)).2.2)) := by
        unfold yln
        rw [if_pos z, if_pos q]
      rw [if_pos q, zw_i (x := (ypz T L 42 0 0 p).2.1 + 1) (by omega) (by omega)]
      obtain ⟨u, e2, u1, u2⟩ := c_add (d := d) (by omega) (v := -63) (yRd_at (q := (ypz T L 42 0 0 p).2.1 + 1) tr) (by rw [List.length_append]; omega)
      have fu : yf yArd σ u := yf_tr (yf_set t3 rfl) u2
      rw [e2, zCV_rv]
      refine y_cV (pz ((ypz T L 42 0 0 p).2.1 + 1) _ u (by omega) (by omega) ?_ u1) (fun v hv => ?_)
      · simp only [List.length_append, List.length_cons, List.length_nil]
        omega
      · obtain ⟨v1, v2, v3⟩ := hv
        by_cases z2 : (ypz T L 42 0 0 ((ypz T L 42 0 0 p).2.1 + 1)).1 = true
        · rw [z2] at e
          obtain ⟨b4, b5⟩ := k2.2.2 z2
          have dl : (yc1 (some (ypz T L 42 0 0 p).2.2, (ypz T L 42 0 0 ((ypz T L 42 0 0 p).2.1 + 1)).2.2)).dropLast = (ypz T L 42 0 0 p).2.2 ++ [-63] ++ (ypz T L 42 0 0 ((ypz T L 42 0 0 p).2.1 + 1)).2.2 := List.dropLast_concat
          refine fin _ _ v e (by have := k2.1; omega) k2.2.1 ?_ ?_ ?_ (yf_tr fu v3)
          · rw [dl]
            have := v1 z2
            simp only [List.append_assoc] at this ⊢
            exact this
          · rw [dl]
            simp only [yc1, List.append_assoc]
          · rw [dl]
            simp only [List.length_append, List.length_cons, List.length_nil]
            have := k2.2.1
            omega
        · have z3 : (ypz T L 42 0 0 ((ypz T L 42 0 0 p).2.1 + 1)).1 = false := by simpa using z2
          rw [z3] at e
          exact bad _ _ v e (v2 z2) (yf_tr fu v3)
    · have e : yln T L p = (true, (ypz T L 42 0 0 p).2.1, (none, (ypz T L 42 0 0 p).2.2)) := by
        unfold yln
        rw [if_pos z, if_neg q]
      have dl : (yc1 (none, (ypz T L 42 0 0 p).2.2)).dropLast = (ypz T L 42 0 0 p).2.2 := List.dropLast_concat
      rw [if_neg q]
      refine fin _ _ t e (by have := k.1; omega) k.2.1 ?_ ?_ ?_ t3
      · rw [dl]; exact tr
      · rw [dl, List.append_assoc]; rfl
      · rw [dl, List.length_append]
        have := k.2.1
        omega
  · have e : yln T L p = (false, (ypz T L 42 0 0 p).2.1, (none, [])) := by
      unfold yln
      rw [if_neg z]
    have ng : ¬ t 11 5 = -1 := by rw [(t2 z).2.1]; have := (t2 z).2.2.1; omega
    rw [if_neg ng]
    exact bad _ _ t e (t2 z) t3
theorem c_text {d : Nat} (hd : 90 ≤ d) {T : Int → Int} {L : Int} (hL : 0 ≤ L ∧ L ≤ 120) : ∀ (m : Nat) (p y1 : Int) (c : List Int) (σ : zF), 121 ≤ p + m → 0 ≤ p → p ≤ L → 0 ≤ y1 → y1 ≤ p → (c.length : Int) ≤ p → yRd T L p c σ → yT (zCV LAY (zx d 36 [.inl (some 11)] σ) fun s1 => P_X4_read_21 d y1 s1) (yI fun v s => ((ytx T L m p).1 = true → v = -1 ∧ s 11 3 = (c ++ ycs (ytx T L m p).2.2).length ∧ yAtl (s 13) 0 (c ++ ycs (ytx T L m p).2.2) ∧ (c ++ ycs (ytx T L m p).2.2).length ≤ 121 ∧ 1 ≤ (ycs (ytx T L m p).2.2).length ∧ ∀ l ∈ (ytx T L m p).2.2, yGl l) ∧ (¬ (ytx T L m p).1 = true → v = (ytx T L m p).2.1 ∧ 0 ≤ v ∧ v ≤ 120) ∧ yf yArd σ s) := by
  intro m
  induction m with
  | zero =>
    intro p y1 c σ hm p0 p1 y0 yp hc h
    omega
  | succ m ih =>
    intro p y1 c σ hm p0 p1 y0 yp hc h
    obtain ⟨k1, k2, k3⟩ := yle_k (T := T) p0 p1
    refine y_cV (c_line hd hL p0 p1 hc h) (fun t ht => ?_)
    obtain ⟨t1, t2, t3⟩ := ht
    unfold ytx
    by_cases z : (yled T L p).1 = true
    · rw [if_pos z]
      have tr := t1 z
      obtain ⟨k4, k5⟩ := k3 z
      have ne : 1 ≤ (yc1 (yled T L p).2.2).length := by
        rcases (yled T L p).2.2 with ⟨_ | a, s⟩ <;> simp only [yc1, List.length_append, List.length_cons, List.length_nil] <;> omega
      rw [e_X4_read_21, tr.2.2.1, tr.2.1, tr.1, if_pos rfl]
      by_cases q : (yled T L p).2.1 < L
      · rw [if_pos q, if_pos q, if_pos (by omega), zw_i (x := (yled T L p).2.1 + 1) (by omega) (by omega), zw_i (x := y1 + 1) (by omega) (by omega)]
        refine y_mI (ih ((yled T L p).2.1 + 1) (y1 + 1) _ _ (by omega) (by omega) (by omega) (by omega) (by omega) ?_ (yRd_at tr)) (fun v s hs => ⟨fun w => ?_, hs.2.1, yf_tr (yf_set t3 rfl) hs.2.2⟩)
        · rw [List.length_append]; omega
        · obtain ⟨a1, a2, a3, a4, a5, a6⟩ := hs.1 w
          have e : c ++ ycs ((yled T L p).2.2 :: (ytx T L m ((yled T L p).2.1 + 1)).2.2) = c ++ yc1 (yled T L p).2.2 ++ ycs (ytx T L m ((yled T L p).2.1 + 1)).2.2 := by
            show c ++ (_ ++ _) = _
            rw [List.append_assoc]
          refine ⟨a1, by rw [e]; exact a2, by rw [e]; exact a3, by rw [e]; exact a4, ?_, fun l hl => ?_⟩
          · show 1 ≤ (yc1 (yled T L p).2.2 ++ _).length
            rw [List.length_append]
            omega
          · rcases List.mem_cons.mp hl with x | x
            · rw [x]; exact k5
            · exact a6 l x
      · rw [if_neg q, if_neg q, ite_self]
        have e : c ++ ycs [(yled T L p).2.2] = c ++ yc1 (yled T L p).2.2 := by
          show c ++ (_ ++ []) = _
          rw [List.append_nil]
        refine y_i ⟨fun _ => ⟨rfl, by rw [e]; exact tr.2.2.2.1, by rw [e]; exact tr.2.2.2.2.1, by rw [e, List.length_append]; omega, ?_, fun l hl => ?_⟩, fun w => absurd rfl w, t3⟩
        · show 1 ≤ (yc1 (yled T L p).2.2 ++ []).length
          rw [List.length_append]
          omega
        · rw [List.mem_singleton] at hl
          rw [hl]
          exact k5
    · rw [if_neg z]
      have u := t2 z
      have ng : ¬ t 11 5 = -1 := by rw [u.2.1]; have := u.2.2.1; omega
      rw [e_X4_read_21, if_neg ng, ite_self, u.2.1]
      exact y_i ⟨fun w => by simp at w, fun _ => ⟨rfl, u.2.2.1, by show (yled T L p).2.1 ≤ 120; omega⟩, t3⟩
