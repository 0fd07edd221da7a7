/-! the component's reader does as the parser -/
theorem c_pz {T : Int → Int} {L : Int} (hL : 0 ≤ L ∧ L ≤ 120) : ∀ (f lv : Nat) (o p : Int) (c : List Int) (d : Nat) (σ : zF), 2 * f + 2 ≤ d → lv ≤ 5 → 0 ≤ o → o ≤ 6 → 6 * (6 - o) + (5 - (lv : Int)) < (f : Int) → 0 ≤ p → p ≤ L → (c.length : Int) ≤ p → yRd T L p c σ → yT (ycL d lv o σ) (yV (yPo T L c (ypz T L f lv o p) σ)) := by
  intro f
  induction f with
  | zero =>
    intro lv o p c d σ hd hl o0 o1 hf p0 p1 hc h
    omega
  | succ f ih =>
    intro lv o p c d σ hd hl o0 o1 hf p0 p1 hc h
    unfold ycL
    by_cases c1 : lv < 5
    · obtain ⟨d, rfl, hd'⟩ := y_d (k := 2 * f + 3) (d := d) (by omega)
      have part : ∀ (q : Int) (c' : List Int) (σ' : zF), 0 ≤ q → q ≤ L → (c'.length : Int) ≤ q → yRd T L q c' σ' → yT (zx d 38 [.inl (some 11), .inr (.inl (lv : Int)), .inr (.inl o)] σ') (yV (yPo T L c' (ypz T L f (lv + 1) o q) σ')) := fun q c' σ' q0 q1 qc hq => by
        obtain ⟨d, rfl, hd''⟩ := y_d (k := 2 * f + 2) (d := d) (by omega)
        exact c_part c1 (ih (lv + 1) o q c' d σ' (by omega) (by omega) o0 o1 (by omega) q0 q1 qc hq)
      rw [if_pos c1, e_X4_readJoined]
      refine y_cV (part p c σ p0 p1 hc h) (fun t ht => ?_)
      obtain ⟨t1, t2, t3⟩ := ht
      have pk := ypz_k (T := T) (L := L) f (lv + 1) o p p0 p1
      have pk1 := pk.1
      have pk2 := pk.2.1
      unfold ypz
      rw [if_pos c1]
      by_cases z : (ypz T L f (lv + 1) o p).1 = true
      · rw [if_pos z]
        obtain ⟨a4, a5⟩ := pk.2.2 z
        by_cases e2 : lv = 2
        · rw [if_pos e2, if_pos (by omega)]
          exact c_lo (by omega) hL c1 (by decide) (fun q q0 q1 => ypz_k f (lv + 1) o q q0 q1) part 1 _ 0 _ t (by omega) rfl (by omega) pk.2.1 (by omega) (t1 z) t3
        · rw [if_neg e2, if_neg (by omega)]
          exact c_lo (by omega) hL c1 (by decide) (fun q q0 q1 => ypz_k f (lv + 1) o q q0 q1) part 120 _ 0 _ t (by omega) rfl (by omega) pk.2.1 (by omega) (t1 z) t3
      · rw [if_neg z]
        have u := t2 z
        have ng : ¬ t 11 5 = -1 := by rw [u.2.1]; have := u.2.2.1; omega
        have fin : ∀ y3, P_X4_readJoined_21 d (lv : Int) o y3 0 t = zrv t := fun y3 => by
          rw [e_X4_readJoined_21, if_neg ng, ite_self]
        rw [fin, fin, ite_self]
        exact y_v ⟨fun w => by simp at w, fun _ => u, t3⟩
    · have e5 : lv = 5 := by omega
      subst e5
      obtain ⟨d, rfl, hd'⟩ := y_d (k := 2 * f + 3) (d := d) (by omega)
      have nx := c_next (d := d) (by omega) hL.2 h.1 h.2.1 p0 h.2.2.2.2.2
      have cl : c.length ≤ 120 := by omega
      rw [if_neg c1, e_X4_readOperand, nx, zCI_ri, c_dig (by omega), zCI_ri, y01]
      unfold ypz
      rw [if_neg c1]
      by_cases c2 : 48 ≤ ynxt T L p ∧ ynxt T L p ≤ 57
      · rw [if_pos c2, if_pos c2]
        obtain ⟨d, rfl, hd''⟩ := y_d (k := 1) (d := d) (by omega)
        rw [e_X4_readNumber]
        refine y_cV (c_num_l (by omega) hL.2 cl 4 0 p 0 σ (by omega) (by omega) p0 p1 (by omega) (by omega) (by omega) h yf_rf) (fun s hs => y_v ⟨fun _ => hs.1, fun w => absurd rfl w, hs.2⟩)
      · rw [if_neg c2, if_neg c2, c_nam (by omega), zCI_ri, y01]
        by_cases c3 : ynm (ynxt T L p) = true
        · have c3' := c3
          unfold ynm at c3'
          rw [decide_eq_true_eq] at c3'
          have lt := ynx_lt (T := T) (L := L) (p := p) (by omega)
          rw [if_pos c3, if_pos c3, h.2.1, zw_i (x := p + 1) (by omega) (by omega), zw_i (x := -ynxt T L p) (by omega) (by omega)]
          obtain ⟨s, e, s1, s2⟩ := c_add (d := d) (by omega) (v := -ynxt T L p) (yRd_at (q := p + 1) h) cl
          rw [e, zCV_rv]
          exact y_v ⟨fun _ => s1, fun w => absurd rfl w, yf_tr (yf_set yf_rf rfl) s2⟩
        · rw [if_neg c3, if_neg c3]
          -- a fault here
          have bl : yT (zCV LAY (zx d 43 [.inl (some 11)] σ) fun s => zrv s) (yV (yPo T L c (false, p, []) σ)) := by
            obtain ⟨s, e, s1, s2⟩ := c_blame (d := d) (by omega) p0 p1 cl h
            rw [e, zCV_rv]
            exact y_v ⟨fun w => by simp at w, fun _ => s1, s2⟩
          by_cases c4 : 6 ≤ o
          · rw [if_pos c4, if_neg (by omega)]
            exact bl
          · rw [if_neg c4, if_pos (by omega), h.2.1, zw_i (x := o + 1) (by omega) (by omega), zw_i (x := p + 1) (by omega) (by omega)]
            by_cases c5 : ynxt T L p = 40
            · have lt := ynx_lt (T := T) (L := L) (p := p) (by omega)
              rw [if_pos c5, if_pos c5]
              have pk := ypz_k (T := T) (L := L) f 0 (o + 1) (p + 1) (by omega) (by omega)
              have pk1 := pk.1
              have pk2 := pk.2.1
              have st := ih 0 (o + 1) (p + 1) c d _ (by omega) (by omega) (by omega) (by omega) (by omega) (by omega) (by omega) (by omega) (yRd_at (q := p + 1) h)
              unfold ycL at st
              rw [if_pos (by decide)] at st
              refine y_cV st (fun t ht => ?_)
              obtain ⟨t1, t2, t3⟩ := ht
              have ft : yf yArd σ t := yf_tr (yf_set yf_rf rfl) t3
              by_cases z : (ypz T L f 0 (o + 1) (p + 1)).1 = true
              · rw [if_pos z]
                obtain ⟨a4, a5⟩ := pk.2.2 z
                refine y_cV (c_clos (by omega) hL.2 (by have := pk.1; omega) pk.2.1 (by rw [List.length_append]; have := pk.2.1; omega) (t1 z)) (fun s hs => y_v ?_)
                by_cases c6 : ynxt T L (ypz T L f 0 (o + 1) (p + 1)).2.1 = 41
                · rw [if_pos c6]
                  exact ⟨fun _ => hs.1 c6, fun w => absurd rfl w, yf_tr ft hs.2.2⟩
                · rw [if_neg c6]
                  exact ⟨fun w => by simp at w, fun _ => hs.2.1 c6, yf_tr ft hs.2.2⟩
              · rw [if_neg z]
                refine y_cV (c_closf (by omega) hL.2 (t2 z)) (fun s hs => y_v ?_)
                exact ⟨fun w => by simp at w, fun _ => hs.1, yf_tr ft hs.2⟩
            · rw [if_neg c5, if_neg c5]
              -- a sign ahead
              have un : ∀ v : Int, ynxt T L p = 33 ∧ v = -33 ∨ ynxt T L p = 45 ∧ v = -126 → yT (zCV LAY (zx d 39 [.inl (some 11), .inr (.inl (o + 1))] (zset σ 11 4 (p + 1))) fun s => zCV LAY (zx d 44 [.inl (some 11), .inr (.inl v)] s) fun s => zrv s) (yV (yPo T L c (if (ypz T L f 5 (o + 1) (p + 1)).1 = true then (true, (ypz T L f 5 (o + 1) (p + 1)).2.1, (ypz T L f 5 (o + 1) (p + 1)).2.2 ++ [v]) else (false, (ypz T L f 5 (o + 1) (p + 1)).2.1, [])) σ)) := fun v hv => by
                have lt := ynx_lt (T := T) (L := L) (p := p) (by omega)
                have pk := ypz_k (T := T) (L := L) f 5 (o + 1) (p + 1) (by omega) (by omega)
                have pk1 := pk.1
                have pk2 := pk.2.1
                have st := ih 5 (o + 1) (p + 1) c d _ (by omega) (by omega) (by omega) (by omega) (by omega) (by omega) (by omega) (by omega) (yRd_at (q := p + 1) h)
                unfold ycL at st
                rw [if_neg (by decide)] at st
                refine y_cV st (fun t ht => ?_)
                obtain ⟨t1, t2, t3⟩ := ht
                have ft : yf yArd σ t := yf_tr (yf_set yf_rf rfl) t3
                by_cases z : (ypz T L f 5 (o + 1) (p + 1)).1 = true
                · rw [if_pos z]
                  obtain ⟨a4, a5⟩ := pk.2.2 z
                  obtain ⟨s, e, s1, s2⟩ := c_add (d := d) (by omega) (v := v) (t1 z) (by rw [List.length_append]; have := pk.2.1; omega)
                  rw [e, zCV_rv]
                  rw [List.append_assoc] at s1
                  exact y_v ⟨fun _ => s1, fun w => absurd rfl w, yf_tr ft s2⟩
                · rw [if_neg z]
                  obtain ⟨s, e, s1, s2⟩ := c_addf (d := d) (by omega) (v := v) (t2 z)
                  rw [e, zCV_rv]
                  exact y_v ⟨fun w => by simp at w, fun _ => s1, yf_tr ft s2⟩
              by_cases c6 : ynxt T L p = 33
              · have := un (-33) (Or.inl ⟨c6, rfl⟩)
                simp only [if_pos c6, if_pos (show ynxt T L p = 33 ∨ ynxt T L p = 45 from Or.inl c6)]
                exact this
              · by_cases c7 : ynxt T L p = 45
                · have := un (-126) (Or.inr ⟨c7, rfl⟩)
                  simp only [if_neg c6, if_pos c7, if_pos (show ynxt T L p = 33 ∨ ynxt T L p = 45 from Or.inr c7)]
                  exact this
                · simp only [if_neg c6, if_neg c7, if_neg (show ¬ (ynxt T L p = 33 ∨ ynxt T L p = 45) by omega)]
                  exact bl
