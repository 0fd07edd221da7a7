/-! the model's parser does as the parser -/
theorem m_pz {T : Int → Int} {L : Int} (hL : 0 ≤ L ∧ L ≤ 120) : ∀ (f lv : Nat) (o p : Int) (c : List Int) (d : Nat) (σ : zF), f + 5 ≤ d → lv ≤ 5 → 0 ≤ o → o ≤ 6 → 6 * (6 - o) + (5 - (lv : Int)) < (f : Int) → 0 ≤ p → p ≤ L → (c.length : Int) ≤ p → yMd T L p o c σ → yT (zx d (183 - lv) [.inl (some 57)] σ) (yI (yMo T L o c (ypz T L f lv o p) σ)) := by
  intro f
  induction f with
  | zero =>
    intro lv o p c d σ hd hl o0 o1 hf p0 p1 hc h
    omega
  | succ f ih =>
    intro lv o p c d σ hd hl o0 o1 hf p0 p1 hc h
    obtain ⟨d, rfl, hd'⟩ := y_d (k := f + 5) (d := d) (by omega)
    have hG : ∀ (lv' : Nat), lv' = lv + 1 → lv < 5 → ∀ (q : Int) (c' : List Int) (σ' : zF), 0 ≤ q → q ≤ L → (c'.length : Int) ≤ q → yMd T L q o c' σ' → yT (zx d (183 - lv') [.inl (some 57)] σ') (yI (yMo T L o c' (ypz T L f lv' o q) σ')) := fun lv' e l5 q c' σ' q0 q1 qc hq => ih lv' o q c' d σ' (by omega) (by omega) o0 o1 (by omega) q0 q1 qc hq
    rcases (show lv = 0 ∨ lv = 1 ∨ lv = 2 ∨ lv = 3 ∨ lv = 4 ∨ lv = 5 by omega) with rfl | rfl | rfl | rfl | rfl | rfl
    · show yT (zx (d + 1) 183 [.inl (some 57)] σ) _
      rw [e_X12_isE]
      exact m_lv (id := 182) (P := P_X12_isE_9 d) (by omega) hL (by decide) (by decide) p0 p1 hc h (hG 1 rfl (by decide)) (fun q c' σ' q0 q1 hq => m_pE (by omega) hL q0 q1 hq)
    · show yT (zx (d + 1) 182 [.inl (some 57)] σ) _
      rw [e_X12_isA]
      exact m_lv (id := 181) (P := P_X12_isA_9 d) (by omega) hL (by decide) (by decide) p0 p1 hc h (hG 2 rfl (by decide)) (fun q c' σ' q0 q1 hq => m_pA (by omega) hL q0 q1 hq)
    · show yT (zx (d + 1) 181 [.inl (some 57)] σ) _
      have g := hG 3 rfl (by decide)
      have pk := ypz_k (T := T) (L := L) f 3 o p p0 p1
      rw [e_X12_isB]
      refine y_cI (g p c σ p0 p1 hc h) (fun v t ht => ?_)
      obtain ⟨t1, t2, t3⟩ := ht
      unfold ypz
      rw [if_pos (show (2 : Nat) < 5 by decide)]
      by_cases z : (ypz T L f (2 + 1) o p).1 = true
      · obtain ⟨a4, a5⟩ := pk.2.2 z
        obtain ⟨rfl, tz⟩ := t1 z
        have k1 := pk.1
        have k2 := pk.2.1
        have sg := m_sign (d := d) (by omega) hL.2 (by omega) tz
        rw [if_pos z, if_pos (show (2 : Nat) = 2 from rfl), if_neg (show ¬ (1 : Int) = 0 by decide), sg, zCI_ri, sg, zCI_ri, sg, zCI_ri]
        unfold ylo
        have go : ∀ x : Int, ynxt T L (ypz T L f 3 o p).2.1 = x → ysg 2 x = true → ytrc (-x) < 18 → 0 ≤ ytrc (-x) → yT (P_X12_isB_52 d (ytrc (-x)) t) (yI (yMo T L o c (if (ypz T L f 3 o ((ypz T L f 3 o p).2.1 + 1)).1 = true then ylo T L (fun q => ypz T L f 3 o q) 2 0 (ypz T L f 3 o ((ypz T L f 3 o p).2.1 + 1)).2.1 ((ypz T L f 3 o p).2.2 ++ (ypz T L f 3 o ((ypz T L f 3 o p).2.1 + 1)).2.2 ++ [-x]) else (false, (ypz T L f 3 o ((ypz T L f 3 o p).2.1 + 1)).2.1, [])) σ)) := fun x e hx b0 b1 => by
          have s := ysg_s hx
          have lt := ynx_lt (T := T) (L := L) (p := (ypz T L f 3 o p).2.1) (by omega)
          have pk2 := ypz_k (T := T) (L := L) f 3 o ((ypz T L f 3 o p).2.1 + 1) (by omega) (by omega)
          rw [e_X12_isB_52, if_neg (by omega), tz.2.1, zw_i (x := (ypz T L f 3 o p).2.1 + 1) (by omega) (by omega)]
          refine y_cI (g ((ypz T L f 3 o p).2.1 + 1) _ _ (by omega) (by omega) (by rw [List.length_append]; omega) (yMd_at tz)) (fun w u hu => ?_)
          obtain ⟨u1, u2, u3⟩ := hu
          have fu := yf_tr (yf_set t3 (k := 57) (i := 15) (v := (ypz T L f 3 o p).2.1 + 1) rfl) u3
          by_cases z2 : (ypz T L f 3 o ((ypz T L f 3 o p).2.1 + 1)).1 = true
          · obtain ⟨b4, b5⟩ := pk2.2.2 z2
            obtain ⟨rfl, uz⟩ := u1 z2
            have k4 := pk2.2.1
            obtain ⟨r, e1, r1, r2⟩ := m_codes (d := d) (by omega) (x := ytrc (-x)) (v := -x) uz (by rw [List.length_append, List.length_append]; omega) rfl
            rw [if_pos z2, if_neg (by decide), e1, zCI_ri, if_neg (by decide)]
            rw [List.append_assoc, List.append_assoc, ← List.append_assoc (ypz T L f 3 o p).2.2] at r1
            exact y_i ⟨fun _ => ⟨rfl, r1⟩, fun w => absurd rfl w, yf_tr fu r2⟩
          · obtain ⟨rfl, uz⟩ := u2 z2
            rw [if_neg z2, if_pos rfl]
            exact y_i ⟨fun w => by simp at w, fun _ => ⟨rfl, uz⟩, fu⟩
        by_cases e : ynxt T L (ypz T L f (2 + 1) o p).2.1 = 60
        · rw [if_pos e, if_pos (show ysg 2 (ynxt T L (ypz T L f (2 + 1) o p).2.1) = true by rw [e]; rfl), e]
          exact go 60 e rfl (by decide) (by decide)
        · rw [if_neg e]
          by_cases e2 : ynxt T L (ypz T L f (2 + 1) o p).2.1 = 61
          · rw [if_pos e2, if_pos (show ysg 2 (ynxt T L (ypz T L f (2 + 1) o p).2.1) = true by rw [e2]; rfl), e2]
            exact go 61 e2 rfl (by decide) (by decide)
          · rw [if_neg e2]
            by_cases e3 : ynxt T L (ypz T L f (2 + 1) o p).2.1 = 62
            · rw [if_pos e3, if_pos (show ysg 2 (ynxt T L (ypz T L f (2 + 1) o p).2.1) = true by rw [e3]; rfl), e3]
              exact go 62 e3 rfl (by decide) (by decide)
            · rw [if_neg e3, if_neg (show ¬ ysg 2 (ynxt T L (ypz T L f (2 + 1) o p).2.1) = true by unfold ysg; rw [if_neg (by decide), if_neg (by decide), if_pos rfl, decide_eq_false (by omega)]; decide), e_X12_isB_52, if_pos (by decide)]
              exact y_i ⟨fun _ => ⟨rfl, tz⟩, fun w => absurd rfl w, t3⟩
      · obtain ⟨rfl, tz⟩ := t2 z
        rw [if_neg z, if_pos (show (0 : Int) = 0 from rfl)]
        exact y_i ⟨fun w => by simp at w, fun _ => ⟨rfl, tz⟩, t3⟩
    · show yT (zx (d + 1) 180 [.inl (some 57)] σ) _
      rw [e_X12_isS]
      exact m_lv (id := 179) (P := P_X12_isS_9 d) (by omega) hL (by decide) (by decide) p0 p1 hc h (hG 4 rfl (by decide)) (fun q c' σ' q0 q1 hq => m_pS (by omega) hL q0 q1 hq)
    · show yT (zx (d + 1) 179 [.inl (some 57)] σ) _
      rw [e_X12_isP]
      exact m_lv (id := 178) (P := P_X12_isP_9 d) (by omega) hL (by decide) (by decide) p0 p1 hc h (hG 5 rfl (by decide)) (fun q c' σ' q0 q1 hq => m_pP (by omega) hL q0 q1 hq)
    · show yT (zx (d + 1) 178 [.inl (some 57)] σ) _
      have cl : c.length ≤ 120 := by omega
      rw [e_X12_isO, m_dig (by omega) hL.2 p0 h, zCI_ri, y01]
      unfold ypz
      rw [if_neg (show ¬ (5 : Nat) < 5 by decide)]
      by_cases c2 : 48 ≤ ynxt T L p ∧ ynxt T L p ≤ 57
      · rw [if_pos c2, if_pos c2]
        exact y_mI (m_num (by omega) hL.2 cl 4 0 p 0 σ (by omega) (by omega) p0 p1 (by omega) (by omega) h yf_rf) (fun v s hs => ⟨fun _ => ⟨hs.1, hs.2.1⟩, fun w => absurd rfl w, hs.2.2⟩)
      · obtain ⟨x, ex, x1, x2⟩ := m_nam (d := d) (by omega) (ynxt T L p) σ
        rw [if_neg c2, if_neg c2, m_sign (by omega) hL.2 p0 h, zCI_ri, ex, zCI_ri]
        by_cases c3 : ynm (ynxt T L p) = true
        · have c3' := c3
          unfold ynm at c3'
          rw [decide_eq_true_eq] at c3'
          have lt := ynx_lt (T := T) (L := L) (p := p) (by omega)
          obtain ⟨xe, x0⟩ := x1 c3
          obtain ⟨s, e, s1, s2⟩ := m_codes (d := d) (by omega) (x := x) (v := -ynxt T L p) (yMd_at (q := p + 1) h) cl xe
          rw [if_pos c3, if_neg (by omega), h.2.1, zw_i (x := p + 1) (by omega) (by omega), e, zCI_ri, if_pos (Or.inr rfl)]
          exact y_i ⟨fun _ => ⟨rfl, s1⟩, fun w => absurd rfl w, yf_tr (yf_set yf_rf rfl) s2⟩
        · have xm := x2 c3
          rw [if_neg c3, if_pos (by omega), h.2.2.1]
          by_cases c4 : 6 ≤ o
          · rw [if_pos c4, if_pos (by omega)]
            exact y_i ⟨fun w => by simp at w, fun _ => ⟨rfl, h.2.1⟩, yf_rf⟩
          · have h' := yMd_op (q := o + 1) h
            have f1 : yf yAmd σ (zset σ 57 16 (o + 1)) := yf_set yf_rf rfl
            rw [if_neg c4, if_neg (by omega), zw_i (x := o + 1) (by omega) (by omega), m_is (by omega) hL.2 p0 p1 h']
            generalize zset σ 57 16 (o + 1) = σ1 at h' f1
            have back : ∀ s : zF, ∀ q, s 57 15 = q → (zset s 57 16 (zw (s 57 16 - 1))) 57 15 = q := fun s q e => by rw [zset_off (by decide)]; exact e
            have un : ∀ (v x : Int), ytrc v = x → yT (zCI LAY (zx d 178 [.inl (some 57)] (zset σ1 57 15 (p + 1))) fun r s => if r = 0 then zri 0 (zset s 57 16 (zw (s 57 16 - 1))) else zCI LAY (zx d 175 [.inl (some 57), .inr (.inl x)] s) fun r2 s2 => if r2 = 0 then zri 0 (zset s2 57 16 (zw (s2 57 16 - 1))) else zri 1 (zset s2 57 16 (zw (s2 57 16 - 1)))) (yI (yMo T L o c (if (ypz T L f 5 (o + 1) (p + 1)).1 = true then (true, (ypz T L f 5 (o + 1) (p + 1)).2.1, (ypz T L f 5 (o + 1) (p + 1)).2.2 ++ [v]) else (false, (ypz T L f 5 (o + 1) (p + 1)).2.1, [])) σ)) ∨ ¬ p < L := fun v x hv => by
              by_cases lt : p < L
              · refine Or.inl ?_
                have pk := ypz_k (T := T) (L := L) f 5 (o + 1) (p + 1) (by omega) (by omega)
                have st := ih 5 (o + 1) (p + 1) c d _ (by omega) (by omega) (by omega) (by omega) (by omega) (by omega) (by omega) (by omega) (yMd_at (q := p + 1) h')
                refine y_cI (show yT (zx d 178 [.inl (some 57)] (zset σ1 57 15 (p + 1))) _ from st) (fun w t ht => ?_)
                obtain ⟨t1, t2, t3⟩ := ht
                have ft : yf yAmd σ t := yf_tr (yf_set f1 rfl) t3
                by_cases z : (ypz T L f 5 (o + 1) (p + 1)).1 = true
                · obtain ⟨a4, a5⟩ := pk.2.2 z
                  obtain ⟨rfl, tz⟩ := t1 z
                  have k2 := pk.2.1
                  obtain ⟨s, e, s1, s2⟩ := m_codes (d := d) (by omega) (x := x) (v := v) tz (by rw [List.length_append]; omega) hv.symm
                  rw [if_pos z, if_neg (by decide), e, zCI_ri, if_neg (by decide), s1.2.2.1, show o + 1 - 1 = o by omega, zw_i (x := o) (by omega) (by omega)]
                  rw [List.append_assoc] at s1
                  exact y_i ⟨fun _ => ⟨rfl, yMd_op s1⟩, fun w => absurd rfl w, yf_set (yf_tr ft s2) rfl⟩
                · obtain ⟨rfl, tz⟩ := t2 z
                  rw [if_neg z, if_pos rfl]
                  exact y_i ⟨fun w => by simp at w, fun _ => ⟨rfl, back t _ tz⟩, yf_set ft rfl⟩
              · exact Or.inr lt
            by_cases c6 : ynxt T L p = 33
            · have lt := ynx_lt (T := T) (L := L) (p := p) (by omega)
              have := (un (-33) 16 rfl).resolve_right (fun w => w lt)
              simp only [if_pos c6, if_pos (show ynxt T L p = 33 ∨ ynxt T L p = 45 from Or.inl c6), if_neg (show ¬ ynxt T L p = 40 by omega)]
              rw [zCI_ri, if_neg (by decide)]
              exact this
            · rw [if_neg c6, zCI_ri, if_pos rfl, m_is (by omega) hL.2 p0 p1 h']
              by_cases c7 : ynxt T L p = 45
              · have lt := ynx_lt (T := T) (L := L) (p := p) (by omega)
                have := (un (-126) 17 rfl).resolve_right (fun w => w lt)
                simp only [if_neg c6, if_pos c7, if_pos (show ynxt T L p = 33 ∨ ynxt T L p = 45 from Or.inr c7), if_neg (show ¬ ynxt T L p = 40 by omega)]
                rw [zCI_ri, if_neg (by decide)]
                exact this
              · rw [if_neg c7, zCI_ri, if_pos rfl, m_is (by omega) hL.2 p0 p1 h']
                by_cases c5 : ynxt T L p = 40
                · have lt := ynx_lt (T := T) (L := L) (p := p) (by omega)
                  have pk := ypz_k (T := T) (L := L) f 0 (o + 1) (p + 1) (by omega) (by omega)
                  have st := ih 0 (o + 1) (p + 1) c d _ (by omega) (by omega) (by omega) (by omega) (by omega) (by omega) (by omega) (by omega) (yMd_at (q := p + 1) h')
                  rw [if_pos c5, if_pos c5, zCI_ri, if_neg (by decide)]
                  refine y_cI (show yT (zx d 183 [.inl (some 57)] (zset σ1 57 15 (p + 1))) _ from st) (fun w t ht => ?_)
                  obtain ⟨t1, t2, t3⟩ := ht
                  have ft : yf yAmd σ t := yf_tr (yf_set f1 rfl) t3
                  by_cases z : (ypz T L f 0 (o + 1) (p + 1)).1 = true
                  · obtain ⟨a4, a5⟩ := pk.2.2 z
                    obtain ⟨rfl, tz⟩ := t1 z
                    have k1 := pk.1
                    have k2 := pk.2.1
                    rw [if_pos z, if_neg (by decide), m_is (by omega) hL.2 (by omega) k2 tz]
                    by_cases c8 : ynxt T L (ypz T L f 0 (o + 1) (p + 1)).2.1 = 41
                    · have tz2 := yMd_at (q := (ypz T L f 0 (o + 1) (p + 1)).2.1 + 1) tz
                      have ft2 : yf yAmd σ (zset t 57 15 ((ypz T L f 0 (o + 1) (p + 1)).2.1 + 1)) := yf_set ft rfl
                      rw [if_pos c8, if_pos c8, zCI_ri, if_neg (by decide)]
                      generalize zset t 57 15 ((ypz T L f 0 (o + 1) (p + 1)).2.1 + 1) = u at tz2 ft2
                      rw [tz2.2.2.1, show o + 1 - 1 = o by omega, zw_i (x := o) (by omega) (by omega)]
                      exact y_i ⟨fun _ => ⟨rfl, yMd_op tz2⟩, fun w => absurd rfl w, yf_set ft2 rfl⟩
                    · rw [if_neg c8, if_neg c8, zCI_ri, if_pos rfl]
                      exact y_i ⟨fun w => by simp at w, fun _ => ⟨rfl, back t _ tz.2.1⟩, yf_set ft rfl⟩
                  · obtain ⟨rfl, tz⟩ := t2 z
                    rw [if_neg z, if_pos rfl]
                    exact y_i ⟨fun w => by simp at w, fun _ => ⟨rfl, back t _ tz⟩, yf_set ft rfl⟩
                · rw [if_neg c5, if_neg c5, zCI_ri, if_pos rfl, if_neg (show ¬ (ynxt T L p = 33 ∨ ynxt T L p = 45) by omega)]
                  exact y_i ⟨fun w => by simp at w, fun _ => ⟨rfl, back σ1 _ h'.2.1⟩, yf_set f1 rfl⟩
