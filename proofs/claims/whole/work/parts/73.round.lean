/-! rounds: component and model find the same -/
def yGo (S : Int) (R : Int → Prop) (W V : Int → Int → Int) (wh : Int → Int) (st i a l u h b b' : Int) (ord ord' pre : Int → Int) : Prop := ∃ b1 b1' ord1 ord1', yRB st b1 ord1 b1' ord1' ∧ (∀ (d : Nat) (σ : zF), 12 - 2 * i ≤ (d : Int) → yGC S R W st b ord σ → (∀ j, 0 ≤ j → j < i → σ 29 j = pre j) → yT (zx d 50 [.inl (some 27), .inr (.inl a), .inr (.inl l), .inr (.inl h), .inr (.inl i)] σ) (yV fun s => yGC S R W st b1 ord1 s ∧ (∀ j, 0 ≤ j → j < i → s 29 j = pre j) ∧ yf yAgc σ s)) ∧ (∀ (d : Nat) (σ : zF), 7 - i ≤ (d : Int) → yGM wh V st b' ord' σ → (∀ j, 0 ≤ j → j < i → σ 90 j = pre j) → yT (zx d 209 [.inl (some 57), .inr (.inl i), .inr (.inl S), .inr (.inl a), .inr (.inl u), .inr (.inl h)] σ) (yV fun s => yGM wh V st b1' ord1' s ∧ (∀ j, 0 ≤ j → j < i → s 90 j = pre j) ∧ yf yAgm σ s))
theorem m_cut {wh : Int → Int} {V : Int → Int → Int} {S st i a u h b' : Int} {ord' : Int → Int} {d : Nat} {σ : zF} (hd : 1 ≤ d) (hb : b' ≤ h) (hg : yGM wh V st b' ord' σ) : zx d 209 [.inl (some 57), .inr (.inl i), .inr (.inl S), .inr (.inl a), .inr (.inl u), .inr (.inl h)] σ = zrv σ := by
  obtain ⟨d, rfl, -⟩ := y_d (k := 0) hd
  rw [e_X12_rounds, hg.2.1, if_neg (by omega)]
theorem m_copy {wh : Int → Int} {V : Int → Int → Int} {st b : Int} {pre : Int → Int} {d : Nat} {σ0 : zF} (hst : 0 ≤ st ∧ st ≤ 5) : ∀ (j : Nat) (k : Int) (σ : zF), 0 ≤ k → k + j = st → σ 57 50 = st → σ 57 54 = b → (∀ k, 0 ≤ k → k < st → σ 89 k = wh k) → (∀ a c, 0 ≤ a → a < 8 → 0 ≤ c → c < 8 → σ 88 (8 * a + c) = V a c) → (∀ j, 0 ≤ j → j < st → σ 90 j = pre j) → (∀ j, 0 ≤ j → j < k → σ 91 j = pre j) → yf yAgm σ0 σ → yT (P_X12_rounds_53 d k σ) (yV fun s => yGM wh V st b pre s ∧ (∀ j, 0 ≤ j → j < st → s 90 j = pre j) ∧ yf yAgm σ0 s) := by
  intro j
  induction j with
  | zero =>
    intro k σ k0 kj g1 g2 g3 g4 g5 g6 f
    rw [e_X12_rounds_53, g1, if_neg (by omega)]
    exact y_v ⟨⟨g1, g2, g3, g4, fun j j0 j1 => g6 j j0 (by omega)⟩, g5, f⟩
  | succ j ih =>
    intro k σ k0 kj g1 g2 g3 g4 g5 g6 f
    rw [e_X12_rounds_53, g1, if_pos (by omega), if_pos (by omega), if_pos (by omega), zw_i (x := k + 1) (by omega) (by omega)]
    refine ih (k + 1) _ (by omega) (by omega) ?_ ?_ (fun q q0 q1 => ?_) (fun a c a0 a1 c0 c1 => ?_) (fun q q0 q1 => ?_) (fun q q0 q1 => ?_) (yf_set f rfl)
    · rw [zset_k (by decide)]; exact g1
    · rw [zset_k (by decide)]; exact g2
    · rw [zset_k (by decide)]; exact g3 q q0 q1
    · rw [zset_k (by decide)]; exact g4 a c a0 a1 c0 c1
    · rw [zset_k (by decide)]; exact g5 q q0 q1
    · by_cases e : q = k
      · rw [zset_hit e, g5 k k0 (by omega), e]
      · rw [zset_off e]; exact g6 q q0 (by omega)
theorem y_go {S st : Int} {R : Int → Prop} {W V : Int → Int → Int} {wh : Int → Int} (hS : 0 ≤ S ∧ S < 8) (hst : 0 ≤ st ∧ st ≤ 5) (hR : ∀ a, R a → 0 ≤ a ∧ a < 8) (hw : ∀ k, 0 ≤ k → k < st → R (wh k)) (hm : ∀ j k, 0 ≤ j → j < k → k < st → wh j < wh k) (hWV : ∀ a c, 0 ≤ a → a < 8 → 0 ≤ c → c < 8 → W a c = V a c ∧ 0 ≤ V a c ∧ V a c ≤ 693 ∨ W a c = 1000000 ∧ V a c = 9999) : ∀ (m : Nat) (i a l u h b b' : Int) (ord ord' pre : Int → Int), 0 ≤ i → i + m = st → ycu u st.toNat = m → R a → 0 ≤ h → h ≤ 693 * i → zin l → (∀ n : Nat, 8 ≤ n → n < 32 → yb l n = false) → (∀ p : Int, 0 ≤ p → p < 8 → (yb l p.toNat = true ↔ ∃ k, 0 ≤ k ∧ k < st ∧ wh k = p ∧ yb u k.toNat = false)) → yRB st b ord b' ord' → yGo S R W V wh st i a l u h b b' ord ord' pre := by
  have hW : ∀ a c, 0 ≤ a → a < 8 → 0 ≤ c → c < 8 → 0 ≤ W a c ∧ W a c ≤ 1000000 := fun a c a0 a1 c0 c1 => by
    have := hWV a c a0 a1 c0 c1
    omega
  have inj : ∀ j k, 0 ≤ j → j < st → 0 ≤ k → k < st → wh j = wh k → j = k := fun j k j0 j1 k0 k1 e => by
    rcases Int.lt_or_le j k with h | h
    · have := hm j k j0 h k1; omega
    · rcases Int.lt_or_le k j with h2 | h2
      · have := hm k j k0 h2 j1; omega
      · omega
  have cut : ∀ (i a l u h b b' : Int) (ord ord' pre : Int → Int), 0 ≤ i → i ≤ 5 → R a → 0 ≤ h → h ≤ 1000000 * i + 1000000 → b ≤ h → b' ≤ h → (∀ p : Int, 0 ≤ p → p < 8 → yb l p.toNat = true → R p) → yRB st b ord b' ord' → yGo S R W V wh st i a l u h b b' ord ord' pre := fun i a l u h b b' ord ord' pre i0 i1 ra h0 h1 hb hb' hl hr => ⟨b, b', ord, ord', hr, fun d σ hd hg hp => y_mV (c_skip hS hst.2 hR hW (5 - i).toNat i a l h d σ i0 (by omega) (by omega) ra hl hb h0 h1 hg) (fun s hs => ⟨hs.1, fun j j0 j1 => (hs.2.1 j j0 j1).trans (hp j j0 j1), hs.2.2⟩), fun d σ hd hg hp => by
    rw [m_cut (by omega) hb' hg]
    exact y_v ⟨hg, hp, yf_rf⟩⟩
  intro m
  induction m with
  | zero =>
    intro i a l u h b b' ord ord' pre i0 im hu ra h0 h1 lz l8 hl hr
    have ab := hR a ra
    have hl2 : ∀ p : Int, 0 ≤ p → p < 8 → yb l p.toNat = true → R p := fun p p0 p1 e => by
      obtain ⟨k, k0, k1, rfl, -⟩ := (hl p p0 p1).mp e
      exact hw k k0 k1
    by_cases q : h < b'
    · have wv := hWV a S ab.1 ab.2 hS.1 hS.2
      have l0 : l = 0 := by
        refine (yb_z lz).mpr (fun n hn => ?_)
        rcases Nat.lt_or_ge n 8 with z | z
        · rcases e : yb l n with _ | _
          · rfl
          · obtain ⟨k, k0, k1, -, k3⟩ := (hl n (by omega) (by omega)).mp (by rw [show ((n : Int)).toNat = n by omega]; exact e)
            have := ycu_0 hu k.toNat (by omega)
            rw [this] at k3
            exact absurd k3 (by decide)
        · exact l8 n z hn
      have key : (h + W a S < b ↔ h + V a S < b') ∧ (h + W a S < b → h + W a S = h + V a S ∧ h + W a S ≤ 4158) := by
        rcases hr with ⟨r1, r2⟩ | ⟨r1, r2, r3, -⟩ <;> omega
      have comp : ∀ (d : Nat) (σ : zF), 12 - 2 * i ≤ (d : Int) → yGC S R W st b ord σ → (∀ j, 0 ≤ j → j < i → σ 29 j = pre j) → yT (zx d 50 [.inl (some 27), .inr (.inl a), .inr (.inl l), .inr (.inl h), .inr (.inl i)] σ) (yV fun s => (¬ h + W a S < b → s = σ) ∧ (h + W a S < b → yGC S R W st (h + W a S) (fun j => σ 29 j) s ∧ (∀ j, s 29 j = σ 29 j) ∧ yf yAgc σ s)) := fun d σ hd hg hp => by
        obtain ⟨d, rfl, hd'⟩ := y_d (k := 1) (d := d) (by omega)
        rw [e_X5_goOn, if_pos l0]
        exact c_fin (by omega) hS ra ab (by omega) h0 (by omega) hst.2 hg
      have mod : ∀ (d : Nat) (σ : zF), 7 - i ≤ (d : Int) → yGM wh V st b' ord' σ → (∀ j, 0 ≤ j → j < i → σ 90 j = pre j) → yT (zx d 209 [.inl (some 57), .inr (.inl i), .inr (.inl S), .inr (.inl a), .inr (.inl u), .inr (.inl h)] σ) (yV fun s => (¬ h + V a S < b' → s = σ) ∧ (h + V a S < b' → yGM wh V st (h + V a S) pre s ∧ (∀ j, 0 ≤ j → j < st → s 90 j = pre j) ∧ yf yAgm σ s)) := fun d σ hd hg hp => by
        obtain ⟨d, rfl, hd'⟩ := y_d (k := 1) (d := d) (by omega)
        obtain ⟨g1, g2, g3, g4, g5⟩ := hg
        rw [e_X12_rounds, g2, if_pos q, g1, if_pos (by omega), zw_i (x := 8 * a) (by omega) (by omega), zw_i (x := 8 * a + S) (by omega) (by omega), if_pos (by omega), g4 a S ab.1 ab.2 hS.1 hS.2, zw_i (x := h + V a S) (by omega) (by omega)]
        by_cases z : h + V a S < b'
        · rw [if_pos z]
          refine y_mV (m_copy (wh := wh) (V := V) (pre := pre) (b := h + V a S) hst st.toNat 0 _ (by omega) (by omega) ?_ (zset_hit rfl) (fun k k0 k1 => ?_) (fun a c a0 a1 c0 c1 => ?_) (fun j j0 j1 => ?_) (fun j j0 j1 => by omega) (yf_set yf_rf rfl)) (fun s hs => ⟨fun n => absurd z n, fun _ => hs⟩)
          · rw [zset_off (by decide)]; exact g1
          · rw [zset_k (by decide)]; exact g3 k k0 k1
          · rw [zset_k (by decide)]; exact g4 a c a0 a1 c0 c1
          · rw [zset_k (by decide)]; exact hp j j0 (by omega)
        · rw [if_neg z]
          exact y_v ⟨fun _ => rfl, fun n => absurd n z⟩
      by_cases t : h + W a S < b
      · refine ⟨h + W a S, h + V a S, pre, pre, Or.inr ⟨(key.2 t).1, by omega, (key.2 t).2, fun _ _ _ => rfl⟩, fun d σ hd hg hp => y_mV (comp d σ hd hg hp) (fun s hs => ?_), fun d σ hd hg hp => y_mV (mod d σ hd hg hp) (fun s hs => ?_)⟩
        · obtain ⟨⟨a1, a2, a3, a4⟩, a5, a6⟩ := hs.2 t
          exact ⟨⟨a1, a2, a3, fun j j0 j1 => (a4 j j0 j1).trans (hp j j0 (by omega))⟩, fun j j0 j1 => (a5 j).trans (hp j j0 j1), a6⟩
        · obtain ⟨a1, a2, a3⟩ := hs.2 (key.1.mp t)
          exact ⟨a1, fun j j0 j1 => a2 j j0 (by omega), a3⟩
      · refine ⟨b, b', ord, ord', hr, fun d σ hd hg hp => y_mV (comp d σ hd hg hp) (fun s hs => ?_), fun d σ hd hg hp => y_mV (mod d σ hd hg hp) (fun s hs => ?_)⟩
        · rw [hs.1 t]
          exact ⟨hg, hp, yf_rf⟩
        · rw [hs.1 (fun n => t (key.1.mpr n))]
          exact ⟨hg, hp, yf_rf⟩
    · exact cut i a l u h b b' ord ord' pre i0 (by omega) ra h0 (by omega) (by rcases hr with r | r <;> omega) (by omega) hl2 hr
  | succ m ih =>
    intro i a l u h b b' ord ord' pre i0 im hu ra h0 h1 lz l8 hl hr
    have ab := hR a ra
    have hl2 : ∀ p : Int, 0 ≤ p → p < 8 → yb l p.toNat = true → R p := fun p p0 p1 e => by
      obtain ⟨k, k0, k1, rfl, -⟩ := (hl p p0 p1).mp e
      exact hw k k0 k1
    by_cases q : h < b'
    · have l0 : ¬ l = 0 := by
        obtain ⟨j, j1, j2⟩ := ycu_p (u := u) (k := st.toNat) (by omega)
        have wj := hR _ (hw j (by omega) (by omega))
        have := (hl (wh j) wj.1 wj.2).mpr ⟨j, by omega, by omega, rfl, by rw [show ((j : Int)).toNat = j by omega]; exact j2⟩
        intro e
        rw [e, yb_0] at this
        exact absurd this (by decide)
      have loop : ∀ (j : Nat) (p k b b' : Int) (ord ord' : Int → Int), 0 ≤ p → p + j = 8 → 0 ≤ k → k ≤ st → (∀ q, 0 ≤ q → q < k → wh q < p) → (∀ q, k ≤ q → q < st → p ≤ wh q) → yRB st b ord b' ord' → ∃ b1 b1' ord1 ord1', yRB st b1 ord1 b1' ord1' ∧ (∀ (d : Nat) (σ : zF), 11 - 2 * i ≤ (d : Int) → yGC S R W st b ord σ → (∀ j, 0 ≤ j → j < i → σ 29 j = pre j) → yT (P_X5_goOn_35 d a l h i p σ) (yV fun s => yGC S R W st b1 ord1 s ∧ (∀ j, 0 ≤ j → j < i → s 29 j = pre j) ∧ yf yAgc σ s)) ∧ (∀ (d : Nat) (σ : zF), 6 - i ≤ (d : Int) → yGM wh V st b' ord' σ → (∀ j, 0 ≤ j → j < i → σ 90 j = pre j) → yT (P_X12_rounds_86 d i S a u h k σ) (yV fun s => yGM wh V st b1' ord1' s ∧ (∀ j, 0 ≤ j → j < i → s 90 j = pre j) ∧ yf yAgm σ s)) := by
        intro j
        induction j with
        | zero =>
          intro p k b b' ord ord' p0 pj k0 k1 w1 w2 hr
          have ks : k = st := by
            rcases Int.lt_or_le k st with z | z
            · have := w2 k (by omega) z
              have := hR _ (hw k k0 z)
              omega
            · omega
          refine ⟨b, b', ord, ord', hr, fun d σ hd hg hp => ?_, fun d σ hd hg hp => ?_⟩
          · rw [e_X5_goOn_35, if_neg (by omega)]
            exact y_v ⟨hg, hp, yf_rf⟩
          · rw [e_X12_rounds_86, hg.1, if_neg (by omega)]
            exact y_v ⟨hg, hp, yf_rf⟩
        | succ j jh =>
          intro p k b b' ord ord' p0 pj k0 k1 w1 w2 hr
          -- the component passes p over
          have skip : ∀ (b1 : Int) (ord1 : Int → Int), yb l p.toNat = false → (∀ (d : Nat) (σ : zF), 11 - 2 * i ≤ (d : Int) → yGC S R W st b ord σ → (∀ j, 0 ≤ j → j < i → σ 29 j = pre j) → yT (P_X5_goOn_35 d a l h i (p + 1) σ) (yV fun s => yGC S R W st b1 ord1 s ∧ (∀ j, 0 ≤ j → j < i → s 29 j = pre j) ∧ yf yAgc σ s)) → (∀ (d : Nat) (σ : zF), 11 - 2 * i ≤ (d : Int) → yGC S R W st b ord σ → (∀ j, 0 ≤ j → j < i → σ 29 j = pre j) → yT (P_X5_goOn_35 d a l h i p σ) (yV fun s => yGC S R W st b1 ord1 s ∧ (∀ j, 0 ≤ j → j < i → s 29 j = pre j) ∧ yf yAgc σ s)) := fun b1 ord1 e H d σ hd hg hp => by
            rw [e_X5_goOn_35, if_pos (by omega), zw_i (x := p + 1) (by omega) (by omega), if_neg (by rw [yb_g1 p0 (by omega), e]; decide)]
            exact H d σ hd hg hp
          by_cases hk : k < st ∧ wh k = p
          · have kb : k ≤ 4 := by omega
            have w1' : ∀ q, 0 ≤ q → q < k + 1 → wh q < p + 1 := fun q q0 q1 => by
              by_cases e : q = k
              · rw [e]; omega
              · have := w1 q q0 (by omega); omega
            have w2' : ∀ q, k + 1 ≤ q → q < st → p + 1 ≤ wh q := fun q q0 q1 => by
              have := hm k q k0 (by omega) q1; omega
            by_cases hu2 : yb u k.toNat = true
            · have e : yb l p.toNat = false := by
                rcases e : yb l p.toNat with _ | _
                · rfl
                · obtain ⟨k', g0, g1, g2, g3⟩ := (hl p p0 (by omega)).mp e
                  rw [inj k' k g0 g1 k0 hk.1 (by omega), hu2] at g3
                  exact absurd g3 (by decide)
              obtain ⟨b1, b1', o1, o1', r1, C1, M1⟩ := jh (p + 1) (k + 1) b b' ord ord' (by omega) (by omega) (by omega) (by omega) w1' w2' hr
              refine ⟨b1, b1', o1, o1', r1, skip b1 o1 e C1, fun d σ hd hg hp => ?_⟩
              rw [e_X12_rounds_86, hg.1, if_pos hk.1, zw_i (x := k + 1) (by omega) (by omega), if_pos ((yb_g1 k0 (by omega)).mpr hu2)]
              exact M1 d σ hd hg hp
            · have hu3 : yb u k.toNat = false := by simpa using hu2
              have e : yb l p.toNat = true := (hl p p0 (by omega)).mpr ⟨k, k0, hk.1, hk.2, hu3⟩
              have wv := hWV a p ab.1 ab.2 p0 (by omega)
              have rp : R p := hl2 p p0 (by omega) e
              -- one order more
              have one : yGo S R W V wh st (i + 1) p (zand l (zxor (zshl 1 p) (-1))) (zor u (zshl 1 k)) (h + W a p) b b' ord ord' (fun j => if j = i then p else pre j) ∧ W a p = V a p ∨ W a p = 1000000 ∧ V a p = 9999 := by
                rcases wv with wv | wv
                · refine Or.inl ⟨?_, wv.1⟩
                  refine ih (i + 1) p _ _ (h + W a p) b b' ord ord' _ (by omega) (by omega) ?_ rp (by omega) (by omega) (zand_in _ _) (fun n n0 n1 => ?_) (fun r r0 r1 => ?_) hr
                  · rw [ycu_s k0 (by omega) hu3 st.toNat (by omega), if_pos (by omega), hu]
                    omega
                  · rcases z : yb (zand l (zxor (zshl 1 p) (-1))) n with _ | _
                    · rfl
                    · have := ((yb_not2 l p0 (by omega) n1).mp z).1
                      rw [l8 n n0 n1] at this
                      exact absurd this (by decide)
                  · rw [yb_not2 l p0 (by omega) (by omega), hl r r0 r1]
                    constructor
                    · rintro ⟨⟨k', g0, g1, g2, g3⟩, g4⟩
                      refine ⟨k', g0, g1, g2, ?_⟩
                      rw [yb_or, g3, yb_1 k0 (by omega), Bool.false_or, decide_eq_false_iff_not]
                      intro z
                      have : k' = k := by omega
                      subst this
                      omega
                    · rintro ⟨k', g0, g1, g2, g3⟩
                      rw [yb_or, yb_1 k0 (by omega), Bool.or_eq_false_iff, decide_eq_false_iff_not] at g3
                      refine ⟨⟨k', g0, g1, g2, g3.1⟩, fun z => g3.2 ?_⟩
                      have := inj k' k g0 g1 k0 hk.1 (by omega)
                      omega
                · exact Or.inr wv
              have wb := hW a p ab.1 ab.2 p0 (by omega)
              -- the component's step
              have cst : ∀ (b1 b2 : Int) (o1 o2 : Int → Int), (∀ (d : Nat) (σ : zF), 12 - 2 * (i + 1) ≤ (d : Int) → yGC S R W st b ord σ → (∀ j, 0 ≤ j → j < i + 1 → σ 29 j = if j = i then p else pre j) → yT (zx d 50 [.inl (some 27), .inr (.inl p), .inr (.inl (zand l (zxor (zshl 1 p) (-1)))), .inr (.inl (h + W a p)), .inr (.inl (i + 1))] σ) (yV fun s => yGC S R W st b1 o1 s ∧ (∀ j, 0 ≤ j → j < i + 1 → s 29 j = if j = i then p else pre j) ∧ yf yAgc σ s)) → (∀ (d : Nat) (σ : zF), 11 - 2 * i ≤ (d : Int) → yGC S R W st b1 o1 σ → (∀ j, 0 ≤ j → j < i → σ 29 j = pre j) → yT (P_X5_goOn_35 d a l h i (p + 1) σ) (yV fun s => yGC S R W st b2 o2 s ∧ (∀ j, 0 ≤ j → j < i → s 29 j = pre j) ∧ yf yAgc σ s)) → (∀ (d : Nat) (σ : zF), 11 - 2 * i ≤ (d : Int) → yGC S R W st b ord σ → (∀ j, 0 ≤ j → j < i → σ 29 j = pre j) → yT (P_X5_goOn_35 d a l h i p σ) (yV fun s => yGC S R W st b2 o2 s ∧ (∀ j, 0 ≤ j → j < i → s 29 j = pre j) ∧ yf yAgc σ s)) := fun b1 b2 o1 o2 H1 H2 d σ hd hg hp => by
                rw [e_X5_goOn_35, if_pos (by omega), zw_i (x := p + 1) (by omega) (by omega), if_pos ((yb_g1 p0 (by omega)).mpr e), if_pos (by omega), zw_i (x := a * 8) (by omega) (by omega), zw_i (x := a * 8 + p) (by omega) (by omega), hg.2.2.1 a p ra p0 (by omega), zw_i (x := h + W a p) (by omega) (by omega), zw_i (x := i + 1) (by omega) (by omega), if_pos (by omega)]
                refine y_cV (H1 d _ (by omega) (yGC_29 hg) (fun j j0 j1 => ?_)) (fun t ht => ?_)
                · by_cases z : j = i
                  · rw [zset_hit z, if_pos z]
                  · rw [zset_off z, if_neg z]; exact hp j j0 (by omega)
                · refine y_mV (H2 d t hd ht.1 (fun j j0 j1 => ?_)) (fun s hs => ⟨hs.1, hs.2.1, yf_tr (yf_tr (yf_set yf_rf rfl) ht.2.2) hs.2.2⟩)
                  rw [ht.2.1 j j0 (by omega), if_neg (by omega)]
              have mst : ∀ (b1 b2 : Int) (o1 o2 : Int → Int), (∀ (d : Nat) (σ : zF), 7 - (i + 1) ≤ (d : Int) → yGM wh V st b' ord' σ → (∀ j, 0 ≤ j → j < i + 1 → σ 90 j = if j = i then p else pre j) → yT (zx d 209 [.inl (some 57), .inr (.inl (i + 1)), .inr (.inl S), .inr (.inl p), .inr (.inl (zor u (zshl 1 k))), .inr (.inl (h + V a p))] σ) (yV fun s => yGM wh V st b1 o1 s ∧ (∀ j, 0 ≤ j → j < i + 1 → s 90 j = if j = i then p else pre j) ∧ yf yAgm σ s)) → (∀ (d : Nat) (σ : zF), 6 - i ≤ (d : Int) → yGM wh V st b1 o1 σ → (∀ j, 0 ≤ j → j < i → σ 90 j = pre j) → yT (P_X12_rounds_86 d i S a u h (k + 1) σ) (yV fun s => yGM wh V st b2 o2 s ∧ (∀ j, 0 ≤ j → j < i → s 90 j = pre j) ∧ yf yAgm σ s)) → (∀ (d : Nat) (σ : zF), 6 - i ≤ (d : Int) → yGM wh V st b' ord' σ → (∀ j, 0 ≤ j → j < i → σ 90 j = pre j) → yT (P_X12_rounds_86 d i S a u h k σ) (yV fun s => yGM wh V st b2 o2 s ∧ (∀ j, 0 ≤ j → j < i → s 90 j = pre j) ∧ yf yAgm σ s)) := fun b1 b2 o1 o2 H1 H2 d σ hd hg hp => by
                have k8 : 0 ≤ k ∧ k < 8 := by omega
                rw [e_X12_rounds_86, hg.1, if_pos hk.1, zw_i (x := k + 1) (by omega) (by omega), if_neg (by rw [yb_g1 k0 (by omega), hu3]; decide), if_pos k8, if_pos (by omega), if_pos k8, if_pos k8, hg.2.2.1 k k0 hk.1, hk.2, zw_i (x := 8 * a) (by omega) (by omega), zw_i (x := 8 * a + p) (by omega) (by omega), hg.2.2.2.1 a p ab.1 ab.2 p0 (by omega), zw_i (x := h + V a p) (by omega) (by omega), zw_i (x := i + 1) (by omega) (by omega), if_pos (by omega)]
                refine y_cV (H1 d _ (by omega) (yGM_90 hg) (fun j j0 j1 => ?_)) (fun t ht => ?_)
                · by_cases z : j = i
                  · rw [zset_hit z, if_pos z]
                  · rw [zset_off z, if_neg z]; exact hp j j0 (by omega)
                · refine y_mV (H2 d t hd ht.1 (fun j j0 j1 => ?_)) (fun s hs => ⟨hs.1, hs.2.1, yf_tr (yf_tr (yf_set yf_rf rfl) ht.2.2) hs.2.2⟩)
                  rw [ht.2.1 j j0 (by omega), if_neg (by omega)]
              rcases one with ⟨⟨b1, b1', o1, o1', r1, C1, M1⟩, ewv⟩ | ewv
              · obtain ⟨b2, b2', o2, o2', r2, C2, M2⟩ := jh (p + 1) (k + 1) b1 b1' o1 o1' (by omega) (by omega) (by omega) (by omega) w1' w2' r1
                rw [ewv] at M1
                exact ⟨b2, b2', o2, o2', r2, cst b1 b2 o1 o2 C1 C2, mst b1' b2' o1' o2' M1 M2⟩
              · obtain ⟨b2, b2', o2, o2', r2, C2, M2⟩ := jh (p + 1) (k + 1) b b' ord ord' (by omega) (by omega) (by omega) (by omega) w1' w2' hr
                have bb : b ≤ 1000000 ∧ b' ≤ 9999 := by rcases hr with r | r <;> omega
                refine ⟨b2, b2', o2, o2', r2, cst b b2 ord o2 (fun d σ hd hg hp => ?_) C2, mst b' b2' ord' o2' (fun d σ hd hg hp => ?_) M2⟩
                · exact y_mV (c_skip hS hst.2 hR hW (4 - i).toNat (i + 1) p _ (h + W a p) d σ (by omega) (by omega) (by omega) rp (fun r r0 r1 z => hl2 r r0 r1 ((yb_not2 l p0 (by omega) (by omega)).mp z).1) (by omega) (by omega) (by omega) hg) (fun s hs => ⟨hs.1, fun j j0 j1 => (hs.2.1 j j0 j1).trans (hp j j0 j1), hs.2.2⟩)
                · rw [m_cut (by omega) (by omega) hg]
                  exact y_v ⟨hg, hp, yf_rf⟩
          · have w2' : ∀ q, k ≤ q → q < st → p + 1 ≤ wh q := fun q q0 q1 => by
              have := w2 q q0 q1
              by_cases z : q = k
              · subst z
                have : ¬ wh q = p := fun z => hk ⟨q1, z⟩
                omega
              · have := hm k q k0 (by omega) q1
                have := w2 k (by omega) (by omega)
                omega
            have e : yb l p.toNat = false := by
              rcases e : yb l p.toNat with _ | _
              · rfl
              · obtain ⟨k', g0, g1, g2, g3⟩ := (hl p p0 (by omega)).mp e
                rcases Int.lt_or_le k' k with z | z
                · have := w1 k' g0 z; omega
                · have := w2' k' z g1; omega
            obtain ⟨b1, b1', o1, o1', r1, C1, M1⟩ := jh (p + 1) k b b' ord ord' (by omega) (by omega) k0 k1 (fun q q0 q1 => by have := w1 q q0 q1; omega) w2' hr
            exact ⟨b1, b1', o1, o1', r1, skip b1 o1 e C1, M1⟩
      obtain ⟨b1, b1', o1, o1', r1, C1, M1⟩ := loop 8 0 0 b b' ord ord' (by omega) (by omega) (by omega) hst.1 (fun q q0 q1 => by omega) (fun q q0 q1 => (hR _ (hw q q0 q1)).1) hr
      refine ⟨b1, b1', o1, o1', r1, fun d σ hd hg hp => ?_, fun d σ hd hg hp => ?_⟩
      · obtain ⟨d, rfl, hd'⟩ := y_d (k := 1) (d := d) (by omega)
        rw [e_X5_goOn, if_neg l0, if_pos (by omega)]
        exact C1 d σ (by omega) hg hp
      · obtain ⟨d, rfl, hd'⟩ := y_d (k := 1) (d := d) (by omega)
        rw [e_X12_rounds, hg.2.1, if_pos q, hg.1, if_neg (by omega)]
        exact M1 d σ (by omega) hg hp
    · exact cut i a l u h b b' ord ord' pre i0 (by omega) ra h0 (by omega) (by rcases hr with r | r <;> omega) (by omega) hl2 hr
