/-! Sundays by two -/
def yss (g : Int → Int) : Nat → Int → Int
  | 0, _ => 0
  | j + 1, k => g k + yss g j (k + 1)
theorem yss_b {g : Int → Int} (h : ∀ k, 0 ≤ g k ∧ g k ≤ 24) : ∀ (j : Nat) (k : Int), 0 ≤ yss g j k ∧ yss g j k ≤ 24 * j
  | 0, _ => by unfold yss; omega
  | j + 1, k => by
    have a := yss_b h j (k + 1)
    have b := h k
    unfold yss
    omega
theorem ysc_s {f : Int → Bool} {j : Nat} {k : Int} (h : f k = true) : ysc f (j + 1) k = 1 + ysc f j (k + 1) := by
  show (if _ then _ else _) + _ = _
  rw [if_pos h]
theorem ysc_n {f : Int → Bool} {j : Nat} {k : Int} (h : ¬ f k = true) : ysc f (j + 1) k = ysc f j (k + 1) := by
  show (if _ then _ else _) + _ = _
  rw [if_neg h]
  omega
abbrev yAv : List Nat × List (Nat × Int) := ([16, 18, 19, 20, 21, 26], [(14, 3)])
theorem c_two_in {d : Nat} (hd : 6 ≤ d) {N σ0 : zF} {G : yG} {T w s : Int} {m1 el : Int → Int} {sz A : Int} {f : Int → Bool} {Q : zR → Prop} {t : Int} (h0 : 0 ≤ s) (h1 : s < 6) (hsz : 0 ≤ sz ∧ sz ≤ 60) (hs0 : σ0 (ysh s) 1 = sz) (hel : ∀ i, 0 ≤ i → i < 60 → σ0 (ysr s) i = el i) (hm1 : yBm m1) (hf : ∀ u, f u = decide (yun (N 0 0) (yHR N G (ypw N w) (ydd N u m1)) el sz.toNat 0 = -2)) (hA : A ≤ 1000) (hQ : ∀ (m : Int → Int) (σ : zF), yX N G T w m σ → yf yAv σ0 σ → yT (P_X6_pairsThatFit_18 d (ysh s) A (1 + 2 * N 0 0) (zw (t + 1)) σ) Q) : ∀ (j : Nat) (u acc : Int) (m : Int → Int) (σ : zF), 0 ≤ u → u + j = 1 + 2 * N 0 0 → 0 ≤ acc → acc + ysc f j u = A → yX N G T w m σ → (∀ c, 0 ≤ c → c < 12 → σ 26 c = m1 c) → yf yAv σ0 σ → yT (P_X6_pairsThatFit_33 d (ysh s) acc (1 + 2 * N 0 0) t u σ) Q := by
  have o := fun i => yoff (A := yAv) (by decide) h0 h1 i
  have o8 := fun i => yoff (A := ([18], [])) (by decide) h0 h1 i
  intro j
  induction j with
  | zero =>
    intro u acc m σ u0 hu a0 ha hX h26 g
    rw [e_X6_pairsThatFit_33]
    have : acc = A := by have : ysc f 0 u = 0 := rfl; omega
    rw [this]
    exact y_n (by omega) (hQ m σ hX g)
  | succ j ih =>
    intro u acc m σ u0 hu a0 ha hX h26 g
    have b1 := hX.1.2.1
    rw [e_X6_pairsThatFit_33]
    refine y_g (by omega) (y_cV (c_second (by omega) hX hm1 h26 u0 (by omega)) (fun s1 hs1 => ?_))
    have g1 : yf yAv σ0 s1 := yf_tr g (yf_le hs1.2 (by decide))
    have z1 : s1 (ysh s) 1 = sz := (g1 _ _ (o 1).1).trans hs0
    refine y_cI (c_unl hd (el := el) h0 h1 (by rw [z1]; exact hsz) (fun i a b => (g1 _ _ (o i).2).trans (hel i a b)) hs1.1) (fun v s2 hs2 => ?_)
    have g2 : yf yAv σ0 s2 := yf_tr g1 (yf_le hs2.2.2 (by decide))
    have k26 : ∀ c, 0 ≤ c → c < 12 → s2 26 c = m1 c := fun c a b => ((hs2.2.2 26 c rfl).trans (hs1.2 26 c rfl)).trans (h26 c a b)
    have ev : v = yun (N 0 0) (yHR N G (ypw N w) (ydd N u m1)) el sz.toNat 0 := by rw [hs2.1, z1]
    have hft := hf u
    have bsc := ysc_b f j (u + 1)
    rw [zw_i (x := u + 1) (by omega) (by omega)]
    refine y_if (fun q => ?_) (fun q => ?_)
    · have ft : f u = true := by rw [hft, ← ev, q]; rfl
      rw [ysc_s ft] at ha
      rw [zw_i (x := acc + 1) (by omega) (by omega)]
      exact ih (u + 1) (acc + 1) _ s2 (by omega) (by omega) (by omega) (by omega) hs2.2.1 k26 g2
    · have ft : ¬ f u = true := by rw [hft, ← ev]; simp [q]
      rw [ysc_n ft] at ha
      exact ih (u + 1) acc _ s2 (by omega) (by omega) (by omega) (by omega) hs2.2.1 k26 g2
theorem c_two_l {d : Nat} (hd : 6 ≤ d) {N σ0 : zF} {G : yG} {T w s : Int} {el : Int → Int} {sz A : Int} {f : Int → Int → Bool} (h0 : 0 ≤ s) (h1 : s < 6) (hsz : 0 ≤ sz ∧ sz ≤ 60) (hs0 : σ0 (ysh s) 1 = sz) (hel : ∀ i, 0 ≤ i → i < 60 → σ0 (ysr s) i = el i) (hf : ∀ t u, f t u = decide (yun (N 0 0) (yHR N G (ypw N w) (ydd N u (ydd N t (N 6)))) el sz.toNat 0 = -2)) (hA : A ≤ 1000) : ∀ (j : Nat) (t acc : Int) (m : Int → Int) (σ : zF), 1 ≤ t → t + j = 1 + 2 * N 0 0 → 0 ≤ acc → acc + yss (fun t => ysc (f t) (2 * N 0 0).toNat 1) j t = A → yX N G T w m σ → yf yAv σ0 σ → yT (P_X6_pairsThatFit_18 d (ysh s) acc (1 + 2 * N 0 0) t σ) (yI fun v u => v = A ∧ (∃ m, yX N G T w m u) ∧ yf yAv σ0 u) := by
  intro j
  induction j with
  | zero =>
    intro t acc m σ t0 ht a0 ha hX g
    rw [e_X6_pairsThatFit_18]
    refine y_n (by omega) (y_i ⟨?_, ⟨m, hX⟩, g⟩)
    have : yss (fun t => ysc (f t) (2 * N 0 0).toNat 1) 0 t = 0 := rfl
    omega
  | succ j ih =>
    intro t acc m σ t0 ht a0 ha hX g
    have b1 := hX.1.2.1
    have b0 := hX.1.1
    have bb : ∀ k, 0 ≤ ysc (f k) (2 * N 0 0).toNat 1 ∧ ysc (f k) (2 * N 0 0).toNat 1 ≤ 24 := fun k => by
      have := ysc_b (f k) (2 * N 0 0).toNat 1
      omega
    have by2 := yss_b (g := fun t => ysc (f t) (2 * N 0 0).toNat 1) bb j (t + 1)
    have ba := bb t
    have ha2 : acc + ysc (f t) (2 * N 0 0).toNat 1 + yss (fun t => ysc (f t) (2 * N 0 0).toNat 1) j (t + 1) = A := by
      rw [← ha]
      show _ = acc + (ysc (f t) (2 * N 0 0).toNat 1 + yss (fun t => ysc (f t) (2 * N 0 0).toNat 1) j (t + 1))
      omega
    rw [e_X6_pairsThatFit_18]
    refine y_g (by omega) (y_cV (c_first (by omega) hX (by omega) (by omega)) (fun s1 hs1 => ?_))
    refine c_two_in hd (σ0 := σ0) (T := T) (w := w) (m1 := ydd N t (N 6)) (f := f t) (A := acc + ysc (f t) (2 * N 0 0).toNat 1) h0 h1 hsz hs0 hel hs1.1.2.1 (fun u => hf t u) (by omega) (fun m' σ' hX' g' => ?_) (2 * N 0 0).toNat 1 acc _ s1 (by omega) (by omega) a0 rfl hs1.1 hs1.2.1 (yf_tr g (yf_le hs1.2.2 (by decide)))
    rw [zw_i (x := t + 1) (by omega) (by omega)]
    exact ih (t + 1) _ m' σ' (by omega) (by omega) (by omega) ha2 hX' g'
theorem m_two_in {d : Nat} (hd : 7 ≤ d) {N σ0 : zF} {G : yG} {s : Int} {p m0 el : Int → Int} {sz A v : Int} {f : Int → Bool} {Q : zR → Prop} (h0 : 0 ≤ s) (h1 : s < 6) (hsz : 0 ≤ sz ∧ sz ≤ 60) (hr : ∀ i, 0 ≤ i → i < 60 → -32768 ≤ el i ∧ el i < 32768) (hs0 : σ0 82 s = sz) (hel : ∀ i, 0 ≤ i → i < 60 → σ0 83 (60 * s + i) = el i) (h860 : ∀ c, 0 ≤ c → c < 12 → σ0 86 c = m0 c) (hv0 : 0 ≤ v) (hv3 : v < 3 * N 0 0) (hf : ∀ u, f u = decide (yun (N 0 0) (yHR N G p (ydd N u (ydd N (2 * (v / 3) + v % 3) m0))) el sz.toNat 0 = -2)) (hA : A ≤ 1000) (hQ : ∀ (σ : zF), yY N G p m0 σ → yf yAm σ0 σ → yT (P_X12_byTwo_12 d s A (zw (v + 1)) σ) Q) : ∀ (j : Nat) (x : Int) (q : Nat) (t acc : Int) (σ : zF), 0 ≤ x → x + j = 3 * N 0 0 → t = (if x % 3 = 2 then 2 * (x / 3) + 2 else 2 * (x / 3) + 1) → t + q = 1 + 2 * N 0 0 → 0 ≤ acc → acc + (if 0 < v % 3 then ysc f q t else 0) = A → yY N G p m0 σ → yf yAm σ0 σ → yT (P_X12_byTwo_25 d s acc v x σ) Q := by
  intro j
  induction j with
  | zero =>
    intro x q t acc σ x0 hx ht hq a0 ha hY g
    have b1 := hY.1.2.1
    have b0 := hY.1.1
    rw [e_X12_byTwo_25, hY.2.2.2.1.1, zw_i (x := 3 * N 0 0) (by omega) (by omega)]
    have q0 : q = 0 := by split at ht <;> omega
    have : acc = A := by
      subst q0
      have : ysc f 0 t = 0 := rfl
      split at ha <;> omega
    rw [this]
    exact y_n (by omega) (hQ σ hY g)
  | succ j ih =>
    intro x q t acc σ x0 hx ht hq a0 ha hY g
    have b1 := hY.1.2.1
    have b0 := hY.1.1
    rw [e_X12_byTwo_25, hY.2.2.2.1.1, zw_i (x := 3 * N 0 0) (by omega) (by omega), zw_i (x := x + 1) (by omega) (by omega), m_isDeed (by omega) hY.1 hY.2.2.2.1 hv0 hv3, zCI_ri, y01]
    refine y_g (by omega) (y_if (fun z => ?_) (fun z => ?_))
    · rw [if_pos z] at ha
      rw [m_isDeed (by omega) hY.1 hY.2.2.2.1 x0 (by omega), zCI_ri, y01]
      refine y_if (fun z2 => ?_) (fun z2 => ?_)
      · refine y_cV (m_deed (by omega) hY hv0 hv3 z) (fun s1 hs1 => ?_)
        refine y_cV (m_deed (by omega) hs1.1 x0 (by omega) z2) (fun s2 hs2 => ?_)
        have g2 : yf yAm σ0 s2 := yf_tr g (yf_tr (yf_le hs1.2 (by decide)) (yf_le hs2.2 (by decide)))
        refine y_cI (m_unl hd (el := el) h0 h1 hr (by rw [g2 82 s rfl, hs0]; exact hsz) (fun i a b => (g2 83 _ rfl).trans (hel i a b)) hs2.1) (fun w s3 hs3 => ?_)
        have g3 : yf yAm σ0 s3 := yf_tr g2 (yf_le hs3.2 (by decide))
        have a := m_again86 (d := d) (by omega) (m := m0) (yM_f hs2.1.2.2.2.1 hs3.2 (by decide)) (fun c a b => (g3 86 c rfl).trans (h860 c a b))
        have et : t = 2 * (x / 3) + x % 3 := by split at ht <;> omega
        have ew : w = yun (N 0 0) (yHR N G p (ydd N t (ydd N (2 * (v / 3) + v % 3) m0))) el sz.toNat 0 := by rw [hs3.1, g2 82 s rfl, hs0, et]
        have hft := hf t
        obtain ⟨q', rfl⟩ : ∃ q', q = q' + 1 := ⟨q - 1, by omega⟩
        have bsc := ysc_b f q' (t + 1)
        have ih2 := fun acc' s4 (ha' : 0 ≤ acc') (hs : acc' + ysc f q' (t + 1) = A) (hs4 : yM N p m0 s4 ∧ yf ([60], []) s3 s4) => by
          have g4 : yf yAm σ0 s4 := yf_tr g3 (yf_le hs4.2 (by decide))
          have gl : yf yAm σ s4 := yf_tr (yf_tr (yf_le hs1.2 (by decide)) (yf_le hs2.2 (by decide))) (yf_tr (yf_le hs3.2 (by decide)) (yf_le hs4.2 (by decide)))
          exact ih (x + 1) q' (t + 1) acc' s4 (by omega) (by omega) (by split at ht <;> split <;> omega) (by omega) ha' (by rw [if_pos z]; exact hs) ⟨hY.1, hY.2.1, hY.2.2.1, hs4.1, yLM_f hY.2.2.2.2 gl (by decide)⟩ g4
        refine y_if (fun z3 => y_cV a (fun s4 hs4 => ?_)) (fun z3 => y_cV a (fun s4 hs4 => ?_))
        · have ft : f t = true := by rw [hft, ← ew, z3]; rfl
          rw [ysc_s ft] at ha
          rw [zw_i (x := acc + 1) (by omega) (by omega)]
          exact ih2 _ s4 (by omega) (by omega) hs4
        · have ft : ¬ f t = true := by rw [hft, ← ew]; simp [z3]
          rw [ysc_n ft] at ha
          exact ih2 _ s4 a0 ha hs4
      · exact ih (x + 1) q t acc σ (by omega) (by omega) (by split at ht <;> split <;> omega) hq a0 (by rw [if_pos z]; exact ha) hY g
    · rw [if_neg z] at ha
      by_cases z2 : x % 3 = 0
      · exact ih (x + 1) q t acc σ (by omega) (by omega) (by split at ht <;> split <;> omega) hq a0 (by rw [if_neg z]; exact ha) hY g
      · exact ih (x + 1) (q - 1) (t + 1) acc σ (by omega) (by omega) (by split at ht <;> split <;> omega) (by split at ht <;> omega) a0 (by rw [if_neg z]; exact ha) hY g
theorem m_two_l {d : Nat} (hd : 7 ≤ d) {N σ0 : zF} {G : yG} {s : Int} {p m0 el : Int → Int} {sz A : Int} {f : Int → Int → Bool} (h0 : 0 ≤ s) (h1 : s < 6) (hsz : 0 ≤ sz ∧ sz ≤ 60) (hr : ∀ i, 0 ≤ i → i < 60 → -32768 ≤ el i ∧ el i < 32768) (hs0 : σ0 82 s = sz) (hel : ∀ i, 0 ≤ i → i < 60 → σ0 83 (60 * s + i) = el i) (h860 : ∀ c, 0 ≤ c → c < 12 → σ0 86 c = m0 c) (hf : ∀ t u, f t u = decide (yun (N 0 0) (yHR N G p (ydd N u (ydd N t m0))) el sz.toNat 0 = -2)) (hA : A ≤ 1000) : ∀ (j : Nat) (v : Int) (q : Nat) (t acc : Int) (σ : zF), 0 ≤ v → v + j = 3 * N 0 0 → t = (if v % 3 = 2 then 2 * (v / 3) + 2 else 2 * (v / 3) + 1) → t + q = 1 + 2 * N 0 0 → 0 ≤ acc → acc + yss (fun t => ysc (f t) (2 * N 0 0).toNat 1) q t = A → yY N G p m0 σ → yf yAm σ0 σ → yT (P_X12_byTwo_12 d s acc v σ) (yI fun w u => w = A ∧ yM N p m0 u ∧ yf yAm σ0 u) := by
  intro j
  induction j with
  | zero =>
    intro v q t acc σ v0 hv ht hq a0 ha hY g
    have b1 := hY.1.2.1
    have b0 := hY.1.1
    rw [e_X12_byTwo_12, hY.2.2.2.1.1, zw_i (x := 3 * N 0 0) (by omega) (by omega)]
    have q0 : q = 0 := by split at ht <;> omega
    subst q0
    refine y_n (by omega) (y_i ⟨?_, hY.2.2.2.1, g⟩)
    have : yss (fun t => ysc (f t) (2 * N 0 0).toNat 1) 0 t = 0 := rfl
    omega
  | succ j ih =>
    intro v q t acc σ v0 hv ht hq a0 ha hY g
    have b1 := hY.1.2.1
    have b0 := hY.1.1
    have bb : ∀ k, 0 ≤ ysc (f k) (2 * N 0 0).toNat 1 ∧ ysc (f k) (2 * N 0 0).toNat 1 ≤ 24 := fun k => by
      have := ysc_b (f k) (2 * N 0 0).toNat 1
      omega
    rw [e_X12_byTwo_12, hY.2.2.2.1.1, zw_i (x := 3 * N 0 0) (by omega) (by omega)]
    refine y_g (by omega) ?_
    by_cases z : 0 < v % 3
    · obtain ⟨q', rfl⟩ : ∃ q', q = q' + 1 := ⟨q - 1, by split at ht <;> omega⟩
      have by2 := yss_b (g := fun t => ysc (f t) (2 * N 0 0).toNat 1) bb q' (t + 1)
      have ba := bb t
      have ha2 : acc + ysc (f t) (2 * N 0 0).toNat 1 + yss (fun t => ysc (f t) (2 * N 0 0).toNat 1) q' (t + 1) = A := by
        rw [← ha]
        show _ = acc + (ysc (f t) (2 * N 0 0).toNat 1 + yss (fun t => ysc (f t) (2 * N 0 0).toNat 1) q' (t + 1))
        omega
      have et : t = 2 * (v / 3) + v % 3 := by split at ht <;> omega
      refine m_two_in hd (σ0 := σ0) (f := f t) (A := acc + ysc (f t) (2 * N 0 0).toNat 1) h0 h1 hsz hr hs0 hel h860 v0 (by omega) (fun u => by rw [hf t u, et]) (by omega) (fun σ' hY' g' => ?_) (3 * N 0 0).toNat 0 (2 * N 0 0).toNat 1 acc σ (by omega) (by omega) (by decide) (by omega) a0 (by rw [if_pos z]) hY g
      rw [zw_i (x := v + 1) (by omega) (by omega)]
      exact ih (v + 1) q' (t + 1) _ σ' (by omega) (by omega) (by split at ht <;> split <;> omega) (by omega) (by omega) ha2 hY' g'
    · have by2 := yss_b (g := fun t => ysc (f t) (2 * N 0 0).toNat 1) bb q t
      refine m_two_in hd (σ0 := σ0) (f := f (2 * (v / 3) + v % 3)) (A := acc) h0 h1 hsz hr hs0 hel h860 v0 (by omega) (fun u => hf _ u) (by omega) (fun σ' hY' g' => ?_) (3 * N 0 0).toNat 0 (2 * N 0 0).toNat 1 acc σ (by omega) (by omega) (by decide) (by omega) a0 (by rw [if_neg z]; omega) hY g
      rw [zw_i (x := v + 1) (by omega) (by omega)]
      exact ih (v + 1) q t acc σ' (by omega) (by omega) (by split at ht <;> split <;> omega) hq a0 ha hY' g'
theorem o_sunday {x y : Int} : yStep 126 225 [.inr (.inl x), .inr (.inl y)] := by
  intro d hd c N G σ hI c0 c1
  obtain ⟨d, rfl, hd'⟩ := y_d hd; have hd := hd'
  obtain ⟨n1, n2, n3, n4⟩ := yI_n hI
  have mod : ∀ s : zF, zx (d + 1) 225 [.inl (some 57), .inr (.inl x), .inr (.inl y)] s = if 0 ≤ x ∧ x < 6 then (if 0 ≤ y ∧ y ≤ 2 then (zCI LAY (zx d 218 [.inl (some 57), .inr (.inl x)] s) fun r6 s5 => if r6 < 0 then zri r6 s5 else (if y = 2 then (zCI LAY (zx d 224 [.inl (some 57), .inr (.inl x)] s5) fun r10 s9 => zri r10 s9) else (zCI LAY (zx d 223 [.inl (some 57), .inr (.inl x), .inr (.inl y)] s5) fun r8 s7 => zri r8 s7))) else zri (-1) s) else zri (-1) s := by
    intro s
    rw [e_X12_sunday, k_mShelf (by omega), zCI_ri, y01, k_within (by omega), zCI_ri, y01]
  rw [e_X11_sunday, k_isShelf (by omega), zCI_ri, y01, y_rg]
  by_cases h : 0 ≤ x ∧ x < 6
  · rw [if_pos h]
    by_cases hy : 0 ≤ y ∧ y ≤ 2
    · have hsh := hI.2.2.2.2.2.2.2.2.2 x h.1 h.2
      have es := ySun hsh
      rw [if_pos hy, k_zaa h.1 h.2, k_cls h.1 h.2, k_refusalOf (by omega) h.1 h.2, zCI_ri, es]
      refine y_b rfl (y_if (fun q => ?_) (fun q => y_i ?_))
      · have h81 : σ 81 x = 1 := by
          by_cases e1 : σ 81 x = -1
          · rw [if_pos e1] at q; omega
          · rw [if_neg e1] at q
            by_cases e2 : σ 81 x = 1
            · exact e2
            · rw [if_neg e2] at q; omega
        have hsort : σ (ysh x) 0 = 1 := by
          obtain ⟨g1, g2, g3, g4, g5⟩ := hsh
          omega
        have hr : ∀ i, 0 ≤ i → i < 60 → -32768 ≤ σ (ysr x) i ∧ σ (ysr x) i < 32768 := fun i a b => (hsh.2.2.2.2 i a b).2 hsort
        have hrow : ∀ i, 0 ≤ i → i < 60 → σ 83 (60 * x + i) = σ (ysr x) i := fun i a b => (hsh.2.2.2.2 i a b).1.symm
        have hsz : 0 ≤ σ (ysh x) 1 ∧ σ (ysh x) 1 ≤ 60 := ⟨hsh.1, hsh.2.1⟩
        refine y_if (fun q2 => ?_) (fun q2 => ?_)
        · -- by two
          rw [k_zaa h.1 h.2]
          obtain ⟨d, rfl, hd'⟩ := y_d (k := 140) (d := d) (by omega)
          have bb : ∀ k, 0 ≤ ysc ((fun t u => decide (yun (N 0 0) (yHR N G (N 5) (ydd N u (ydd N t (N 6)))) (σ (ysr x)) (σ (ysh x) 1).toNat 0 = -2)) k) (2 * N 0 0).toNat 1 ∧ ysc ((fun t u => decide (yun (N 0 0) (yHR N G (N 5) (ydd N u (ydd N t (N 6)))) (σ (ysr x)) (σ (ysh x) 1).toNat 0 = -2)) k) (2 * N 0 0).toNat 1 ≤ 24 := fun k => by
            have := ysc_b ((fun t u => decide (yun (N 0 0) (yHR N G (N 5) (ydd N u (ydd N t (N 6)))) (σ (ysr x)) (σ (ysh x) 1).toNat 0 = -2)) k) (2 * N 0 0).toNat 1
            omega
          have bA := yss_b bb (2 * N 0 0).toNat 1
          have main : yT (zx (d + 1) 61 [.inl (some 24), .inl (some (ysh x))] σ) (yI fun v u => v = yss (fun k => ysc ((fun t u => decide (yun (N 0 0) (yHR N G (N 5) (ydd N u (ydd N t (N 6)))) (σ (ysr x)) (σ (ysh x) 1).toNat 0 = -2)) k) (2 * N 0 0).toNat 1) (2 * N 0 0).toNat 1 ∧ (∃ m, yX N G (σ 17 5 + 1) (-1) m u) ∧ yf ySC σ u) := by
            rw [e_X6_pairsThatFit, c_turns (by omega) hI.1.1 hI.1.2.1, zCI_ri]
            refine y_cV (c_begin (by omega) (-1) hI.1 (yI_t hI c1)) (fun s hs => ?_)
            have o := fun i => yoff (A := yAb) (by decide) h.1 h.2 i
            refine y_mI (c_two_l (by omega) (σ0 := s) (el := σ (ysr x)) (sz := σ (ysh x) 1) (f := fun t u => decide (yun (N 0 0) (yHR N G (N 5) (ydd N u (ydd N t (N 6)))) (σ (ysr x)) (σ (ysh x) 1).toNat 0 = -2)) (A := yss (fun k => ysc ((fun t u => decide (yun (N 0 0) (yHR N G (N 5) (ydd N u (ydd N t (N 6)))) (σ (ysr x)) (σ (ysh x) 1).toNat 0 = -2)) k) (2 * N 0 0).toNat 1) (2 * N 0 0).toNat 1) h.1 h.2 hsz (hs.2 _ _ (o 1).1) (fun i a b => hs.2 _ _ (o i).2) (fun t u => by rw [yHR_w]) (by omega) (2 * N 0 0).toNat 1 0 (N 6) s (by omega) (by omega) (by omega) (Int.zero_add _) hs.1 yf_rf) (fun v u hu => ⟨hu.1, hu.2.1, yf_tr (yf_le hs.2 (by decide)) (yf_le hu.2.2 (by decide))⟩)
          refine y_cI main (fun v s hs => y_i ?_)
          obtain ⟨hv, ⟨m', hX⟩, f⟩ := hs
          have hY := yY_f hI.2.1 f (by decide)
          rw [mod, if_pos h, if_pos hy, m_noSun (by omega) h.1 h.2, zCI_ri, f 81 x rfl, if_neg (by omega), if_pos q2, e_X12_byTwo]
          refine y_cI (P := fun w t => w = v ∧ ∃ N' G', yInv (c + 1) N' G' t) ?_ (fun w t ht => y_i ht)
          refine y_cV (m_keep86 (by omega) hY.2.2.2.1) (fun t ht => ?_)
          have ft : yf ([86], []) s t := ht.2
          refine y_mI (m_two_l (by omega) (σ0 := t) (el := σ (ysr x)) (sz := σ (ysh x) 1) (p := N 5) (m0 := N 6) (G := G) (f := fun t u => decide (yun (N 0 0) (yHR N G (N 5) (ydd N u (ydd N t (N 6)))) (σ (ysr x)) (σ (ysh x) 1).toNat 0 = -2)) (A := yss (fun k => ysc ((fun t u => decide (yun (N 0 0) (yHR N G (N 5) (ydd N u (ydd N t (N 6)))) (σ (ysr x)) (σ (ysh x) 1).toNat 0 = -2)) k) (2 * N 0 0).toNat 1) (2 * N 0 0).toNat 1) h.1 h.2 hsz hr (by rw [ft 82 x rfl, f 82 x rfl]; exact hsh.2.2.1.symm) (fun i a b => (ft 83 _ rfl).trans ((f 83 _ rfl).trans (hrow i a b))) ht.1 (fun t u => rfl) (by omega) (3 * N 0 0).toNat 0 (2 * N 0 0).toNat 1 0 t (by omega) (by omega) (by decide) (by omega) (by omega) (Int.zero_add _) (yY_f hY ft (by decide)) yf_rf) (fun w u hu => ⟨by rw [hu.1, hv], N, G, yth hI hX (by omega) f hu.2.1 (yf_tr (yf_le ft (by decide)) (yf_le hu.2.2 (by decide)))⟩)
        · -- by one
          rw [k_zaa h.1 h.2]
          obtain ⟨d, rfl, hd'⟩ := y_d (k := 140) (d := d) (by omega)
          have bF := ysf_b (fun t => decide (yun (N 0 0) (yHR N G (N 5) (ydd N t (N 6))) (σ (ysr x)) (σ (ysh x) 1).toNat 0 = -2)) ((2 * N 0 0).toNat + 1) 0 (by omega)
          have bC := ysc_b (fun t => decide (yun (N 0 0) (yHR N G (N 5) (ydd N t (N 6))) (σ (ysr x)) (σ (ysh x) 1).toNat 0 = -2)) ((2 * N 0 0).toNat + 1) 0
          have main : yT (zx (d + 1) 60 [.inl (some 24), .inl (some (ysh x))] σ) (yV fun u => u 24 4 = ysc (fun t => decide (yun (N 0 0) (yHR N G (N 5) (ydd N t (N 6))) (σ (ysr x)) (σ (ysh x) 1).toNat 0 = -2)) ((2 * N 0 0).toNat + 1) 0 ∧ u 24 5 = yfn (ysf (fun t => decide (yun (N 0 0) (yHR N G (N 5) (ydd N t (N 6))) (σ (ysr x)) (σ (ysh x) 1).toNat 0 = -2)) ((2 * N 0 0).toNat + 1) 0) ∧ (∃ m, yX N G (σ 17 5 + 1) (-1) m u) ∧ yf ySC σ u) := by
            have f0 : yf ySC σ (zset (zset σ 24 4 0) 24 5 (-9)) := yf_set (yf_set yf_rf rfl) rfl
            have P0 : yP N G (zset (zset σ 24 4 0) 24 5 (-9)) := yP_f hI.1 (A := ([], [(24, 4), (24, 5)])) (yf_set (yf_set yf_rf rfl) rfl) (by decide)
            rw [e_X6_deedsThatFit, c_turns (by omega) P0.1 P0.2.1, zCI_ri]
            refine y_cV (c_begin (by omega) (-1) P0 (show σ 17 5 < 5000000 from yI_t hI c1)) (fun s hs => ?_)
            have o := fun i => yoff (A := yAb) (by decide) h.1 h.2 i
            have o0 := fun i => yoff (A := ([], [(24, 4), (24, 5)])) (by decide) h.1 h.2 i
            have f00 : yf ([], [(24, 4), (24, 5)]) σ (zset (zset σ 24 4 0) 24 5 (-9)) := yf_set (yf_set yf_rf rfl) rfl
            refine y_mV (c_one_l (by omega) (σ0 := s) (el := σ (ysr x)) (sz := σ (ysh x) 1) (f := fun t => decide (yun (N 0 0) (yHR N G (N 5) (ydd N t (N 6))) (σ (ysr x)) (σ (ysh x) 1).toNat 0 = -2)) (tot := ysc (fun t => decide (yun (N 0 0) (yHR N G (N 5) (ydd N t (N 6))) (σ (ysr x)) (σ (ysh x) 1).toNat 0 = -2)) ((2 * N 0 0).toNat + 1) 0) (F := ysf (fun t => decide (yun (N 0 0) (yHR N G (N 5) (ydd N t (N 6))) (σ (ysr x)) (σ (ysh x) 1).toNat 0 = -2)) ((2 * N 0 0).toNat + 1) 0) h.1 h.2 hsz (fun t => by rw [yHR_w]) (by omega) ((2 * N 0 0).toNat + 1) 0 (N 6) s (by omega) (by omega) hs.1 ((hs.2 _ _ (o 1).1).trans (f00 _ _ (o0 1).1)) (fun i a b => (hs.2 _ _ (o i).2).trans (f00 _ _ (o0 i).2)) (by rw [hs.2 24 4 rfl]; exact Int.le_refl _) (by rw [hs.2 24 4 rfl]; show 0 + _ = _; omega) (by omega) (Or.inl ⟨by rw [hs.2 24 4 rfl]; rfl, by rw [hs.2 24 5 rfl]; rfl, rfl⟩) yf_rf) (fun u hu => ⟨hu.1, hu.2.1, hu.2.2.1, yf_tr f0 (yf_tr (yf_le hs.2 (by decide)) (yf_le hu.2.2.2 (by decide)))⟩)
          refine y_cV main (fun s hs => ?_)
          obtain ⟨e4, e5, ⟨m', hX⟩, f⟩ := hs
          have hY := yY_f hI.2.1 f (by decide)
          have fin : ∀ v, v = (if y = 0 then ysc (fun t => decide (yun (N 0 0) (yHR N G (N 5) (ydd N t (N 6))) (σ (ysr x)) (σ (ysh x) 1).toNat 0 = -2)) ((2 * N 0 0).toNat + 1) 0 else yfn (ysf (fun t => decide (yun (N 0 0) (yHR N G (N 5) (ydd N t (N 6))) (σ (ysr x)) (σ (ysh x) 1).toNat 0 = -2)) ((2 * N 0 0).toNat + 1) 0)) → yT (zri v s) (yI fun v s => yT (zx (d + 1 + 1) 225 [.inl (some 57), .inr (.inl x), .inr (.inl y)] s) (yI fun w t => w = v ∧ ∃ N' G', yInv (c + 1) N' G' t)) := by
            intro v hv
            refine y_i ?_
            rw [mod, if_pos h, if_pos hy, m_noSun (by omega) h.1 h.2, zCI_ri, f 81 x rfl, if_neg (by omega), if_neg q2, e_X12_byOne]
            refine y_cI (P := fun w t => w = v ∧ ∃ N' G', yInv (c + 1) N' G' t) ?_ (fun w t ht => y_i ht)
            refine y_cV (m_keep86 (by omega) hY.2.2.2.1) (fun t ht => ?_)
            have ft : yf ([86], []) s t := ht.2
            have nt : t 57 0 = N 0 0 := by rw [ft 57 0 rfl]; exact hY.2.2.2.1.1
            rw [nt, zw_i (x := 3 * N 0 0) (by omega) (by omega), zw_i (x := 3 * N 0 0 - 1) (by omega) (by omega)]
            have mm := m_one_l (d := d) (by omega) (σ0 := t) (what := y) (el := σ (ysr x)) (sz := σ (ysh x) 1) (p := N 5) (m0 := N 6) (G := G) (f := fun t => decide (yun (N 0 0) (yHR N G (N 5) (ydd N t (N 6))) (σ (ysr x)) (σ (ysh x) 1).toNat 0 = -2)) h.1 h.2 hsz hr (fun t => rfl) (3 * N 0 0).toNat (3 * N 0 0 - 1) 0 (2 * N 0 0) 0 (-9) t (by omega) (by split <;> omega) (by omega) (by omega) rfl rfl (yY_f hY ft (by decide)) (by rw [ft 82 x rfl, f 82 x rfl]; exact hsh.2.2.1.symm) (fun i a b => (ft 83 _ rfl).trans ((f 83 _ rfl).trans (hrow i a b))) ht.1 yf_rf
            rw [Nat.zero_add] at mm
            exact y_mI mm (fun w u hu => ⟨by rw [hu.1, hv], N, G, yth hI hX (by omega) f hu.2.1 (yf_tr (yf_le ft (by decide)) (yf_le hu.2.2 (by decide)))⟩)
          refine y_if (fun z => fin _ ?_) (fun z => fin _ ?_)
          · rw [if_pos z]; exact e4
          · rw [if_neg z]; exact e5
      · rw [mod, if_pos h, if_pos hy, m_noSun (by omega) h.1 h.2, zCI_ri]
        refine y_g ?_ (y_i ⟨rfl, N, G, yInv_id hI⟩)
        revert q
        split
        · intro _; decide
        · split
          · intro q; exact absurd rfl q
          · intro _; decide
    · rw [if_neg hy]
      refine y_i ?_
      rw [mod, if_pos h, if_neg hy]
      exact y_i ⟨rfl, N, G, yInv_id hI⟩
  · rw [if_neg h]
    refine y_i ?_
    rw [mod, if_neg h]
    exact y_i ⟨rfl, N, G, yInv_id hI⟩
