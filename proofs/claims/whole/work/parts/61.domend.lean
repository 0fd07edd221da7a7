/-! mend, both sides -/
theorem m_six (s : zF) (i x a o v p : Int) : (zset (zset (zset (zset (zset (zset s 78 (4 * i) x) 78 (4 * i + 1) a) 78 (4 * i + 2) o) 78 (4 * i + 3) v) 57 33 p) 57 32 p) 57 33 = p ∧ (zset (zset (zset (zset (zset (zset s 78 (4 * i) x) 78 (4 * i + 1) a) 78 (4 * i + 2) o) 78 (4 * i + 3) v) 57 33 p) 57 32 p) 57 32 = p ∧ (zset (zset (zset (zset (zset (zset s 78 (4 * i) x) 78 (4 * i + 1) a) 78 (4 * i + 2) o) 78 (4 * i + 3) v) 57 33 p) 57 32 p) 78 (4 * i) = x ∧ (zset (zset (zset (zset (zset (zset s 78 (4 * i) x) 78 (4 * i + 1) a) 78 (4 * i + 2) o) 78 (4 * i + 3) v) 57 33 p) 57 32 p) 78 (4 * i + 1) = a ∧ (zset (zset (zset (zset (zset (zset s 78 (4 * i) x) 78 (4 * i + 1) a) 78 (4 * i + 2) o) 78 (4 * i + 3) v) 57 33 p) 57 32 p) 78 (4 * i + 2) = o ∧ (zset (zset (zset (zset (zset (zset s 78 (4 * i) x) 78 (4 * i + 1) a) 78 (4 * i + 2) o) 78 (4 * i + 3) v) 57 33 p) 57 32 p) 78 (4 * i + 3) = v ∧ ∀ j, j < 4 * i → (zset (zset (zset (zset (zset (zset s 78 (4 * i) x) 78 (4 * i + 1) a) 78 (4 * i + 2) o) 78 (4 * i + 3) v) 57 33 p) 57 32 p) 78 j = s 78 j := by
  refine ⟨rfl, rfl, ?_, ?_, ?_, ?_, fun j h => ?_⟩
  · rw [zset_k (by decide), zset_k (by decide), zset_off (by omega), zset_off (by omega), zset_off (by omega), zset_hit rfl]
  · rw [zset_k (by decide), zset_k (by decide), zset_off (by omega), zset_off (by omega), zset_hit rfl]
  · rw [zset_k (by decide), zset_k (by decide), zset_off (by omega), zset_hit rfl]
  · rw [zset_k (by decide), zset_k (by decide), zset_hit rfl]
  · rw [zset_k (by decide), zset_k (by decide), zset_off (by omega), zset_off (by omega), zset_off (by omega), zset_off (by omega)]
theorem m_shl {d : Nat} {x a v o : Int} : ∀ (m : Nat) (y : Int) (s : zF), y = 156 - (m : Int) → 0 ≤ y → ∃ t, P_X12_mend_58 d x a v o y s = P_X12_mend_58 d x a v o 156 t ∧ yf ([78], []) s t ∧ ∀ j, 0 ≤ j → t 78 j = if y ≤ j ∧ j < 156 then s 78 (j + 4) else s 78 j
  | 0, y, s, h, h0 => by
    have e : y = 156 := by omega
    subst e
    exact ⟨s, rfl, yf_rf, fun j _ => by rw [if_neg (by omega)]⟩
  | m + 1, y, s, h, h0 => by
    obtain ⟨t, t1, t2, t3⟩ := m_shl (d := d) (x := x) (a := a) (v := v) (o := o) m (y + 1) (zset s 78 y (s 78 (y + 4))) (by omega) (by omega)
    refine ⟨t, ?_, yf_tr (yf_set yf_rf rfl) t2, fun j j0 => ?_⟩
    · rw [e_X12_mend_58, if_pos (by omega), zw_i (x := y + 4) (by omega) (by omega), zw_i (x := y + 1) (by omega) (by omega), if_pos (by omega), if_pos (by omega), t1]
    · rw [t3 j j0]
      by_cases e : j = y
      · subst e
        rw [if_neg (by omega), if_pos (by omega), zset_hit rfl]
      · by_cases q : y + 1 ≤ j ∧ j < 156
        · rw [if_pos q, if_pos (by omega), zset_off (by omega)]
        · rw [if_neg q, if_neg (by omega), zset_off e]
theorem m_rem {d : Nat} {s : zF} {x a v o : Int} (h : 0 ≤ s 57 33 ∧ s 57 33 ≤ 40) : ∃ t i e, (if (s 57 33) = 40 then (P_X12_mend_58 d x a v o 0 s) else (
if 0 ≤ zw (4 * (s 57 33)) ∧ zw (4 * (s 57 33)) < 160 then (
if 0 ≤ zw ((zw (4 * (s 57 33))) + 1) ∧ zw ((zw (4 * (s 57 33))) + 1) < 160 then (
if 0 ≤ zw ((zw (4 * (s 57 33))) + 2) ∧ zw ((zw (4 * (s 57 33))) + 2) < 160 then (
if 0 ≤ zw ((zw (4 * (s 57 33))) + 3) ∧ zw ((zw (4 * (s 57 33))) + 3) < 160 then (
zri o (zset (zset (zset (zset (zset (zset s 78 (zw (4 * (s 57 33))) x) 78 (zw ((zw (4 * (s 57 33))) + 1)) a) 78 (zw ((zw (4 * (s 57 33))) + 2)) o) 78 (zw ((zw (4 * (s 57 33))) + 3)) v) 57 33 (zw ((s 57 33) + 1))) 57 32 (zw ((s 57 33) + 1)))) else none) else none) else none) else none)) = zri o t ∧ yf ([78], [(57, 32), (57, 33)]) s t ∧ (s 57 33 < 40 ∧ i = s 57 33 ∧ e = 0 ∨ s 57 33 = 40 ∧ i = 39 ∧ e = 1) ∧ t 57 33 = i + 1 ∧ t 57 32 = i + 1 ∧ t 78 (4 * i) = x ∧ t 78 (4 * i + 1) = a ∧ t 78 (4 * i + 2) = o ∧ t 78 (4 * i + 3) = v ∧ ∀ j, 0 ≤ j → j < 4 * i → t 78 j = s 78 (j + 4 * e) := by
  by_cases q : s 57 33 = 40
  · obtain ⟨t, t1, t2, t3⟩ := m_shl (d := d) (x := x) (a := a) (v := v) (o := o) 156 0 s (by omega) (by omega)
    have t4 : t 57 33 = 40 := (t2 57 33 rfl).trans q
    have z := m_six (zset t 57 33 39) 39 x a o v 40
    rw [if_pos q, t1, e_X12_mend_58, if_neg (by decide), t4, show zw (40 - 1) = 39 by decide, show zw (4 * 39) = 4 * 39 by decide, show zw (4 * 39 + 1) = 4 * 39 + 1 by decide, show zw (4 * 39 + 2) = 4 * 39 + 2 by decide, show zw (4 * 39 + 3) = 4 * 39 + 3 by decide, show zw (39 + 1) = 40 by decide, if_pos (by decide), if_pos (by decide), if_pos (by decide), if_pos (by decide)]
    refine ⟨_, 39, 1, rfl, yf_set (yf_set (yf_set (yf_set (yf_set (yf_set (yf_set (yf_le t2 (by decide)) rfl) rfl) rfl) rfl) rfl) rfl) rfl, Or.inr ⟨q, rfl, rfl⟩, z.1, z.2.1, z.2.2.1, z.2.2.2.1, z.2.2.2.2.1, z.2.2.2.2.2.1, fun j j0 j1 => ?_⟩
    rw [z.2.2.2.2.2.2 j j1, zset_k (by decide), t3 j j0, if_pos (by omega)]
    rfl
  · rw [if_neg q, zw_i (x := 4 * s 57 33) (by omega) (by omega), zw_i (x := 4 * s 57 33 + 1) (by omega) (by omega), zw_i (x := 4 * s 57 33 + 2) (by omega) (by omega), zw_i (x := 4 * s 57 33 + 3) (by omega) (by omega), zw_i (x := s 57 33 + 1) (by omega) (by omega), if_pos (by omega), if_pos (by omega), if_pos (by omega), if_pos (by omega)]
    have z := m_six s (s 57 33) x a o v (s 57 33 + 1)
    refine ⟨_, s 57 33, 0, rfl, yf_set (yf_set (yf_set (yf_set (yf_set (yf_set yf_rf rfl) rfl) rfl) rfl) rfl) rfl, Or.inl ⟨by omega, rfl, rfl⟩, z.1, z.2.1, z.2.2.1, z.2.2.2.1, z.2.2.2.2.1, z.2.2.2.2.2.1, fun j j0 j1 => ?_⟩
    rw [z.2.2.2.2.2.2 j j1, show j + 4 * 0 = j by omega]
