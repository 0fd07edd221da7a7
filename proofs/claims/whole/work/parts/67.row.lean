/-! row -/
theorem c_fillS {d : Nat} {x : Int} (g0 : 0 ≤ x) (g1 : x < 6) : ∀ (m : Nat) (y : Int) (σ : zF), y = 60 - (m : Int) → 0 ≤ y → ∃ s, P_J7_fill_d0a16_6 d (ysr x) 0 y 60 σ = zrv s ∧ (∀ i, s (ysr x) i = if y ≤ i ∧ i < 60 then 0 else σ (ysr x) i) ∧ ∀ k i, ¬ k = ysr x → s k i = σ k i
  | 0, y, σ, h, _ => ⟨σ, by rw [e_J7_fill_d0a16_6, if_neg (by omega)], fun i => by rw [if_neg (by omega)], fun _ _ _ => rfl⟩
  | m + 1, y, σ, h, h0 => by
    obtain ⟨s, s1, s2, s3⟩ := c_fillS (d := d) g0 g1 m (y + 1) (zset σ (ysr x) y 0) (by omega) (by omega)
    refine ⟨s, ?_, fun i => ?_, fun k i hk => (s3 k i hk).trans (zset_k hk)⟩
    · rw [e_J7_fill_d0a16_6, if_pos (by omega), k_zar g0 g1 (by omega), zw_i (by omega) (by omega), s1]
    · rw [s2]
      by_cases e : i = y
      · rw [if_neg (by omega), if_pos (by omega), zset_hit e]
      · rw [zset_off e]
        by_cases q : y + 1 ≤ i ∧ i < 60
        · rw [if_pos q, if_pos (by omega)]
        · rw [if_neg q, if_neg (by omega)]
theorem m_fillS {d : Nat} {x : Int} (g0 : 0 ≤ x) (g1 : x < 6) : ∀ (m : Nat) (y : Int) (σ : zF), y = 60 - (m : Int) → 0 ≤ y → ∃ s, P_X12_row_48 d x y σ = zri 1 s ∧ (∀ j, s 83 j = if 60 * x + y ≤ j ∧ j < 60 * x + 60 then 0 else σ 83 j) ∧ ∀ k i, ¬ k = 83 → s k i = σ k i
  | 0, y, σ, h, _ => ⟨σ, by rw [e_X12_row_48, if_neg (by omega)], fun i => by rw [if_neg (by omega)], fun _ _ _ => rfl⟩
  | m + 1, y, σ, h, h0 => by
    obtain ⟨s, s1, s2, s3⟩ := m_fillS (d := d) g0 g1 m (y + 1) (zset σ 83 (60 * x + y) 0) (by omega) (by omega)
    refine ⟨s, ?_, fun i => ?_, fun k i hk => (s3 k i hk).trans (zset_k hk)⟩
    · rw [e_X12_row_48, if_pos (by omega), zw_i (x := 60 * x) (by omega) (by omega), zw_i (x := 60 * x + y) (by omega) (by omega), zw_i (x := y + 1) (by omega) (by omega), if_pos (by omega), s1]
    · rw [s2]
      by_cases e : i = 60 * x + y
      · rw [if_neg (by omega), if_pos (by omega), zset_hit e]
      · rw [zset_off e]
        by_cases q : 60 * x + (y + 1) ≤ i ∧ i < 60 * x + 60
        · rw [if_pos q, if_pos (by omega)]
        · rw [if_neg q, if_neg (by omega)]
