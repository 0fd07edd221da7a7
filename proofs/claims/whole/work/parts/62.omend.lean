/-! mend itself -/
theorem yin_57 {k : Nat} {j : Int} (h : 57 ≤ k) : yin ([33, 34, 35, 36], [(32, 5), (32, 6)]) k j = false := by
  rcases hA : yin ([33, 34, 35, 36], [(32, 5), (32, 6)]) k j with _ | _
  · rfl
  · exfalso
    unfold yin at hA
    rw [Bool.or_eq_true] at hA
    rcases hA with hA | hA
    · have := yC1_mem.mp hA
      simp only [List.mem_cons, List.not_mem_nil, or_false] at this
      omega
    · have := yS1_mem.mp hA
      simp only [List.mem_cons, List.not_mem_nil, or_false, Prod.mk.injEq] at this
      omega
set_option maxHeartbeats 2000000 in
theorem o_mend {x a v : Int} : yStep 108 168 [.inr (.inl x), .inr (.inl a), .inr (.inl v)] := by
  intro d hd c N G σ hI c0 c1
  obtain ⟨d, rfl, hd'⟩ := y_d hd; have hd := hd'
  obtain ⟨n1, n2, n3, n4⟩ := yI_n hI
  have hp := hI.2.2.2.1
  have e57 : σ 57 0 = σ 1 0 := n2.trans n1.symm
  have rn : 0 ≤ σ 57 0 ∧ σ 57 0 ≤ 12 := by omega
  have rq : 0 ≤ σ 57 4 ∧ σ 57 4 ≤ 4 := by rw [← hp.1]; exact ⟨hp.2.1, hp.2.2.1⟩
  have no : ¬ (a ≤ 5 ∧ yhas (σ 1 0) (σ 1 1) x a) → yT (zx (d + 1) 168 [.inl (some 57), .inr (.inl x), .inr (.inl a), .inr (.inl v)] σ) (yI fun w t => w = -2000000000 ∧ ∃ N' G', yInv (c + 1) N' G' t) := by
    intro h
    rw [e_X12_mend, k_isOf (by omega) x a rn rq, zCI_ri, y01, e57, ← hp.1, if_neg h]
    exact y_i ⟨rfl, N, G, yInv_id hI⟩
  rw [e_X11_mend]
  refine y_if (fun h => y_i (no (by omega))) (fun h => ?_)
  rw [k_has (by omega), zCI_ri, y01]
  refine y_if (fun hh => ?_) (fun hh => y_i (no (fun w => hh w.2)))
  have ha : a ≤ 5 := by omega
  by_cases hf : yfit (σ 1 0) (σ 1 1) x a v
  · rw [k_fits (by omega) hh ha 1 (fun _ => rfl) (fun w => absurd hf w), zCI_ri, if_neg (by decide), k_col (by omega), zCR_rr]
    have hb := y_hb hI hh
    have ny := y_now hI ha hh
    rw [k_colg hb.1 hb.2.1 hb.2.2.1 hb.2.2.2]
    have em : zx (d + 1) 168 [.inl (some 57), .inr (.inl x), .inr (.inl a), .inr (.inl v)] σ = zx (d + 1) 168 [.inl (some 57), .inr (.inl x), .inr (.inl a), .inr (.inl v)] σ := rfl
    refine y_if (fun q => y_i ?_) (fun q => ?_)
    · rw [e_X12_mend, k_isOf (by omega) x a rn rq, zCI_ri, y01, e57, ← hp.1, if_pos ⟨ha, hh⟩, k_mFit (n := σ 1 0) (q := σ 1 1) (by omega) rn e57.symm hh ha 1 (fun _ => rfl) (fun w => absurd hf w), zCI_ri, if_neg (by decide), k_get (by omega) σ hb.1 ha hb.2.2.1 hb.2.2.2, zCI_ri, ny.1, if_pos q]
      exact y_i ⟨rfl, N, G, yInv_id hI⟩
    · rw [k_cols hb.1 hb.2.1 hb.2.2.1 hb.2.2.2]
      obtain ⟨N', hN⟩ := y_set hI hf
      have hH := hI.2.2.2.2.2.2.1
      have nA := ycl_b a
      have nB := ymc_b a
      have a325 : zset σ (ycl a) x v 32 5 = σ 32 5 := zset_k (by omega)
      obtain ⟨s, i, e, s1, f1, s3, s4, s5, s6, s7, s8, s9, s10⟩ := k_rem (d := d) (by omega) (σ := zset σ (ycl a) x v) x a (σ (ycl a) x) v (by rw [a325]; have := hH; obtain ⟨g1, g2, g3, g4, g5, g6⟩ := hH; omega)
      rw [s1, zCV_rv]
      refine y_i ?_
      have e0 : ∀ k j, 57 ≤ k → s k j = σ k j := fun k j hk => (f1 k j (yin_57 hk)).trans (zset_k (by omega))
      obtain ⟨g1, g2, g3, g4, g5, g6⟩ := hH
      have r33 : s 57 33 = σ 32 5 := (e0 57 33 (by decide)).trans g1.symm
      have rB : s (ymc a) (ymi a x) = σ (ycl a) x := (e0 _ _ (by omega)).trans ny.1
      have r0 : s 57 0 = σ 1 0 := (e0 57 0 (by decide)).trans e57
      have r4 : s 57 4 = σ 1 1 := (e0 57 4 (by decide)).trans hp.1.symm
      have b33 : zset s (ymc a) (ymi a x) v 57 33 = σ 32 5 := (zset_k (by omega)).trans r33
      obtain ⟨t, i', e', t1, f2, t3, t4, t5, t6, t7, t8, t9, t10⟩ := m_rem (d := d) (s := zset s (ymc a) (ymi a x) v) (x := x) (a := a) (v := v) (o := σ (ycl a) x) (by rw [b33]; omega)
      rw [a325] at s3
      rw [b33] at t3
      rw [e_X12_mend, k_isOf (by omega) x a (by omega) (by rw [r4]; exact ⟨hp.2.1, hp.2.2.1⟩), zCI_ri, y01, r0, r4, if_pos ⟨ha, hh⟩, k_mFit (n := σ 1 0) (q := σ 1 1) (σ := s) (by omega) (by omega) r0.symm hh ha 1 (fun _ => rfl) (fun w => absurd hf w), zCI_ri, if_neg (by decide), k_get (by omega) s hb.1 ha hb.2.2.1 hb.2.2.2, zCI_ri, rB, if_neg q, k_bec (by omega) v s hb.1 ha hb.2.2.1 hb.2.2.2, zCV_rv, t1]
      have ei : i' = i := by omega
      have ee : e' = e := by omega
      subst ei
      subst ee
      have i0 : 0 ≤ i' ∧ i' < 40 := by omega
      refine y_i ⟨rfl, N', G, yInv_hs hN (fun k j hk => ?_) ?_⟩
      · rw [yf_le (B := yAhs) f2 (by decide) k j hk]
        by_cases b : k = ymc a ∧ j = ymi a x
        · exact (if_pos b).trans (if_pos b).symm
        · exact (if_neg b).trans ((yf_le (B := yAhs) f1 (by decide) k j hk).trans (if_neg b).symm)
      · have u5 : t 32 5 = i' + 1 := (f2 32 5 rfl).trans ((zset_k (by omega)).trans s4)
        have u6 : t 32 6 = i' + 1 := (f2 32 6 rfl).trans ((zset_k (by omega)).trans s5)
        have u33 : ∀ j, t 33 j = s 33 j := fun j => (f2 33 j rfl).trans (zset_k (by omega))
        have u34 : ∀ j, t 34 j = s 34 j := fun j => (f2 34 j rfl).trans (zset_k (by omega))
        have u35 : ∀ j, t 35 j = s 35 j := fun j => (f2 35 j rfl).trans (zset_k (by omega))
        have u36 : ∀ j, t 36 j = s 36 j := fun j => (f2 36 j rfl).trans (zset_k (by omega))
        have u0 : t 1 0 = σ 1 0 := (f2 1 0 rfl).trans ((zset_k (by omega)).trans ((f1 1 0 rfl).trans (zset_k (by unfold ycl; repeat' split
                                                                                                                 all_goals decide))))
        have u1 : t 1 1 = σ 1 1 := (f2 1 1 rfl).trans ((zset_k (by omega)).trans ((f1 1 1 rfl).trans (zset_k (by unfold ycl; repeat' split
                                                                                                                 all_goals decide))))
        unfold yHs
        rw [u5, u6, t4, t5, u0, u1]
        refine ⟨rfl, rfl, by omega, by omega, by omega, fun j j0 j1 => ?_⟩
        rw [u33, u34, u35, u36]
        by_cases je : j = i'
        · rw [je, s6, s7, s8, s9, t6, t7, t8, t9]
          exact ⟨rfl, rfl, rfl, rfl, ny.2, hf⟩
        · obtain ⟨w1, w2, w3, w4⟩ := s10 j j0 (by omega)
          have z1 : zset s (ymc a) (ymi a x) v 78 = σ 78 := funext fun k => (zset_k (by omega)).trans (e0 78 k (by decide))
          have v1 : t 78 (4 * j) = σ 78 (4 * (j + e')) := (t10 (4 * j) (by omega) (by omega)).trans (by rw [z1]; exact congrArg (σ 78) (by omega))
          have v2 : t 78 (4 * j + 1) = σ 78 (4 * (j + e') + 1) := (t10 (4 * j + 1) (by omega) (by omega)).trans (by rw [z1]; exact congrArg (σ 78) (by omega))
          have v3 : t 78 (4 * j + 2) = σ 78 (4 * (j + e') + 2) := (t10 (4 * j + 2) (by omega) (by omega)).trans (by rw [z1]; exact congrArg (σ 78) (by omega))
          have v4 : t 78 (4 * j + 3) = σ 78 (4 * (j + e') + 3) := (t10 (4 * j + 3) (by omega) (by omega)).trans (by rw [z1]; exact congrArg (σ 78) (by omega))
          rw [v1, v2, v3, v4, w1, w2, w3, w4, zset_k (by omega), zset_k (by omega), zset_k (by omega), zset_k (by omega)]
          exact g6 (j + e') (by omega) (by omega)
  · rw [k_fits (by omega) hh ha 0 (fun w => absurd w hf) (fun _ => rfl), zCI_ri, if_pos rfl]
    refine y_i ?_
    rw [e_X12_mend, k_isOf (by omega) x a rn rq, zCI_ri, y01, e57, ← hp.1, if_pos ⟨ha, hh⟩, k_mFit (n := σ 1 0) (q := σ 1 1) (by omega) rn e57.symm hh ha 0 (fun w => absurd w hf) (fun _ => rfl), zCI_ri, if_pos rfl]
    exact y_i ⟨rfl, N, G, yInv_id hI⟩
