/-! equations, 1 -/
set_option maxRecDepth 100000 in
set_option maxHeartbeats 4000000 in
theorem e_X0_remember (d : Nat) (x1 : Int) (x2 : Int) (x3 : Int) (x4 : Int) (σ : zF) : zx (d + 1) 1 [.inl (some 32), .inr (.inl x1), .inr (.inl x2), .inr (.inl x3), .inr (.inl x4)] σ = (
if (σ 32 5) < 40 then (
if 0 ≤ (σ 32 5) ∧ (σ 32 5) < 40 then (
if 0 ≤ (σ 32 5) ∧ (σ 32 5) < 40 then (
if 0 ≤ (σ 32 5) ∧ (σ 32 5) < 40 then (
if 0 ≤ (σ 32 5) ∧ (σ 32 5) < 40 then (
zrv (zset (zset (zset (zset (zset (zset σ 33 (σ 32 5) x1) 34 (σ 32 5) x2) 35 (σ 32 5) x3) 36 (σ 32 5) x4) 32 5 (zw ((σ 32 5) + 1))) 32 6 (zw ((σ 32 5) + 1)))) else (
none)) else (
none)) else (
none)) else (
none)) else (
zCV LAY (zx d 2 [.inl (some 32)] σ) fun s1 =>
if 0 ≤ (s1 32 5) ∧ (s1 32 5) < 40 then (
if 0 ≤ (s1 32 5) ∧ (s1 32 5) < 40 then (
if 0 ≤ (s1 32 5) ∧ (s1 32 5) < 40 then (
if 0 ≤ (s1 32 5) ∧ (s1 32 5) < 40 then (
zrv (zset (zset (zset (zset (zset (zset s1 33 (s1 32 5) x1) 34 (s1 32 5) x2) 35 (s1 32 5) x3) 36 (s1 32 5) x4) 32 5 (zw ((s1 32 5) + 1))) 32 6 (zw ((s1 32 5) + 1)))) else (
none)) else (
none)) else (
none)) else (
none))) := by
  unfold zx
  have hm := zexec_m zX2 zMT d
  refine (zexec_eq mt_1 _ rfl (LAY, σ) 0).trans ?_
  show zrunL zX2 (zexec zX2 zMT d) K_X0_remember U_X0_remember 0 [some (.inl (some 32)), some (.inr (.inl x1)), some (.inr (.inl x2)), some (.inr (.inl x3)), some (.inr (.inl x4))] [] (LAY, σ) = _
  refine (zq_aln hm (pc' := 1) rfl rfl rfl rfl).trans ?_
  refine (zq_gf hm (v := (σ 32 5)) (pc' := 4) rfl lay_32 rfl rfl rfl).trans ?_
  refine (zJ_n rfl).trans ?_
  refine (zq_bi hm (pc' := 6) rfl rfl rfl rfl).trans ?_
  refine (zq_ilt hm (pc' := 9) rfl rfl).trans (zite ?_ ?_)
  · refine (zJ_n rfl).trans ?_
    refine (zq_aln hm (pc' := 14) rfl rfl rfl rfl).trans ?_
    refine (zq_gr hm (pc' := 17) rfl lay_32 rfl rfl).trans ?_
    refine (zJ_n rfl).trans ?_
    refine (zq_aln hm (pc' := 18) rfl rfl rfl rfl).trans ?_
    refine (zq_gf hm (v := (σ 32 5)) (pc' := 21) rfl lay_32 rfl rfl rfl).trans ?_
    refine (zJ_n rfl).trans ?_
    refine (zq_iln hm (pc' := 22) rfl rfl rfl rfl).trans ?_
    refine (zq_ist hm (pc' := 23) rfl lay_33 rfl).trans (zite ?_ rfl)
    refine (zJ_n rfl).trans ?_
    refine (zq_aln hm (pc' := 24) rfl rfl rfl rfl).trans ?_
    refine (zq_gr hm (pc' := 27) rfl lay_32 rfl rfl).trans ?_
    refine (zJ_n rfl).trans ?_
    refine (zq_aln hm (pc' := 28) rfl rfl rfl rfl).trans ?_
    refine (zq_gf hm (v := (σ 32 5)) (pc' := 31) rfl lay_32 rfl (zsn rfl) rfl).trans ?_
    refine (zJ_n rfl).trans ?_
    refine (zq_iln hm (pc' := 32) rfl rfl rfl rfl).trans ?_
    refine (zq_ist hm (pc' := 33) rfl lay_34 rfl).trans (zite ?_ rfl)
    refine (zJ_n rfl).trans ?_
    refine (zq_aln hm (pc' := 34) rfl rfl rfl rfl).trans ?_
    refine (zq_gr hm (pc' := 37) rfl lay_32 rfl rfl).trans ?_
    refine (zJ_n rfl).trans ?_
    refine (zq_aln hm (pc' := 38) rfl rfl rfl rfl).trans ?_
    refine (zq_gf hm (v := (σ 32 5)) (pc' := 41) rfl lay_32 rfl ((zsn rfl).trans (zsn rfl)) rfl).trans ?_
    refine (zJ_n rfl).trans ?_
    refine (zq_iln hm (pc' := 42) rfl rfl rfl rfl).trans ?_
    refine (zq_ist hm (pc' := 43) rfl lay_35 rfl).trans (zite ?_ rfl)
    refine (zJ_n rfl).trans ?_
    refine (zq_aln hm (pc' := 44) rfl rfl rfl rfl).trans ?_
    refine (zq_gr hm (pc' := 47) rfl lay_32 rfl rfl).trans ?_
    refine (zJ_n rfl).trans ?_
    refine (zq_aln hm (pc' := 48) rfl rfl rfl rfl).trans ?_
    refine (zq_gf hm (v := (σ 32 5)) (pc' := 51) rfl lay_32 rfl ((zsn rfl).trans ((zsn rfl).trans (zsn rfl))) rfl).trans ?_
    refine (zJ_n rfl).trans ?_
    refine (zq_il hm (pc' := 53) rfl rfl rfl rfl).trans ?_
    refine (zq_ist hm (pc' := 54) rfl lay_36 rfl).trans (zite ?_ rfl)
    refine (zJ_n rfl).trans ?_
    refine (zq_aln hm (pc' := 55) rfl rfl rfl rfl).trans ?_
    refine (zq_dup hm (pc' := 56) rfl rfl rfl rfl).trans ?_
    refine (zq_gf hm (v := (σ 32 5)) (pc' := 59) rfl lay_32 rfl ((zsn rfl).trans ((zsn rfl).trans ((zsn rfl).trans (zsn rfl)))) rfl).trans ?_
    refine (zJ_n rfl).trans ?_
    refine (zq_ic hm (pc' := 60) rfl rfl rfl rfl).trans ?_
    refine (zq_iadd hm (pc' := 61) rfl rfl rfl).trans ?_
    refine (zq_pf hm (pc' := 64) rfl lay_32 rfl rfl rfl).trans ?_
    refine (zJ_n rfl).trans ?_
    refine (zq_aln hm (pc' := 65) rfl rfl rfl rfl).trans ?_
    refine (zq_aln hm (pc' := 66) rfl rfl rfl rfl).trans ?_
    refine (zq_gf hm (v := zw ((σ 32 5) + 1)) (pc' := 69) rfl lay_32 rfl zsh rfl).trans ?_
    refine (zJ_n rfl).trans ?_
    refine (zq_pf hm (pc' := 72) rfl lay_32 rfl rfl rfl).trans ?_
    refine (zJ_n rfl).trans ?_
    exact zq_rv hm rfl
  · refine (zJ_n rfl).trans ?_
    refine (zq_aln hm (pc' := 10) rfl rfl rfl rfl).trans ?_
    refine (zq_v0 hm (pc' := 13) rfl rfl rfl (cls_32_0) rfl rfl).trans (zCV_c rfl (fun s1 => ?_))
    refine (zJ_n rfl).trans ?_
    refine (zq_aln hm (pc' := 14) rfl rfl rfl rfl).trans ?_
    refine (zq_gr hm (pc' := 17) rfl lay_32 rfl rfl).trans ?_
    refine (zJ_n rfl).trans ?_
    refine (zq_aln hm (pc' := 18) rfl rfl rfl rfl).trans ?_
    refine (zq_gf hm (v := (s1 32 5)) (pc' := 21) rfl lay_32 rfl rfl rfl).trans ?_
    refine (zJ_n rfl).trans ?_
    refine (zq_iln hm (pc' := 22) rfl rfl rfl rfl).trans ?_
    refine (zq_ist hm (pc' := 23) rfl lay_33 rfl).trans (zite ?_ rfl)
    refine (zJ_n rfl).trans ?_
    refine (zq_aln hm (pc' := 24) rfl rfl rfl rfl).trans ?_
    refine (zq_gr hm (pc' := 27) rfl lay_32 rfl rfl).trans ?_
    refine (zJ_n rfl).trans ?_
    refine (zq_aln hm (pc' := 28) rfl rfl rfl rfl).trans ?_
    refine (zq_gf hm (v := (s1 32 5)) (pc' := 31) rfl lay_32 rfl (zsn rfl) rfl).trans ?_
    refine (zJ_n rfl).trans ?_
    refine (zq_iln hm (pc' := 32) rfl rfl rfl rfl).trans ?_
    refine (zq_ist hm (pc' := 33) rfl lay_34 rfl).trans (zite ?_ rfl)
    refine (zJ_n rfl).trans ?_
    refine (zq_aln hm (pc' := 34) rfl rfl rfl rfl).trans ?_
    refine (zq_gr hm (pc' := 37) rfl lay_32 rfl rfl).trans ?_
    refine (zJ_n rfl).trans ?_
    refine (zq_aln hm (pc' := 38) rfl rfl rfl rfl).trans ?_
    refine (zq_gf hm (v := (s1 32 5)) (pc' := 41) rfl lay_32 rfl ((zsn rfl).trans (zsn rfl)) rfl).trans ?_
    refine (zJ_n rfl).trans ?_
    refine (zq_iln hm (pc' := 42) rfl rfl rfl rfl).trans ?_
    refine (zq_ist hm (pc' := 43) rfl lay_35 rfl).trans (zite ?_ rfl)
    refine (zJ_n rfl).trans ?_
    refine (zq_aln hm (pc' := 44) rfl rfl rfl rfl).trans ?_
    refine (zq_gr hm (pc' := 47) rfl lay_32 rfl rfl).trans ?_
    refine (zJ_n rfl).trans ?_
    refine (zq_aln hm (pc' := 48) rfl rfl rfl rfl).trans ?_
    refine (zq_gf hm (v := (s1 32 5)) (pc' := 51) rfl lay_32 rfl ((zsn rfl).trans ((zsn rfl).trans (zsn rfl))) rfl).trans ?_
    refine (zJ_n rfl).trans ?_
    refine (zq_il hm (pc' := 53) rfl rfl rfl rfl).trans ?_
    refine (zq_ist hm (pc' := 54) rfl lay_36 rfl).trans (zite ?_ rfl)
    refine (zJ_n rfl).trans ?_
    refine (zq_aln hm (pc' := 55) rfl rfl rfl rfl).trans ?_
    refine (zq_dup hm (pc' := 56) rfl rfl rfl rfl).trans ?_
    refine (zq_gf hm (v := (s1 32 5)) (pc' := 59) rfl lay_32 rfl ((zsn rfl).trans ((zsn rfl).trans ((zsn rfl).trans (zsn rfl)))) rfl).trans ?_
    refine (zJ_n rfl).trans ?_
    refine (zq_ic hm (pc' := 60) rfl rfl rfl rfl).trans ?_
    refine (zq_iadd hm (pc' := 61) rfl rfl rfl).trans ?_
    refine (zq_pf hm (pc' := 64) rfl lay_32 rfl rfl rfl).trans ?_
    refine (zJ_n rfl).trans ?_
    refine (zq_aln hm (pc' := 65) rfl rfl rfl rfl).trans ?_
    refine (zq_aln hm (pc' := 66) rfl rfl rfl rfl).trans ?_
    refine (zq_gf hm (v := zw ((s1 32 5) + 1)) (pc' := 69) rfl lay_32 rfl zsh rfl).trans ?_
    refine (zJ_n rfl).trans ?_
    refine (zq_pf hm (pc' := 72) rfl lay_32 rfl rfl rfl).trans ?_
    refine (zJ_n rfl).trans ?_
    exact zq_rv hm rfl
set_option maxRecDepth 100000 in
set_option maxHeartbeats 4000000 in
theorem e_X0_forgetOldest (d : Nat) (σ : zF) : zx (d + 1) 2 [.inl (some 32)] σ = (
if 0 ≤ (39 : Int) ∧ 0 ≤ (1 : Int) ∧ 0 ≤ (0 : Int) ∧ (1 : Int) + 39 ≤ 40 ∧ (0 : Int) + 39 ≤ 40 then (
if 0 ≤ (39 : Int) ∧ 0 ≤ (1 : Int) ∧ 0 ≤ (0 : Int) ∧ (1 : Int) + 39 ≤ 40 ∧ (0 : Int) + 39 ≤ 40 then (
if 0 ≤ (39 : Int) ∧ 0 ≤ (1 : Int) ∧ 0 ≤ (0 : Int) ∧ (1 : Int) + 39 ≤ 40 ∧ (0 : Int) + 39 ≤ 40 then (
if 0 ≤ (39 : Int) ∧ 0 ≤ (1 : Int) ∧ 0 ≤ (0 : Int) ∧ (1 : Int) + 39 ≤ 40 ∧ (0 : Int) + 39 ≤ 40 then (
zrv (zset (zcpy (zcpy (zcpy (zcpy σ 33 1 33 0 39) 34 1 34 0 39) 35 1 35 0 39) 36 1 36 0 39) 32 5 39)) else (
none)) else (
none)) else (
none)) else (
none)) := by
  unfold zx
  have hm := zexec_m zX2 zMT d
  refine (zexec_eq mt_2 _ rfl (LAY, σ) 0).trans ?_
  show zrunL zX2 (zexec zX2 zMT d) K_X0_forgetOldest U_X0_forgetOldest 0 [some (.inl (some 32))] [] (LAY, σ) = _
  refine (zq_aln hm (pc' := 1) rfl rfl rfl rfl).trans ?_
  refine (zq_gr hm (pc' := 4) rfl lay_32 rfl rfl).trans ?_
  refine (zJ_n rfl).trans ?_
  refine (zq_ic hm (pc' := 5) rfl rfl rfl rfl).trans ?_
  refine (zq_aln hm (pc' := 6) rfl rfl rfl rfl).trans ?_
  refine (zq_gr hm (pc' := 9) rfl lay_32 rfl rfl).trans ?_
  refine (zJ_n rfl).trans ?_
  refine (zq_ic hm (pc' := 10) rfl rfl rfl rfl).trans ?_
  refine (zq_bi hm (pc' := 12) rfl rfl rfl rfl).trans ?_
  refine (zq_arc hm (pc' := 15) rfl rfl rfl lay_33 lay_33 rfl rfl).trans (zite ?_ rfl)
  refine (zJ_n rfl).trans ?_
  refine (zq_aln hm (pc' := 16) rfl rfl rfl rfl).trans ?_
  refine (zq_gr hm (pc' := 19) rfl lay_32 rfl rfl).trans ?_
  refine (zJ_n rfl).trans ?_
  refine (zq_ic hm (pc' := 20) rfl rfl rfl rfl).trans ?_
  refine (zq_aln hm (pc' := 21) rfl rfl rfl rfl).trans ?_
  refine (zq_gr hm (pc' := 24) rfl lay_32 rfl rfl).trans ?_
  refine (zJ_n rfl).trans ?_
  refine (zq_ic hm (pc' := 25) rfl rfl rfl rfl).trans ?_
  refine (zq_bi hm (pc' := 27) rfl rfl rfl rfl).trans ?_
  refine (zq_arc hm (pc' := 30) rfl rfl rfl lay_34 lay_34 rfl rfl).trans (zite ?_ rfl)
  refine (zJ_n rfl).trans ?_
  refine (zq_aln hm (pc' := 31) rfl rfl rfl rfl).trans ?_
  refine (zq_gr hm (pc' := 34) rfl lay_32 rfl rfl).trans ?_
  refine (zJ_n rfl).trans ?_
  refine (zq_ic hm (pc' := 35) rfl rfl rfl rfl).trans ?_
  refine (zq_aln hm (pc' := 36) rfl rfl rfl rfl).trans ?_
  refine (zq_gr hm (pc' := 39) rfl lay_32 rfl rfl).trans ?_
  refine (zJ_n rfl).trans ?_
  refine (zq_ic hm (pc' := 40) rfl rfl rfl rfl).trans ?_
  refine (zq_bi hm (pc' := 42) rfl rfl rfl rfl).trans ?_
  refine (zq_arc hm (pc' := 45) rfl rfl rfl lay_35 lay_35 rfl rfl).trans (zite ?_ rfl)
  refine (zJ_n rfl).trans ?_
  refine (zq_aln hm (pc' := 46) rfl rfl rfl rfl).trans ?_
  refine (zq_gr hm (pc' := 49) rfl lay_32 rfl rfl).trans ?_
  refine (zJ_n rfl).trans ?_
  refine (zq_ic hm (pc' := 50) rfl rfl rfl rfl).trans ?_
  refine (zq_aln hm (pc' := 51) rfl rfl rfl rfl).trans ?_
  refine (zq_gr hm (pc' := 54) rfl lay_32 rfl rfl).trans ?_
  refine (zJ_n rfl).trans ?_
  refine (zq_ic hm (pc' := 55) rfl rfl rfl rfl).trans ?_
  refine (zq_bi hm (pc' := 57) rfl rfl rfl rfl).trans ?_
  refine (zq_arc hm (pc' := 60) rfl rfl rfl lay_36 lay_36 rfl rfl).trans (zite ?_ rfl)
  refine (zJ_n rfl).trans ?_
  refine (zq_aln hm (pc' := 61) rfl rfl rfl rfl).trans ?_
  refine (zq_bi hm (pc' := 63) rfl rfl rfl rfl).trans ?_
  refine (zq_pf hm (pc' := 66) rfl lay_32 rfl rfl rfl).trans ?_
  refine (zJ_n rfl).trans ?_
  exact zq_rv hm rfl
set_option maxRecDepth 100000 in
set_option maxHeartbeats 4000000 in
theorem e_X0_stepBack (d : Nat) (σ : zF) : zx (d + 1) 3 [.inl (some 32)] σ = (
if (0 : Int) < (σ 32 5) then (
if 0 ≤ zw ((σ 32 5) - 1) ∧ zw ((σ 32 5) - 1) < 40 then (
zCR LAY (zx d 21 [.inl (some 1), .inr (.inl (σ 34 (zw ((σ 32 5) - 1))))] (zset σ 32 5 (zw ((σ 32 5) - 1)))) fun t2 s1 =>
if 0 ≤ (s1 32 5) ∧ (s1 32 5) < 40 then (
if 0 ≤ (s1 32 5) ∧ (s1 32 5) < 40 then (
zar LAY 0 t2 (s1 33 (s1 32 5)) (
zrv (zset s1 t2 (s1 33 (s1 32 5)) (s1 35 (s1 32 5))))) else (
none)) else (
none)) else (
none)) else (
zrv σ)) := by
  unfold zx
  have hm := zexec_m zX2 zMT d
  refine (zexec_eq mt_3 _ rfl (LAY, σ) 0).trans ?_
  show zrunL zX2 (zexec zX2 zMT d) K_X0_stepBack U_X0_stepBack 0 [some (.inl (some 32))] [] (LAY, σ) = _
  refine (zq_aln hm (pc' := 1) rfl rfl rfl rfl).trans ?_
  refine (zq_gf hm (v := (σ 32 5)) (pc' := 4) rfl lay_32 rfl rfl rfl).trans ?_
  refine (zJ_n rfl).trans ?_
  refine (zq_zle hm (pc' := 7) rfl rfl).trans (zite ?_ ?_)
  · refine (zJ_n rfl).trans ?_
    refine (zq_aln hm (pc' := 8) rfl rfl rfl rfl).trans ?_
    refine (zq_dup hm (pc' := 9) rfl rfl rfl rfl).trans ?_
    refine (zq_gf hm (v := (σ 32 5)) (pc' := 12) rfl lay_32 rfl rfl rfl).trans ?_
    refine (zJ_n rfl).trans ?_
    refine (zq_ic hm (pc' := 13) rfl rfl rfl rfl).trans ?_
    refine (zq_isub hm (pc' := 14) rfl rfl rfl).trans ?_
    refine (zq_pf hm (pc' := 17) rfl lay_32 rfl rfl rfl).trans ?_
    refine (zJ_n rfl).trans ?_
    refine (zq_aln hm (pc' := 18) rfl rfl rfl rfl).trans ?_
    refine (zq_gr hm (pc' := 21) rfl lay_32 rfl rfl).trans ?_
    refine (zJ_n rfl).trans ?_
    refine (zq_aln hm (pc' := 22) rfl rfl rfl rfl).trans ?_
    refine (zq_gr hm (pc' := 25) rfl lay_32 rfl rfl).trans ?_
    refine (zJ_n rfl).trans ?_
    refine (zq_aln hm (pc' := 26) rfl rfl rfl rfl).trans ?_
    refine (zq_gf hm (v := zw ((σ 32 5) - 1)) (pc' := 29) rfl lay_32 rfl zsh rfl).trans ?_
    refine (zJ_n rfl).trans ?_
    refine (zq_ia hm (v := (σ 34 (zw ((σ 32 5) - 1)))) (pc' := 30) rfl lay_34 (zsn rfl) rfl).trans (zite ?_ rfl)
    refine (zJ_n rfl).trans ?_
    refine (zq_v3 hm (pc' := 33) rfl rfl rfl (cls_1_3) rfl rfl).trans (zCR_c rfl (fun t2 s1 => ?_))
    refine (zJ_n rfl).trans ?_
    refine (zq_aln hm (pc' := 34) rfl rfl rfl rfl).trans ?_
    refine (zq_gr hm (pc' := 37) rfl lay_32 rfl rfl).trans ?_
    refine (zJ_n rfl).trans ?_
    refine (zq_aln hm (pc' := 38) rfl rfl rfl rfl).trans ?_
    refine (zq_gf hm (v := (s1 32 5)) (pc' := 41) rfl lay_32 rfl rfl rfl).trans ?_
    refine (zJ_n rfl).trans ?_
    refine (zq_ia hm (v := (s1 33 (s1 32 5))) (pc' := 42) rfl lay_33 rfl rfl).trans (zite ?_ rfl)
    refine (zJ_n rfl).trans ?_
    refine (zq_aln hm (pc' := 43) rfl rfl rfl rfl).trans ?_
    refine (zq_gr hm (pc' := 46) rfl lay_32 rfl rfl).trans ?_
    refine (zJ_n rfl).trans ?_
    refine (zq_aln hm (pc' := 47) rfl rfl rfl rfl).trans ?_
    refine (zq_gf hm (v := (s1 32 5)) (pc' := 50) rfl lay_32 rfl rfl rfl).trans ?_
    refine (zJ_n rfl).trans ?_
    refine (zq_ia hm (v := (s1 35 (s1 32 5))) (pc' := 51) rfl lay_35 rfl rfl).trans (zite ?_ rfl)
    refine (zJ_n rfl).trans ?_
    refine (zq_isy hm (pc' := 52) rfl rfl).trans (zar_c ?_)
    refine (zJ_n rfl).trans ?_
    exact zq_rv hm rfl
  · refine (zJ_n rfl).trans ?_
    exact zq_rv hm rfl
set_option maxRecDepth 100000 in
set_option maxHeartbeats 4000000 in
theorem e_X0_stepOn (d : Nat) (σ : zF) : zx (d + 1) 4 [.inl (some 32)] σ = (
if (σ 32 5) < (σ 32 6) then (
if 0 ≤ (σ 32 5) ∧ (σ 32 5) < 40 then (
zCR LAY (zx d 21 [.inl (some 1), .inr (.inl (σ 34 (σ 32 5)))] σ) fun t2 s1 =>
if 0 ≤ (s1 32 5) ∧ (s1 32 5) < 40 then (
if 0 ≤ (s1 32 5) ∧ (s1 32 5) < 40 then (
zar LAY 0 t2 (s1 33 (s1 32 5)) (
zrv (zset (zset s1 t2 (s1 33 (s1 32 5)) (s1 36 (s1 32 5))) 32 5 (zw (((zset s1 t2 (s1 33 (s1 32 5)) (s1 36 (s1 32 5))) 32 5) + 1))))) else (
none)) else (
none)) else (
none)) else (
zrv σ)) := by
  unfold zx
  have hm := zexec_m zX2 zMT d
  refine (zexec_eq mt_4 _ rfl (LAY, σ) 0).trans ?_
  show zrunL zX2 (zexec zX2 zMT d) K_X0_stepOn U_X0_stepOn 0 [some (.inl (some 32))] [] (LAY, σ) = _
  refine (zq_aln hm (pc' := 1) rfl rfl rfl rfl).trans ?_
  refine (zq_gf hm (v := (σ 32 5)) (pc' := 4) rfl lay_32 rfl rfl rfl).trans ?_
  refine (zJ_n rfl).trans ?_
  refine (zq_aln hm (pc' := 5) rfl rfl rfl rfl).trans ?_
  refine (zq_gf hm (v := (σ 32 6)) (pc' := 8) rfl lay_32 rfl rfl rfl).trans ?_
  refine (zJ_n rfl).trans ?_
  refine (zq_ige hm (pc' := 11) rfl rfl).trans (zite ?_ ?_)
  · refine (zJ_n rfl).trans ?_
    refine (zq_aln hm (pc' := 12) rfl rfl rfl rfl).trans ?_
    refine (zq_gr hm (pc' := 15) rfl lay_32 rfl rfl).trans ?_
    refine (zJ_n rfl).trans ?_
    refine (zq_aln hm (pc' := 16) rfl rfl rfl rfl).trans ?_
    refine (zq_gr hm (pc' := 19) rfl lay_32 rfl rfl).trans ?_
    refine (zJ_n rfl).trans ?_
    refine (zq_aln hm (pc' := 20) rfl rfl rfl rfl).trans ?_
    refine (zq_gf hm (v := (σ 32 5)) (pc' := 23) rfl lay_32 rfl rfl rfl).trans ?_
    refine (zJ_n rfl).trans ?_
    refine (zq_ia hm (v := (σ 34 (σ 32 5))) (pc' := 24) rfl lay_34 rfl rfl).trans (zite ?_ rfl)
    refine (zJ_n rfl).trans ?_
    refine (zq_v3 hm (pc' := 27) rfl rfl rfl (cls_1_3) rfl rfl).trans (zCR_c rfl (fun t2 s1 => ?_))
    refine (zJ_n rfl).trans ?_
    refine (zq_aln hm (pc' := 28) rfl rfl rfl rfl).trans ?_
    refine (zq_gr hm (pc' := 31) rfl lay_32 rfl rfl).trans ?_
    refine (zJ_n rfl).trans ?_
    refine (zq_aln hm (pc' := 32) rfl rfl rfl rfl).trans ?_
    refine (zq_gf hm (v := (s1 32 5)) (pc' := 35) rfl lay_32 rfl rfl rfl).trans ?_
    refine (zJ_n rfl).trans ?_
    refine (zq_ia hm (v := (s1 33 (s1 32 5))) (pc' := 36) rfl lay_33 rfl rfl).trans (zite ?_ rfl)
    refine (zJ_n rfl).trans ?_
    refine (zq_aln hm (pc' := 37) rfl rfl rfl rfl).trans ?_
    refine (zq_gr hm (pc' := 40) rfl lay_32 rfl rfl).trans ?_
    refine (zJ_n rfl).trans ?_
    refine (zq_aln hm (pc' := 41) rfl rfl rfl rfl).trans ?_
    refine (zq_gf hm (v := (s1 32 5)) (pc' := 44) rfl lay_32 rfl rfl rfl).trans ?_
    refine (zJ_n rfl).trans ?_
    refine (zq_ia hm (v := (s1 36 (s1 32 5))) (pc' := 45) rfl lay_36 rfl rfl).trans (zite ?_ rfl)
    refine (zJ_n rfl).trans ?_
    refine (zq_isy hm (pc' := 46) rfl rfl).trans (zar_c ?_)
    refine (zJ_n rfl).trans ?_
    refine (zq_aln hm (pc' := 47) rfl rfl rfl rfl).trans ?_
    refine (zq_dup hm (pc' := 48) rfl rfl rfl rfl).trans ?_
    refine (zq_gf hm (v := ((zset s1 t2 (s1 33 (s1 32 5)) (s1 36 (s1 32 5))) 32 5)) (pc' := 51) rfl lay_32 rfl rfl rfl).trans ?_
    refine (zJ_n rfl).trans ?_
    refine (zq_ic hm (pc' := 52) rfl rfl rfl rfl).trans ?_
    refine (zq_iadd hm (pc' := 53) rfl rfl rfl).trans ?_
    refine (zq_pf hm (pc' := 56) rfl lay_32 rfl rfl rfl).trans ?_
    refine (zJ_n rfl).trans ?_
    exact zq_rv hm rfl
  · refine (zJ_n rfl).trans ?_
    exact zq_rv hm rfl
set_option maxRecDepth 100000 in
set_option maxHeartbeats 4000000 in
theorem e_X1_take (d : Nat) (σ : zF) : zx (d + 1) 6 [.inl (some 37)] σ = (
if 0 ≤ (σ 1 0) ∧ 0 ≤ (0 : Int) ∧ 0 ≤ (0 : Int) ∧ (0 : Int) + (σ 1 0) ≤ 12 ∧ (0 : Int) + (σ 1 0) ≤ 12 then (
if 0 ≤ (σ 1 1) ∧ 0 ≤ (0 : Int) ∧ 0 ≤ (0 : Int) ∧ (0 : Int) + (σ 1 1) ≤ 4 ∧ (0 : Int) + (σ 1 1) ≤ 4 then (
if 0 ≤ (5 : Int) ∧ 0 ≤ (0 : Int) ∧ 0 ≤ (0 : Int) ∧ (0 : Int) + 5 ≤ 5 ∧ (0 : Int) + 5 ≤ 5 then (
zrv (zcpy (zcpy (zcpy (zset (zset (zset σ 37 1 1) 37 2 (σ 1 0)) 37 3 (σ 1 1)) 5 0 38 0 (σ 1 0)) 8 0 39 0 (σ 1 1)) 10 0 40 0 5)) else (
none)) else (
none)) else (
none)) := by
  unfold zx
  have hm := zexec_m zX2 zMT d
  refine (zexec_eq mt_6 _ rfl (LAY, σ) 0).trans ?_
  show zrunL zX2 (zexec zX2 zMT d) K_X1_take U_X1_take 0 [some (.inl (some 37))] [] (LAY, σ) = _
  refine (zq_aln hm (pc' := 1) rfl rfl rfl rfl).trans ?_
  refine (zq_ic hm (pc' := 2) rfl rfl rfl rfl).trans ?_
  refine ((zq_pb hm (pc' := 5) rfl lay_37 rfl rfl rfl).trans (zif1 (by decide))).trans ?_
  refine (zJ_n rfl).trans ?_
  refine (zq_aln hm (pc' := 6) rfl rfl rfl rfl).trans ?_
  refine (zq_aln hm (pc' := 7) rfl rfl rfl rfl).trans ?_
  refine (zq_gr hm (pc' := 10) rfl lay_37 rfl rfl).trans ?_
  refine (zJ_n rfl).trans ?_
  refine (zq_gf hm (v := (σ 1 0)) (pc' := 13) rfl lay_1 rfl (zsn rfl) rfl).trans ?_
  refine (zJ_n rfl).trans ?_
  refine (zq_pf hm (pc' := 16) rfl lay_37 rfl rfl rfl).trans ?_
  refine (zJ_n rfl).trans ?_
  refine (zq_aln hm (pc' := 17) rfl rfl rfl rfl).trans ?_
  refine (zq_aln hm (pc' := 18) rfl rfl rfl rfl).trans ?_
  refine (zq_gr hm (pc' := 21) rfl lay_37 rfl rfl).trans ?_
  refine (zJ_n rfl).trans ?_
  refine (zq_gf hm (v := (σ 1 1)) (pc' := 24) rfl lay_1 rfl ((zsn rfl).trans (zsn rfl)) rfl).trans ?_
  refine (zJ_n rfl).trans ?_
  refine (zq_pf hm (pc' := 27) rfl lay_37 rfl rfl rfl).trans ?_
  refine (zJ_n rfl).trans ?_
  refine (zq_aln hm (pc' := 28) rfl rfl rfl rfl).trans ?_
  refine (zq_gr hm (pc' := 31) rfl lay_37 rfl rfl).trans ?_
  refine (zJ_n rfl).trans ?_
  refine (zq_gr hm (pc' := 34) rfl lay_1 rfl rfl).trans ?_
  refine (zJ_n rfl).trans ?_
  refine (zq_ic hm (pc' := 35) rfl rfl rfl rfl).trans ?_
  refine (zq_aln hm (pc' := 36) rfl rfl rfl rfl).trans ?_
  refine (zq_gr hm (pc' := 39) rfl lay_37 rfl rfl).trans ?_
  refine (zJ_n rfl).trans ?_
  refine (zq_ic hm (pc' := 40) rfl rfl rfl rfl).trans ?_
  refine (zq_aln hm (pc' := 41) rfl rfl rfl rfl).trans ?_
  refine (zq_gf hm (v := (σ 1 0)) (pc' := 44) rfl lay_37 rfl ((zsi (by decide)).trans zsh) rfl).trans ?_
  refine (zJ_n rfl).trans ?_
  refine (zq_arc hm (pc' := 47) rfl rfl rfl lay_5 lay_38 rfl rfl).trans (zite ?_ rfl)
  refine (zJ_n rfl).trans ?_
  refine (zq_aln hm (pc' := 48) rfl rfl rfl rfl).trans ?_
  refine (zq_gr hm (pc' := 51) rfl lay_37 rfl rfl).trans ?_
  refine (zJ_n rfl).trans ?_
  refine (zq_gr hm (pc' := 54) rfl lay_1 rfl rfl).trans ?_
  refine (zJ_n rfl).trans ?_
  refine (zq_ic hm (pc' := 55) rfl rfl rfl rfl).trans ?_
  refine (zq_aln hm (pc' := 56) rfl rfl rfl rfl).trans ?_
  refine (zq_gr hm (pc' := 59) rfl lay_37 rfl rfl).trans ?_
  refine (zJ_n rfl).trans ?_
  refine (zq_ic hm (pc' := 60) rfl rfl rfl rfl).trans ?_
  refine (zq_aln hm (pc' := 61) rfl rfl rfl rfl).trans ?_
  refine (zq_gf hm (v := (σ 1 1)) (pc' := 64) rfl lay_37 rfl ((zscn rfl).trans zsh) rfl).trans ?_
  refine (zJ_n rfl).trans ?_
  refine (zq_arc hm (pc' := 67) rfl rfl rfl lay_8 lay_39 rfl rfl).trans (zite ?_ rfl)
  refine (zJ_n rfl).trans ?_
  refine (zq_aln hm (pc' := 68) rfl rfl rfl rfl).trans ?_
  refine (zq_gr hm (pc' := 71) rfl lay_37 rfl rfl).trans ?_
  refine (zJ_n rfl).trans ?_
  refine (zq_gr hm (pc' := 74) rfl lay_1 rfl rfl).trans ?_
  refine (zJ_n rfl).trans ?_
  refine (zq_ic hm (pc' := 75) rfl rfl rfl rfl).trans ?_
  refine (zq_aln hm (pc' := 76) rfl rfl rfl rfl).trans ?_
  refine (zq_gr hm (pc' := 79) rfl lay_37 rfl rfl).trans ?_
  refine (zJ_n rfl).trans ?_
  refine (zq_ic hm (pc' := 80) rfl rfl rfl rfl).trans ?_
  refine (zq_ic hm (pc' := 81) rfl rfl rfl rfl).trans ?_
  refine (zq_arc hm (pc' := 84) rfl rfl rfl lay_10 lay_40 rfl rfl).trans (zite ?_ rfl)
  refine (zJ_n rfl).trans ?_
  exact zq_rv hm rfl
set_option maxRecDepth 100000 in
set_option maxHeartbeats 4000000 in
theorem e_X1_layBack (d : Nat) (σ : zF) : zx (d + 1) 7 [.inl (some 37)] σ = (
if 0 ≤ (σ 37 2) ∧ 0 ≤ (0 : Int) ∧ 0 ≤ (0 : Int) ∧ (0 : Int) + (σ 37 2) ≤ 12 ∧ (0 : Int) + (σ 37 2) ≤ 12 then (
if 0 ≤ (σ 37 3) ∧ 0 ≤ (0 : Int) ∧ 0 ≤ (0 : Int) ∧ (0 : Int) + (σ 37 3) ≤ 4 ∧ (0 : Int) + (σ 37 3) ≤ 4 then (
if 0 ≤ (5 : Int) ∧ 0 ≤ (0 : Int) ∧ 0 ≤ (0 : Int) ∧ (0 : Int) + 5 ≤ 5 ∧ (0 : Int) + 5 ≤ 5 then (
zrv (zcpy (zcpy (zcpy σ 38 0 5 0 (σ 37 2)) 39 0 8 0 (σ 37 3)) 40 0 10 0 5)) else (
none)) else (
none)) else (
none)) := by
  unfold zx
  have hm := zexec_m zX2 zMT d
  refine (zexec_eq mt_7 _ rfl (LAY, σ) 0).trans ?_
  show zrunL zX2 (zexec zX2 zMT d) K_X1_layBack U_X1_layBack 0 [some (.inl (some 37))] [] (LAY, σ) = _
  refine (zq_aln hm (pc' := 1) rfl rfl rfl rfl).trans ?_
  refine (zq_gr hm (pc' := 4) rfl lay_37 rfl rfl).trans ?_
  refine (zJ_n rfl).trans ?_
  refine (zq_ic hm (pc' := 5) rfl rfl rfl rfl).trans ?_
  refine (zq_aln hm (pc' := 6) rfl rfl rfl rfl).trans ?_
  refine (zq_gr hm (pc' := 9) rfl lay_37 rfl rfl).trans ?_
  refine (zJ_n rfl).trans ?_
  refine (zq_gr hm (pc' := 12) rfl lay_1 rfl rfl).trans ?_
  refine (zJ_n rfl).trans ?_
  refine (zq_ic hm (pc' := 13) rfl rfl rfl rfl).trans ?_
  refine (zq_aln hm (pc' := 14) rfl rfl rfl rfl).trans ?_
  refine (zq_gf hm (v := (σ 37 2)) (pc' := 17) rfl lay_37 rfl rfl rfl).trans ?_
  refine (zJ_n rfl).trans ?_
  refine (zq_arc hm (pc' := 20) rfl rfl rfl lay_38 lay_5 rfl rfl).trans (zite ?_ rfl)
  refine (zJ_n rfl).trans ?_
  refine (zq_aln hm (pc' := 21) rfl rfl rfl rfl).trans ?_
  refine (zq_gr hm (pc' := 24) rfl lay_37 rfl rfl).trans ?_
  refine (zJ_n rfl).trans ?_
  refine (zq_ic hm (pc' := 25) rfl rfl rfl rfl).trans ?_
  refine (zq_aln hm (pc' := 26) rfl rfl rfl rfl).trans ?_
  refine (zq_gr hm (pc' := 29) rfl lay_37 rfl rfl).trans ?_
  refine (zJ_n rfl).trans ?_
  refine (zq_gr hm (pc' := 32) rfl lay_1 rfl rfl).trans ?_
  refine (zJ_n rfl).trans ?_
  refine (zq_ic hm (pc' := 33) rfl rfl rfl rfl).trans ?_
  refine (zq_aln hm (pc' := 34) rfl rfl rfl rfl).trans ?_
  refine (zq_gf hm (v := (σ 37 3)) (pc' := 37) rfl lay_37 rfl (zscn rfl) rfl).trans ?_
  refine (zJ_n rfl).trans ?_
  refine (zq_arc hm (pc' := 40) rfl rfl rfl lay_39 lay_8 rfl rfl).trans (zite ?_ rfl)
  refine (zJ_n rfl).trans ?_
  refine (zq_aln hm (pc' := 41) rfl rfl rfl rfl).trans ?_
  refine (zq_gr hm (pc' := 44) rfl lay_37 rfl rfl).trans ?_
  refine (zJ_n rfl).trans ?_
  refine (zq_ic hm (pc' := 45) rfl rfl rfl rfl).trans ?_
  refine (zq_aln hm (pc' := 46) rfl rfl rfl rfl).trans ?_
  refine (zq_gr hm (pc' := 49) rfl lay_37 rfl rfl).trans ?_
  refine (zJ_n rfl).trans ?_
  refine (zq_gr hm (pc' := 52) rfl lay_1 rfl rfl).trans ?_
  refine (zJ_n rfl).trans ?_
  refine (zq_ic hm (pc' := 53) rfl rfl rfl rfl).trans ?_
  refine (zq_ic hm (pc' := 54) rfl rfl rfl rfl).trans ?_
  refine (zq_arc hm (pc' := 57) rfl rfl rfl lay_40 lay_10 rfl rfl).trans (zite ?_ rfl)
  refine (zJ_n rfl).trans ?_
  exact zq_rv hm rfl
set_option maxRecDepth 100000 in
set_option maxHeartbeats 4000000 in
theorem e_X2_take (d : Nat) (x2 : Int) (σ : zF) : zx (d + 1) 9 [.inl (some 14), .inl (some 13), .inr (.inl x2)] σ = (
if 0 ≤ zmin x2 121 ∧ 0 ≤ (0 : Int) ∧ 0 ≤ (0 : Int) ∧ (0 : Int) + (zmin x2 121) ≤ 121 ∧ (0 : Int) + (zmin x2 121) ≤ 121 then (
zrv (zcpy (zset σ 14 1 (zmin x2 121)) 13 0 15 0 (zmin x2 121))) else (
none)) := by
  unfold zx
  have hm := zexec_m zX2 zMT d
  refine (zexec_eq mt_9 _ rfl (LAY, σ) 0).trans ?_
  show zrunL zX2 (zexec zX2 zMT d) K_X2_take U_X2_take 0 [some (.inl (some 14)), some (.inl (some 13)), some (.inr (.inl x2))] [] (LAY, σ) = _
  refine (zq_aln hm (pc' := 1) rfl rfl rfl rfl).trans ?_
  refine (zq_iln hm (pc' := 2) rfl rfl rfl rfl).trans ?_
  refine (zq_aln hm (pc' := 3) rfl rfl rfl rfl).trans ?_
  refine (zq_gr hm (pc' := 6) rfl lay_14 rfl rfl).trans ?_
  refine (zJ_n rfl).trans ?_
  refine (zq_len hm (v := 121) (pc' := 7) rfl lay_15 rfl rfl).trans ?_
  refine (zJ_n rfl).trans ?_
  refine (zq_min hm (pc' := 10) rfl rfl rfl rfl).trans ?_
  refine (zJ_n rfl).trans ?_
  refine (zq_pf hm (pc' := 13) rfl lay_14 rfl rfl rfl).trans ?_
  refine (zJ_n rfl).trans ?_
  refine (zq_aln hm (pc' := 14) rfl rfl rfl rfl).trans ?_
  refine (zq_ic hm (pc' := 15) rfl rfl rfl rfl).trans ?_
  refine (zq_aln hm (pc' := 16) rfl rfl rfl rfl).trans ?_
  refine (zq_gr hm (pc' := 19) rfl lay_14 rfl rfl).trans ?_
  refine (zJ_n rfl).trans ?_
  refine (zq_ic hm (pc' := 20) rfl rfl rfl rfl).trans ?_
  refine (zq_aln hm (pc' := 21) rfl rfl rfl rfl).trans ?_
  refine (zq_gf hm (v := zmin x2 121) (pc' := 24) rfl lay_14 rfl zsh rfl).trans ?_
  refine (zJ_n rfl).trans ?_
  refine (zq_arc hm (pc' := 27) rfl rfl rfl lay_13 lay_15 rfl rfl).trans (zite ?_ rfl)
  refine (zJ_n rfl).trans ?_
  exact zq_rv hm rfl
noncomputable def P_X2_work_19 (d : Nat) (y1 : Int) (y2 : Int) (y3 : Int) (y4 : Int) (y5 : Int) (y6 : Int) (y7 : Int) (σ : zF) : Option zR := zrunL zX2 (zexec zX2 zMT d) K_X2_work U_X2_work 19 [some (.inl (some 14)), some (.inr (.inl y1)), some (.inr (.inl y2)), some (.inr (.inl y3)), some (.inr (.inl y4)), some (.inr (.inl y5)), some (.inr (.inl y6)), some (.inr (.inl y7)), none, none] [] (LAY, σ)
set_option maxRecDepth 100000 in
set_option maxHeartbeats 4000000 in
theorem e_X2_work (d : Nat) (x1 : Int) (x2 : Int) (x3 : Int) (x4 : Int) (x5 : Int) (x6 : Int) (σ : zF) : zx (d + 1) 10 [.inl (some 14), .inr (.inl x1), .inr (.inl x2), .inr (.inl x3), .inr (.inl x4), .inr (.inl x5), .inr (.inl x6)] σ = (
if (σ 14 1) = 0 then (
zri (zw (x1 - x2)) σ) else (
P_X2_work_19 d x1 x2 x3 x4 x5 x6 0 (zset σ 14 3 0))) := by
  unfold zx
  have hm := zexec_m zX2 zMT d
  refine (zexec_eq mt_10 _ rfl (LAY, σ) 0).trans ?_
  show zrunL zX2 (zexec zX2 zMT d) K_X2_work U_X2_work 0 [some (.inl (some 14)), some (.inr (.inl x1)), some (.inr (.inl x2)), some (.inr (.inl x3)), some (.inr (.inl x4)), some (.inr (.inl x5)), some (.inr (.inl x6)), none, none, none] [] (LAY, σ) = _
  refine (zq_aln hm (pc' := 1) rfl rfl rfl rfl).trans ?_
  refine (zq_gf hm (v := (σ 14 1)) (pc' := 4) rfl lay_14 rfl rfl rfl).trans ?_
  refine (zJ_n rfl).trans ?_
  refine (zq_zne hm (pc' := 7) rfl rfl).trans (zite ?_ ?_)
  · refine (zJ_n rfl).trans ?_
    refine (zq_iln hm (pc' := 8) rfl rfl rfl rfl).trans ?_
    refine (zq_iln hm (pc' := 9) rfl rfl rfl rfl).trans ?_
    refine (zq_isub hm (pc' := 10) rfl rfl rfl).trans ?_
    exact zq_ri hm rfl rfl
  · refine (zJ_n rfl).trans ?_
    refine (zq_aln hm (pc' := 12) rfl rfl rfl rfl).trans ?_
    refine (zq_ic hm (pc' := 13) rfl rfl rfl rfl).trans ?_
    refine (zq_pf hm (pc' := 16) rfl lay_14 rfl rfl rfl).trans ?_
    refine (zJ_n rfl).trans ?_
    refine (zq_ic hm (pc' := 17) rfl rfl rfl rfl).trans ?_
    exact (zc_is hm (ls' := [some (.inl (some 14)), some (.inr (.inl x1)), some (.inr (.inl x2)), some (.inr (.inl x3)), some (.inr (.inl x4)), some (.inr (.inl x5)), some (.inr (.inl x6)), some (.inr (.inl 0)), none, none]) (pc' := 19) rfl rfl rfl rfl).trans rfl
set_option maxRecDepth 100000 in
set_option maxHeartbeats 4000000 in
theorem e_X2_work_19 (d : Nat) (y1 : Int) (y2 : Int) (y3 : Int) (y4 : Int) (y5 : Int) (y6 : Int) (y7 : Int) (σ : zF) : P_X2_work_19 d y1 y2 y3 y4 y5 y6 y7 σ = (
if y7 < (σ 14 1) then (
if 0 ≤ y7 ∧ y7 < 121 then (
if zw (-(σ 15 y7)) = 33 then (
zCI LAY (zx d 14 [.inl (some 14)] σ) fun r110 s109 =>
if r110 = 0 then (
zCV LAY (zx d 13 [.inl (some 14), .inr (.inl 1)] s109) fun s112 =>
P_X2_work_19 d y1 y2 y3 y4 y5 y6 (zw (y7 + 1)) s112) else (
zCV LAY (zx d 13 [.inl (some 14), .inr (.inl 0)] s109) fun s111 =>
P_X2_work_19 d y1 y2 y3 y4 y5 y6 (zw (y7 + 1)) s111)) else (
if zw (-(σ 15 y7)) = 59 then (
zCI LAY (zx d 14 [.inl (some 14)] σ) fun r114 s113 =>
zri r114 s113) else (
if zw (-(σ 15 y7)) = 63 then (
zCI LAY (zx d 14 [.inl (some 14)] σ) fun r116 s115 =>
if r116 = 0 then (
zCI LAY (zx d 11 [.inl (some 14), .inr (.inl y7)] s115) fun r118 s117 =>
P_X2_work_19 d y1 y2 y3 y4 y5 y6 (zw (r118 + 1)) s117) else (
P_X2_work_19 d y1 y2 y3 y4 y5 y6 (zw (y7 + 1)) s115)) else (
if zw (-(σ 15 y7)) = 106 then (
zCV LAY (zx d 13 [.inl (some 14), .inr (.inl y3)] σ) fun s119 =>
P_X2_work_19 d y1 y2 y3 y4 y5 y6 (zw (y7 + 1)) s119) else (
if zw (-(σ 15 y7)) = 107 then (
zCV LAY (zx d 13 [.inl (some 14), .inr (.inl y6)] σ) fun s120 =>
P_X2_work_19 d y1 y2 y3 y4 y5 y6 (zw (y7 + 1)) s120) else (
if zw (-(σ 15 y7)) = 108 then (
zCV LAY (zx d 13 [.inl (some 14), .inr (.inl y1)] σ) fun s121 =>
P_X2_work_19 d y1 y2 y3 y4 y5 y6 (zw (y7 + 1)) s121) else (
if zw (-(σ 15 y7)) = 109 then (
zCV LAY (zx d 13 [.inl (some 14), .inr (.inl y2)] σ) fun s122 =>
P_X2_work_19 d y1 y2 y3 y4 y5 y6 (zw (y7 + 1)) s122) else (
if zw (-(σ 15 y7)) = 110 then (
zCV LAY (zx d 13 [.inl (some 14), .inr (.inl y4)] σ) fun s123 =>
P_X2_work_19 d y1 y2 y3 y4 y5 y6 (zw (y7 + 1)) s123) else (
if zw (-(σ 15 y7)) = 114 then (
zCV LAY (zx d 13 [.inl (some 14), .inr (.inl y5)] σ) fun s124 =>
P_X2_work_19 d y1 y2 y3 y4 y5 y6 (zw (y7 + 1)) s124) else (
if zw (-(σ 15 y7)) = 126 then (
zCI LAY (zx d 14 [.inl (some 14)] σ) fun r126 s125 =>
zCV LAY (zx d 13 [.inl (some 14), .inr (.inl (zw (-r126)))] s125) fun s127 =>
P_X2_work_19 d y1 y2 y3 y4 y5 y6 (zw (y7 + 1)) s127) else (
if (σ 15 y7) < 0 then (
zCI LAY (zx d 14 [.inl (some 14)] σ) fun r102 s101 =>
zCI LAY (zx d 14 [.inl (some 14)] s101) fun r104 s103 =>
zCI LAY (zx d 12 [.inr (.inl (zw (-(σ 15 y7)))), .inr (.inl r104), .inr (.inl r102)] s103) fun r106 s105 =>
zCV LAY (zx d 13 [.inl (some 14), .inr (.inl r106)] s105) fun s107 =>
P_X2_work_19 d y1 y2 y3 y4 y5 y6 (zw (y7 + 1)) s107) else (
zCV LAY (zx d 13 [.inl (some 14), .inr (.inl (σ 15 y7))] σ) fun s108 =>
P_X2_work_19 d y1 y2 y3 y4 y5 y6 (zw (y7 + 1)) s108)))))))))))) else (
none)) else (
zri 0 σ)) := by
  have hm := zexec_m zX2 zMT d
  show zrunL zX2 (zexec zX2 zMT d) K_X2_work U_X2_work 19 [some (.inl (some 14)), some (.inr (.inl y1)), some (.inr (.inl y2)), some (.inr (.inl y3)), some (.inr (.inl y4)), some (.inr (.inl y5)), some (.inr (.inl y6)), some (.inr (.inl y7)), none, none] [] (LAY, σ) = _
  refine (zq_il hm (pc' := 21) rfl rfl rfl rfl).trans ?_
  refine (zq_aln hm (pc' := 22) rfl rfl rfl rfl).trans ?_
  refine (zq_gf hm (v := (σ 14 1)) (pc' := 25) rfl lay_14 rfl rfl rfl).trans ?_
  refine (zJ_n rfl).trans ?_
  refine (zq_ige hm (pc' := 28) rfl rfl).trans (zite ?_ ?_)
  · refine (zJ_n rfl).trans ?_
    refine (zq_aln hm (pc' := 29) rfl rfl rfl rfl).trans ?_
    refine (zq_gr hm (pc' := 32) rfl lay_14 rfl rfl).trans ?_
    refine (zJ_n rfl).trans ?_
    refine (zq_il hm (pc' := 34) rfl rfl rfl rfl).trans ?_
    refine (zq_ia hm (v := (σ 15 y7)) (pc' := 35) rfl lay_15 rfl rfl).trans (zite ?_ rfl)
    refine (zJ_n rfl).trans ?_
    refine (zq_is hm (ls' := [some (.inl (some 14)), some (.inr (.inl y1)), some (.inr (.inl y2)), some (.inr (.inl y3)), some (.inr (.inl y4)), some (.inr (.inl y5)), some (.inr (.inl y6)), some (.inr (.inl y7)), some (.inr (.inl (σ 15 y7))), none]) (pc' := 37) rfl rfl rfl rfl).trans ?_
    refine (zq_il hm (pc' := 39) rfl rfl rfl rfl).trans ?_
    refine (zq_ineg hm (pc' := 40) rfl rfl rfl).trans ?_
    refine (zq_lk hm rfl).trans (zsw_c (k' := fun _ => none) ?_ (zsw_c (k' := fun _ => none) ?_ (zsw_c (k' := fun _ => none) ?_ (zsw_c (k' := fun _ => none) ?_ (zsw_c (k' := fun _ => none) ?_ (zsw_c (k' := fun _ => none) ?_ (zsw_c (k' := fun _ => none) ?_ (zsw_c (k' := fun _ => none) ?_ (zsw_c (k' := fun _ => none) ?_ (zsw_c (k' := fun _ => none) ?_ (zsw_n ?_)))))))))))
    · refine (zJ_n rfl).trans ?_
      refine (zq_aln hm (pc' := 184) rfl rfl rfl rfl).trans ?_
      refine (zq_aln hm (pc' := 185) rfl rfl rfl rfl).trans ?_
      refine (zq_v1 hm (pc' := 188) rfl rfl rfl (cls_14_2) rfl rfl).trans (zCI_c rfl (fun r110 s109 => ?_))
      refine (zJ_n rfl).trans ?_
      refine (zq_zne hm (pc' := 191) rfl rfl).trans (zite ?_ ?_)
      · refine (zJ_n rfl).trans ?_
        refine (zq_ic hm (pc' := 192) rfl rfl rfl rfl).trans ?_
        refine (zq_goto hm rfl rfl).trans ?_
        refine (zq_v0 hm (pc' := 199) rfl rfl rfl (cls_14_2) rfl rfl).trans (zCV_c rfl (fun s112 => ?_))
        refine (zJ_n rfl).trans ?_
        refine (zq_goto hm rfl rfl).trans ?_
        refine (zq_iinc hm (ls' := [some (.inl (some 14)), some (.inr (.inl y1)), some (.inr (.inl y2)), some (.inr (.inl y3)), some (.inr (.inl y4)), some (.inr (.inl y5)), some (.inr (.inl y6)), some (.inr (.inl (zw (y7 + 1)))), some (.inr (.inl (σ 15 y7))), none]) (pc' := 276) rfl rfl rfl rfl rfl rfl).trans ?_
        exact (zc_goto hm rfl rfl).trans rfl
      · refine (zJ_n rfl).trans ?_
        refine (zq_ic hm (pc' := 196) rfl rfl rfl rfl).trans ?_
        refine (zq_v0 hm (pc' := 199) rfl rfl rfl (cls_14_2) rfl rfl).trans (zCV_c rfl (fun s111 => ?_))
        refine (zJ_n rfl).trans ?_
        refine (zq_goto hm rfl rfl).trans ?_
        refine (zq_iinc hm (ls' := [some (.inl (some 14)), some (.inr (.inl y1)), some (.inr (.inl y2)), some (.inr (.inl y3)), some (.inr (.inl y4)), some (.inr (.inl y5)), some (.inr (.inl y6)), some (.inr (.inl (zw (y7 + 1)))), some (.inr (.inl (σ 15 y7))), none]) (pc' := 276) rfl rfl rfl rfl rfl rfl).trans ?_
        exact (zc_goto hm rfl rfl).trans rfl
    · refine (zJ_n rfl).trans ?_
      refine (zq_aln hm (pc' := 215) rfl rfl rfl rfl).trans ?_
      refine (zq_v1 hm (pc' := 218) rfl rfl rfl (cls_14_2) rfl rfl).trans (zCI_c rfl (fun r114 s113 => ?_))
      refine (zJ_n rfl).trans ?_
      exact zq_ri hm rfl rfl
    · refine (zJ_n rfl).trans ?_
      refine (zq_aln hm (pc' := 220) rfl rfl rfl rfl).trans ?_
      refine (zq_v1 hm (pc' := 223) rfl rfl rfl (cls_14_2) rfl rfl).trans (zCI_c rfl (fun r116 s115 => ?_))
      refine (zJ_n rfl).trans ?_
      refine (zq_zne hm (pc' := 226) rfl rfl).trans (zite ?_ ?_)
      · refine (zJ_n rfl).trans ?_
        refine (zq_aln hm (pc' := 227) rfl rfl rfl rfl).trans ?_
        refine (zq_il hm (pc' := 229) rfl rfl rfl rfl).trans ?_
        refine (zq_v1 hm (pc' := 232) rfl rfl rfl (cls_14_2) rfl rfl).trans (zCI_c rfl (fun r118 s117 => ?_))
        refine (zJ_n rfl).trans ?_
        refine (zq_is hm (ls' := [some (.inl (some 14)), some (.inr (.inl y1)), some (.inr (.inl y2)), some (.inr (.inl y3)), some (.inr (.inl y4)), some (.inr (.inl y5)), some (.inr (.inl y6)), some (.inr (.inl r118)), some (.inr (.inl (σ 15 y7))), none]) (pc' := 234) rfl rfl rfl rfl).trans ?_
        refine (zq_goto hm rfl rfl).trans ?_
        refine (zq_iinc hm (ls' := [some (.inl (some 14)), some (.inr (.inl y1)), some (.inr (.inl y2)), some (.inr (.inl y3)), some (.inr (.inl y4)), some (.inr (.inl y5)), some (.inr (.inl y6)), some (.inr (.inl (zw (r118 + 1)))), some (.inr (.inl (σ 15 y7))), none]) (pc' := 276) rfl rfl rfl rfl rfl rfl).trans ?_
        exact (zc_goto hm rfl rfl).trans rfl
      · refine (zJ_n rfl).trans ?_
        refine (zq_iinc hm (ls' := [some (.inl (some 14)), some (.inr (.inl y1)), some (.inr (.inl y2)), some (.inr (.inl y3)), some (.inr (.inl y4)), some (.inr (.inl y5)), some (.inr (.inl y6)), some (.inr (.inl (zw (y7 + 1)))), some (.inr (.inl (σ 15 y7))), none]) (pc' := 276) rfl rfl rfl rfl rfl rfl).trans ?_
        exact (zc_goto hm rfl rfl).trans rfl
    · refine (zJ_n rfl).trans ?_
      refine (zq_aln hm (pc' := 149) rfl rfl rfl rfl).trans ?_
      refine (zq_iln hm (pc' := 150) rfl rfl rfl rfl).trans ?_
      refine (zq_v0 hm (pc' := 153) rfl rfl rfl (cls_14_2) rfl rfl).trans (zCV_c rfl (fun s119 => ?_))
      refine (zJ_n rfl).trans ?_
      refine (zq_goto hm rfl rfl).trans ?_
      refine (zq_iinc hm (ls' := [some (.inl (some 14)), some (.inr (.inl y1)), some (.inr (.inl y2)), some (.inr (.inl y3)), some (.inr (.inl y4)), some (.inr (.inl y5)), some (.inr (.inl y6)), some (.inr (.inl (zw (y7 + 1)))), some (.inr (.inl (σ 15 y7))), none]) (pc' := 276) rfl rfl rfl rfl rfl rfl).trans ?_
      exact (zc_goto hm rfl rfl).trans rfl
    · refine (zJ_n rfl).trans ?_
      refine (zq_aln hm (pc' := 175) rfl rfl rfl rfl).trans ?_
      refine (zq_il hm (pc' := 177) rfl rfl rfl rfl).trans ?_
      refine (zq_v0 hm (pc' := 180) rfl rfl rfl (cls_14_2) rfl rfl).trans (zCV_c rfl (fun s120 => ?_))
      refine (zJ_n rfl).trans ?_
      refine (zq_goto hm rfl rfl).trans ?_
      refine (zq_iinc hm (ls' := [some (.inl (some 14)), some (.inr (.inl y1)), some (.inr (.inl y2)), some (.inr (.inl y3)), some (.inr (.inl y4)), some (.inr (.inl y5)), some (.inr (.inl y6)), some (.inr (.inl (zw (y7 + 1)))), some (.inr (.inl (σ 15 y7))), none]) (pc' := 276) rfl rfl rfl rfl rfl rfl).trans ?_
      exact (zc_goto hm rfl rfl).trans rfl
    · refine (zJ_n rfl).trans ?_
      refine (zq_aln hm (pc' := 133) rfl rfl rfl rfl).trans ?_
      refine (zq_iln hm (pc' := 134) rfl rfl rfl rfl).trans ?_
      refine (zq_v0 hm (pc' := 137) rfl rfl rfl (cls_14_2) rfl rfl).trans (zCV_c rfl (fun s121 => ?_))
      refine (zJ_n rfl).trans ?_
      refine (zq_goto hm rfl rfl).trans ?_
      refine (zq_iinc hm (ls' := [some (.inl (some 14)), some (.inr (.inl y1)), some (.inr (.inl y2)), some (.inr (.inl y3)), some (.inr (.inl y4)), some (.inr (.inl y5)), some (.inr (.inl y6)), some (.inr (.inl (zw (y7 + 1)))), some (.inr (.inl (σ 15 y7))), none]) (pc' := 276) rfl rfl rfl rfl rfl rfl).trans ?_
      exact (zc_goto hm rfl rfl).trans rfl
    · refine (zJ_n rfl).trans ?_
      refine (zq_aln hm (pc' := 141) rfl rfl rfl rfl).trans ?_
      refine (zq_iln hm (pc' := 142) rfl rfl rfl rfl).trans ?_
      refine (zq_v0 hm (pc' := 145) rfl rfl rfl (cls_14_2) rfl rfl).trans (zCV_c rfl (fun s122 => ?_))
      refine (zJ_n rfl).trans ?_
      refine (zq_goto hm rfl rfl).trans ?_
      refine (zq_iinc hm (ls' := [some (.inl (some 14)), some (.inr (.inl y1)), some (.inr (.inl y2)), some (.inr (.inl y3)), some (.inr (.inl y4)), some (.inr (.inl y5)), some (.inr (.inl y6)), some (.inr (.inl (zw (y7 + 1)))), some (.inr (.inl (σ 15 y7))), none]) (pc' := 276) rfl rfl rfl rfl rfl rfl).trans ?_
      exact (zc_goto hm rfl rfl).trans rfl
    · refine (zJ_n rfl).trans ?_
      refine (zq_aln hm (pc' := 157) rfl rfl rfl rfl).trans ?_
      refine (zq_il hm (pc' := 159) rfl rfl rfl rfl).trans ?_
      refine (zq_v0 hm (pc' := 162) rfl rfl rfl (cls_14_2) rfl rfl).trans (zCV_c rfl (fun s123 => ?_))
      refine (zJ_n rfl).trans ?_
      refine (zq_goto hm rfl rfl).trans ?_
      refine (zq_iinc hm (ls' := [some (.inl (some 14)), some (.inr (.inl y1)), some (.inr (.inl y2)), some (.inr (.inl y3)), some (.inr (.inl y4)), some (.inr (.inl y5)), some (.inr (.inl y6)), some (.inr (.inl (zw (y7 + 1)))), some (.inr (.inl (σ 15 y7))), none]) (pc' := 276) rfl rfl rfl rfl rfl rfl).trans ?_
      exact (zc_goto hm rfl rfl).trans rfl
    · refine (zJ_n rfl).trans ?_
      refine (zq_aln hm (pc' := 166) rfl rfl rfl rfl).trans ?_
      refine (zq_il hm (pc' := 168) rfl rfl rfl rfl).trans ?_
      refine (zq_v0 hm (pc' := 171) rfl rfl rfl (cls_14_2) rfl rfl).trans (zCV_c rfl (fun s124 => ?_))
      refine (zJ_n rfl).trans ?_
      refine (zq_goto hm rfl rfl).trans ?_
      refine (zq_iinc hm (ls' := [some (.inl (some 14)), some (.inr (.inl y1)), some (.inr (.inl y2)), some (.inr (.inl y3)), some (.inr (.inl y4)), some (.inr (.inl y5)), some (.inr (.inl y6)), some (.inr (.inl (zw (y7 + 1)))), some (.inr (.inl (σ 15 y7))), none]) (pc' := 276) rfl rfl rfl rfl rfl rfl).trans ?_
      exact (zc_goto hm rfl rfl).trans rfl
    · refine (zJ_n rfl).trans ?_
      refine (zq_aln hm (pc' := 203) rfl rfl rfl rfl).trans ?_
      refine (zq_aln hm (pc' := 204) rfl rfl rfl rfl).trans ?_
      refine (zq_v1 hm (pc' := 207) rfl rfl rfl (cls_14_2) rfl rfl).trans (zCI_c rfl (fun r126 s125 => ?_))
      refine (zJ_n rfl).trans ?_
      refine (zq_ineg hm (pc' := 208) rfl rfl rfl).trans ?_
      refine (zq_v0 hm (pc' := 211) rfl rfl rfl (cls_14_2) rfl rfl).trans (zCV_c rfl (fun s127 => ?_))
      refine (zJ_n rfl).trans ?_
      refine (zq_goto hm rfl rfl).trans ?_
      refine (zq_iinc hm (ls' := [some (.inl (some 14)), some (.inr (.inl y1)), some (.inr (.inl y2)), some (.inr (.inl y3)), some (.inr (.inl y4)), some (.inr (.inl y5)), some (.inr (.inl y6)), some (.inr (.inl (zw (y7 + 1)))), some (.inr (.inl (σ 15 y7))), none]) (pc' := 276) rfl rfl rfl rfl rfl rfl).trans ?_
      exact (zc_goto hm rfl rfl).trans rfl
    · refine (zJ_n rfl).trans ?_
      refine (zq_il hm (pc' := 239) rfl rfl rfl rfl).trans ?_
      refine (zq_zlt hm (pc' := 242) rfl rfl).trans (zite ?_ ?_)
      · refine (zJ_n rfl).trans ?_
        refine (zq_aln hm (pc' := 252) rfl rfl rfl rfl).trans ?_
        refine (zq_v1 hm (pc' := 255) rfl rfl rfl (cls_14_2) rfl rfl).trans (zCI_c rfl (fun r102 s101 => ?_))
        refine (zJ_n rfl).trans ?_
        refine (zq_is hm (ls' := [some (.inl (some 14)), some (.inr (.inl y1)), some (.inr (.inl y2)), some (.inr (.inl y3)), some (.inr (.inl y4)), some (.inr (.inl y5)), some (.inr (.inl y6)), some (.inr (.inl y7)), some (.inr (.inl (σ 15 y7))), some (.inr (.inl r102))]) (pc' := 257) rfl rfl rfl rfl).trans ?_
        refine (zq_aln hm (pc' := 258) rfl rfl rfl rfl).trans ?_
        refine (zq_il hm (pc' := 260) rfl rfl rfl rfl).trans ?_
        refine (zq_ineg hm (pc' := 261) rfl rfl rfl).trans ?_
        refine (zq_aln hm (pc' := 262) rfl rfl rfl rfl).trans ?_
        refine (zq_v1 hm (pc' := 265) rfl rfl rfl (cls_14_2) rfl rfl).trans (zCI_c rfl (fun r104 s103 => ?_))
        refine (zJ_n rfl).trans ?_
        refine (zq_il hm (pc' := 267) rfl rfl rfl rfl).trans ?_
        refine (zq_s1 hm (pc' := 270) rfl rfl rfl rfl rfl rfl).trans (zCI_c rfl (fun r106 s105 => ?_))
        refine (zJ_n rfl).trans ?_
        refine (zq_v0 hm (pc' := 273) rfl rfl rfl (cls_14_2) rfl rfl).trans (zCV_c rfl (fun s107 => ?_))
        refine (zJ_n rfl).trans ?_
        refine (zq_iinc hm (ls' := [some (.inl (some 14)), some (.inr (.inl y1)), some (.inr (.inl y2)), some (.inr (.inl y3)), some (.inr (.inl y4)), some (.inr (.inl y5)), some (.inr (.inl y6)), some (.inr (.inl (zw (y7 + 1)))), some (.inr (.inl (σ 15 y7))), some (.inr (.inl r102))]) (pc' := 276) rfl rfl rfl rfl rfl rfl).trans ?_
        exact (zc_goto hm rfl rfl).trans rfl
      · refine (zJ_n rfl).trans ?_
        refine (zq_aln hm (pc' := 243) rfl rfl rfl rfl).trans ?_
        refine (zq_il hm (pc' := 245) rfl rfl rfl rfl).trans ?_
        refine (zq_v0 hm (pc' := 248) rfl rfl rfl (cls_14_2) rfl rfl).trans (zCV_c rfl (fun s108 => ?_))
        refine (zJ_n rfl).trans ?_
        refine (zq_goto hm rfl rfl).trans ?_
        refine (zq_iinc hm (ls' := [some (.inl (some 14)), some (.inr (.inl y1)), some (.inr (.inl y2)), some (.inr (.inl y3)), some (.inr (.inl y4)), some (.inr (.inl y5)), some (.inr (.inl y6)), some (.inr (.inl (zw (y7 + 1)))), some (.inr (.inl (σ 15 y7))), none]) (pc' := 276) rfl rfl rfl rfl rfl rfl).trans ?_
        exact (zc_goto hm rfl rfl).trans rfl
  · refine (zJ_n rfl).trans ?_
    refine (zq_ic hm (pc' := 280) rfl rfl rfl rfl).trans ?_
    exact zq_ri hm rfl rfl
noncomputable def P_X2_endOfLine_2 (d : Nat) (y1 : Int) (σ : zF) : Option zR := zrunL zX2 (zexec zX2 zMT d) K_X2_endOfLine U_X2_endOfLine 2 [some (.inl (some 14)), none, some (.inr (.inl y1))] [] (LAY, σ)
set_option maxRecDepth 100000 in
set_option maxHeartbeats 4000000 in
theorem e_X2_endOfLine (d : Nat) (x1 : Int) (σ : zF) : zx (d + 1) 11 [.inl (some 14), .inr (.inl x1)] σ = (
P_X2_endOfLine_2 d x1 σ) := by
  unfold zx
  have hm := zexec_m zX2 zMT d
  refine (zexec_eq mt_11 _ rfl (LAY, σ) 0).trans ?_
  show zrunL zX2 (zexec zX2 zMT d) K_X2_endOfLine U_X2_endOfLine 0 [some (.inl (some 14)), some (.inr (.inl x1)), none] [] (LAY, σ) = _
  refine (zq_iln hm (pc' := 1) rfl rfl rfl rfl).trans ?_
  exact (zc_isn hm (ls' := [some (.inl (some 14)), some (.inr (.inl x1)), some (.inr (.inl x1))]) (pc' := 2) rfl rfl rfl rfl).trans rfl
set_option maxRecDepth 100000 in
set_option maxHeartbeats 4000000 in
theorem e_X2_endOfLine_2 (d : Nat) (y1 : Int) (σ : zF) : P_X2_endOfLine_2 d y1 σ = (
if y1 < (σ 14 1) then (
if 0 ≤ y1 ∧ y1 < 121 then (
if (σ 15 y1) = (-59) then (
zri y1 σ) else (
P_X2_endOfLine_2 d (zw (y1 + 1)) σ)) else (
none)) else (
zri y1 σ)) := by
  have hm := zexec_m zX2 zMT d
  show zrunL zX2 (zexec zX2 zMT d) K_X2_endOfLine U_X2_endOfLine 2 [some (.inl (some 14)), none, some (.inr (.inl y1))] [] (LAY, σ) = _
  refine (zq_iln hm (pc' := 3) rfl rfl rfl rfl).trans ?_
  refine (zq_aln hm (pc' := 4) rfl rfl rfl rfl).trans ?_
  refine (zq_gf hm (v := (σ 14 1)) (pc' := 7) rfl lay_14 rfl rfl rfl).trans ?_
  refine (zJ_n rfl).trans ?_
  refine (zq_ige hm (pc' := 10) rfl rfl).trans (zite ?_ ?_)
  · refine (zJ_n rfl).trans ?_
    refine (zq_aln hm (pc' := 11) rfl rfl rfl rfl).trans ?_
    refine (zq_gr hm (pc' := 14) rfl lay_14 rfl rfl).trans ?_
    refine (zJ_n rfl).trans ?_
    refine (zq_iln hm (pc' := 15) rfl rfl rfl rfl).trans ?_
    refine (zq_ia hm (v := (σ 15 y1)) (pc' := 16) rfl lay_15 rfl rfl).trans (zite ?_ rfl)
    refine (zJ_n rfl).trans ?_
    refine (zq_bi hm (pc' := 18) rfl rfl rfl rfl).trans ?_
    refine (zq_ieq hm (pc' := 21) rfl rfl).trans (zite ?_ ?_)
    · refine (zJ_n rfl).trans ?_
      refine (zq_iln hm (pc' := 28) rfl rfl rfl rfl).trans ?_
      exact zq_ri hm rfl rfl
    · refine (zJ_n rfl).trans ?_
      refine (zq_iinc hm (ls' := [some (.inl (some 14)), none, some (.inr (.inl (zw (y1 + 1))))]) (pc' := 24) rfl rfl rfl rfl rfl rfl).trans ?_
      exact (zc_goto hm rfl rfl).trans rfl
  · refine (zJ_n rfl).trans ?_
    refine (zq_iln hm (pc' := 28) rfl rfl rfl rfl).trans ?_
    exact zq_ri hm rfl rfl
noncomputable def P_X2_joined_211 (d : Nat) (σ : zF) : Option zR := zrunL zX2 (zexec zX2 zMT d) K_X2_joined U_X2_joined 211 [none, none, none] [] (LAY, σ)
set_option maxRecDepth 100000 in
set_option maxHeartbeats 4000000 in
theorem e_X2_joined (d : Nat) (x0 : Int) (x1 : Int) (x2 : Int) (σ : zF) : zx (d + 1) 12 [.inr (.inl x0), .inr (.inl x1), .inr (.inl x2)] σ = (
if x0 = 37 then (
if x2 = 0 then (
zri 0 σ) else (
if x2 = 0 then none else (
zri (zrem x1 x2) σ))) else (
if x0 = 38 then (
if x1 = 0 then (
zri 0 σ) else (
if x2 = 0 then (
zri 0 σ) else (
zri 1 σ))) else (
if x0 = 39 then (
if x1 = 0 then (
if x2 = 0 then (
zri 0 σ) else (
P_X2_joined_211 d σ)) else (
P_X2_joined_211 d σ)) else (
if x0 = 40 then (
if x1 = 0 then (
if x2 = 0 then (
zri 0 σ) else (
P_X2_joined_211 d σ)) else (
P_X2_joined_211 d σ)) else (
if x0 = 41 then (
if x1 = 0 then (
if x2 = 0 then (
zri 0 σ) else (
P_X2_joined_211 d σ)) else (
P_X2_joined_211 d σ)) else (
if x0 = 42 then (
zri (zw (x1 * x2)) σ) else (
if x0 = 43 then (
zri (zw (x1 + x2)) σ) else (
if x0 = 44 then (
if x1 = 0 then (
if x2 = 0 then (
zri 0 σ) else (
P_X2_joined_211 d σ)) else (
P_X2_joined_211 d σ)) else (
if x0 = 45 then (
zri (zw (x1 - x2)) σ) else (
if x0 = 46 then (
if x1 = 0 then (
if x2 = 0 then (
zri 0 σ) else (
P_X2_joined_211 d σ)) else (
P_X2_joined_211 d σ)) else (
if x0 = 47 then (
if x2 = 0 then (
zri 0 σ) else (
if x2 = 0 then none else (
zri (zdiv x1 x2) σ))) else (
if x0 = 48 then (
if x1 = 0 then (
if x2 = 0 then (
zri 0 σ) else (
P_X2_joined_211 d σ)) else (
P_X2_joined_211 d σ)) else (
if x0 = 49 then (
if x1 = 0 then (
if x2 = 0 then (
zri 0 σ) else (
P_X2_joined_211 d σ)) else (
P_X2_joined_211 d σ)) else (
if x0 = 50 then (
if x1 = 0 then (
if x2 = 0 then (
zri 0 σ) else (
P_X2_joined_211 d σ)) else (
P_X2_joined_211 d σ)) else (
if x0 = 51 then (
if x1 = 0 then (
if x2 = 0 then (
zri 0 σ) else (
P_X2_joined_211 d σ)) else (
P_X2_joined_211 d σ)) else (
if x0 = 52 then (
if x1 = 0 then (
if x2 = 0 then (
zri 0 σ) else (
P_X2_joined_211 d σ)) else (
P_X2_joined_211 d σ)) else (
if x0 = 53 then (
if x1 = 0 then (
if x2 = 0 then (
zri 0 σ) else (
P_X2_joined_211 d σ)) else (
P_X2_joined_211 d σ)) else (
if x0 = 54 then (
if x1 = 0 then (
if x2 = 0 then (
zri 0 σ) else (
P_X2_joined_211 d σ)) else (
P_X2_joined_211 d σ)) else (
if x0 = 55 then (
if x1 = 0 then (
if x2 = 0 then (
zri 0 σ) else (
P_X2_joined_211 d σ)) else (
P_X2_joined_211 d σ)) else (
if x0 = 56 then (
if x1 = 0 then (
if x2 = 0 then (
zri 0 σ) else (
P_X2_joined_211 d σ)) else (
P_X2_joined_211 d σ)) else (
if x0 = 57 then (
if x1 = 0 then (
if x2 = 0 then (
zri 0 σ) else (
P_X2_joined_211 d σ)) else (
P_X2_joined_211 d σ)) else (
if x0 = 58 then (
if x1 = 0 then (
if x2 = 0 then (
zri 0 σ) else (
P_X2_joined_211 d σ)) else (
P_X2_joined_211 d σ)) else (
if x0 = 59 then (
if x1 = 0 then (
if x2 = 0 then (
zri 0 σ) else (
P_X2_joined_211 d σ)) else (
P_X2_joined_211 d σ)) else (
if x0 = 60 then (
if x1 < x2 then (
zri 1 σ) else (
zri 0 σ)) else (
if x0 = 61 then (
if x1 = x2 then (
zri 1 σ) else (
zri 0 σ)) else (
if x0 = 62 then (
if x2 < x1 then (
zri 1 σ) else (
zri 0 σ)) else (
if x1 = 0 then (
if x2 = 0 then (
zri 0 σ) else (
P_X2_joined_211 d σ)) else (
P_X2_joined_211 d σ)))))))))))))))))))))))))))) := by
  unfold zx
  have hm := zexec_m zX2 zMT d
  refine (zexec_eq mt_12 _ rfl (LAY, σ) 0).trans ?_
  show zrunL zX2 (zexec zX2 zMT d) K_X2_joined U_X2_joined 0 [some (.inr (.inl x0)), some (.inr (.inl x1)), some (.inr (.inl x2))] [] (LAY, σ) = _
  refine (zq_iln hm (pc' := 1) rfl rfl rfl rfl).trans ?_
  refine (zq_ts hm rfl).trans (zsw_c (k' := fun _ => none) ?_ (zsw_c (k' := fun _ => none) ?_ (zsw_c (k' := fun _ => none) ?_ (zsw_c (k' := fun _ => none) ?_ (zsw_c (k' := fun _ => none) ?_ (zsw_c (k' := fun _ => none) ?_ (zsw_c (k' := fun _ => none) ?_ (zsw_c (k' := fun _ => none) ?_ (zsw_c (k' := fun _ => none) ?_ (zsw_c (k' := fun _ => none) ?_ (zsw_c (k' := fun _ => none) ?_ (zsw_c (k' := fun _ => none) ?_ (zsw_c (k' := fun _ => none) ?_ (zsw_c (k' := fun _ => none) ?_ (zsw_c (k' := fun _ => none) ?_ (zsw_c (k' := fun _ => none) ?_ (zsw_c (k' := fun _ => none) ?_ (zsw_c (k' := fun _ => none) ?_ (zsw_c (k' := fun _ => none) ?_ (zsw_c (k' := fun _ => none) ?_ (zsw_c (k' := fun _ => none) ?_ (zsw_c (k' := fun _ => none) ?_ (zsw_c (k' := fun _ => none) ?_ (zsw_c (k' := fun _ => none) ?_ (zsw_c (k' := fun _ => none) ?_ (zsw_c (k' := fun _ => none) ?_ (zsw_n ?_)))))))))))))))))))))))))))
  · refine (zJ_n rfl).trans ?_
    refine (zq_iln hm (pc' := 145) rfl rfl rfl rfl).trans ?_
    refine (zq_zne hm (pc' := 148) rfl rfl).trans (zite ?_ ?_)
    · refine (zJ_n rfl).trans ?_
      refine (zq_ic hm (pc' := 149) rfl rfl rfl rfl).trans ?_
      refine (zq_goto hm rfl rfl).trans ?_
      exact zq_ri hm rfl rfl
    · refine (zJ_n rfl).trans ?_
      refine (zq_iln hm (pc' := 153) rfl rfl rfl rfl).trans ?_
      refine (zq_iln hm (pc' := 154) rfl rfl rfl rfl).trans ?_
      refine (zq_irem hm (pc' := 155) rfl rfl).trans (zite rfl ?_)
      refine (zJ_n rfl).trans ?_
      exact zq_ri hm rfl rfl
  · refine (zJ_n rfl).trans ?_
    refine (zq_iln hm (pc' := 190) rfl rfl rfl rfl).trans ?_
    refine (zq_zeq hm (pc' := 193) rfl rfl).trans (zite ?_ ?_)
    · refine (zJ_n rfl).trans ?_
      refine (zq_ic hm (pc' := 202) rfl rfl rfl rfl).trans ?_
      exact zq_ri hm rfl rfl
    · refine (zJ_n rfl).trans ?_
      refine (zq_iln hm (pc' := 194) rfl rfl rfl rfl).trans ?_
      refine (zq_zeq hm (pc' := 197) rfl rfl).trans (zite ?_ ?_)
      · refine (zJ_n rfl).trans ?_
        refine (zq_ic hm (pc' := 202) rfl rfl rfl rfl).trans ?_
        exact zq_ri hm rfl rfl
      · refine (zJ_n rfl).trans ?_
        refine (zq_ic hm (pc' := 198) rfl rfl rfl rfl).trans ?_
        refine (zq_goto hm rfl rfl).trans ?_
        exact zq_ri hm rfl rfl
  · refine (zJ_n rfl).trans ?_
    refine (zq_iln hm (pc' := 204) rfl rfl rfl rfl).trans ?_
    refine (zq_zne hm (pc' := 207) rfl rfl).trans (zite ?_ ?_)
    · refine (zJ_n rfl).trans ?_
      refine (zq_iln hm (pc' := 208) rfl rfl rfl rfl).trans ?_
      refine (zq_zeq hm (pc' := 211) rfl rfl).trans (zite ?_ ?_)
      · refine (zJ_n rfl).trans ?_
        refine (zq_ic hm (pc' := 216) rfl rfl rfl rfl).trans ?_
        exact zq_ri hm rfl rfl
      · exact (zJ_c rfl).trans rfl
    · exact (zJ_c rfl).trans rfl
  · refine (zJ_n rfl).trans ?_
    refine (zq_iln hm (pc' := 204) rfl rfl rfl rfl).trans ?_
    refine (zq_zne hm (pc' := 207) rfl rfl).trans (zite ?_ ?_)
    · refine (zJ_n rfl).trans ?_
      refine (zq_iln hm (pc' := 208) rfl rfl rfl rfl).trans ?_
      refine (zq_zeq hm (pc' := 211) rfl rfl).trans (zite ?_ ?_)
      · refine (zJ_n rfl).trans ?_
        refine (zq_ic hm (pc' := 216) rfl rfl rfl rfl).trans ?_
        exact zq_ri hm rfl rfl
      · exact (zJ_c rfl).trans rfl
    · exact (zJ_c rfl).trans rfl
  · refine (zJ_n rfl).trans ?_
    refine (zq_iln hm (pc' := 204) rfl rfl rfl rfl).trans ?_
    refine (zq_zne hm (pc' := 207) rfl rfl).trans (zite ?_ ?_)
    · refine (zJ_n rfl).trans ?_
      refine (zq_iln hm (pc' := 208) rfl rfl rfl rfl).trans ?_
      refine (zq_zeq hm (pc' := 211) rfl rfl).trans (zite ?_ ?_)
      · refine (zJ_n rfl).trans ?_
        refine (zq_ic hm (pc' := 216) rfl rfl rfl rfl).trans ?_
        exact zq_ri hm rfl rfl
      · exact (zJ_c rfl).trans rfl
    · exact (zJ_c rfl).trans rfl
  · refine (zJ_n rfl).trans ?_
    refine (zq_iln hm (pc' := 129) rfl rfl rfl rfl).trans ?_
    refine (zq_iln hm (pc' := 130) rfl rfl rfl rfl).trans ?_
    refine (zq_imul hm (pc' := 131) rfl rfl rfl).trans ?_
    exact zq_ri hm rfl rfl
  · refine (zJ_n rfl).trans ?_
    refine (zq_iln hm (pc' := 121) rfl rfl rfl rfl).trans ?_
    refine (zq_iln hm (pc' := 122) rfl rfl rfl rfl).trans ?_
    refine (zq_iadd hm (pc' := 123) rfl rfl rfl).trans ?_
    exact zq_ri hm rfl rfl
  · refine (zJ_n rfl).trans ?_
    refine (zq_iln hm (pc' := 204) rfl rfl rfl rfl).trans ?_
    refine (zq_zne hm (pc' := 207) rfl rfl).trans (zite ?_ ?_)
    · refine (zJ_n rfl).trans ?_
      refine (zq_iln hm (pc' := 208) rfl rfl rfl rfl).trans ?_
      refine (zq_zeq hm (pc' := 211) rfl rfl).trans (zite ?_ ?_)
      · refine (zJ_n rfl).trans ?_
        refine (zq_ic hm (pc' := 216) rfl rfl rfl rfl).trans ?_
        exact zq_ri hm rfl rfl
      · exact (zJ_c rfl).trans rfl
    · exact (zJ_c rfl).trans rfl
  · refine (zJ_n rfl).trans ?_
    refine (zq_iln hm (pc' := 125) rfl rfl rfl rfl).trans ?_
    refine (zq_iln hm (pc' := 126) rfl rfl rfl rfl).trans ?_
    refine (zq_isub hm (pc' := 127) rfl rfl rfl).trans ?_
    exact zq_ri hm rfl rfl
  · refine (zJ_n rfl).trans ?_
    refine (zq_iln hm (pc' := 204) rfl rfl rfl rfl).trans ?_
    refine (zq_zne hm (pc' := 207) rfl rfl).trans (zite ?_ ?_)
    · refine (zJ_n rfl).trans ?_
      refine (zq_iln hm (pc' := 208) rfl rfl rfl rfl).trans ?_
      refine (zq_zeq hm (pc' := 211) rfl rfl).trans (zite ?_ ?_)
      · refine (zJ_n rfl).trans ?_
        refine (zq_ic hm (pc' := 216) rfl rfl rfl rfl).trans ?_
        exact zq_ri hm rfl rfl
      · exact (zJ_c rfl).trans rfl
    · exact (zJ_c rfl).trans rfl
  · refine (zJ_n rfl).trans ?_
    refine (zq_iln hm (pc' := 133) rfl rfl rfl rfl).trans ?_
    refine (zq_zne hm (pc' := 136) rfl rfl).trans (zite ?_ ?_)
    · refine (zJ_n rfl).trans ?_
      refine (zq_ic hm (pc' := 137) rfl rfl rfl rfl).trans ?_
      refine (zq_goto hm rfl rfl).trans ?_
      exact zq_ri hm rfl rfl
    · refine (zJ_n rfl).trans ?_
      refine (zq_iln hm (pc' := 141) rfl rfl rfl rfl).trans ?_
      refine (zq_iln hm (pc' := 142) rfl rfl rfl rfl).trans ?_
      refine (zq_idiv hm (pc' := 143) rfl rfl).trans (zite rfl ?_)
      refine (zJ_n rfl).trans ?_
      exact zq_ri hm rfl rfl
  · refine (zJ_n rfl).trans ?_
    refine (zq_iln hm (pc' := 204) rfl rfl rfl rfl).trans ?_
    refine (zq_zne hm (pc' := 207) rfl rfl).trans (zite ?_ ?_)
    · refine (zJ_n rfl).trans ?_
      refine (zq_iln hm (pc' := 208) rfl rfl rfl rfl).trans ?_
      refine (zq_zeq hm (pc' := 211) rfl rfl).trans (zite ?_ ?_)
      · refine (zJ_n rfl).trans ?_
        refine (zq_ic hm (pc' := 216) rfl rfl rfl rfl).trans ?_
        exact zq_ri hm rfl rfl
      · exact (zJ_c rfl).trans rfl
    · exact (zJ_c rfl).trans rfl
  · refine (zJ_n rfl).trans ?_
    refine (zq_iln hm (pc' := 204) rfl rfl rfl rfl).trans ?_
    refine (zq_zne hm (pc' := 207) rfl rfl).trans (zite ?_ ?_)
    · refine (zJ_n rfl).trans ?_
      refine (zq_iln hm (pc' := 208) rfl rfl rfl rfl).trans ?_
      refine (zq_zeq hm (pc' := 211) rfl rfl).trans (zite ?_ ?_)
      · refine (zJ_n rfl).trans ?_
        refine (zq_ic hm (pc' := 216) rfl rfl rfl rfl).trans ?_
        exact zq_ri hm rfl rfl
      · exact (zJ_c rfl).trans rfl
    · exact (zJ_c rfl).trans rfl
  · refine (zJ_n rfl).trans ?_
    refine (zq_iln hm (pc' := 204) rfl rfl rfl rfl).trans ?_
    refine (zq_zne hm (pc' := 207) rfl rfl).trans (zite ?_ ?_)
    · refine (zJ_n rfl).trans ?_
      refine (zq_iln hm (pc' := 208) rfl rfl rfl rfl).trans ?_
      refine (zq_zeq hm (pc' := 211) rfl rfl).trans (zite ?_ ?_)
      · refine (zJ_n rfl).trans ?_
        refine (zq_ic hm (pc' := 216) rfl rfl rfl rfl).trans ?_
        exact zq_ri hm rfl rfl
      · exact (zJ_c rfl).trans rfl
    · exact (zJ_c rfl).trans rfl
  · refine (zJ_n rfl).trans ?_
    refine (zq_iln hm (pc' := 204) rfl rfl rfl rfl).trans ?_
    refine (zq_zne hm (pc' := 207) rfl rfl).trans (zite ?_ ?_)
    · refine (zJ_n rfl).trans ?_
      refine (zq_iln hm (pc' := 208) rfl rfl rfl rfl).trans ?_
      refine (zq_zeq hm (pc' := 211) rfl rfl).trans (zite ?_ ?_)
      · refine (zJ_n rfl).trans ?_
        refine (zq_ic hm (pc' := 216) rfl rfl rfl rfl).trans ?_
        exact zq_ri hm rfl rfl
      · exact (zJ_c rfl).trans rfl
    · exact (zJ_c rfl).trans rfl
  · refine (zJ_n rfl).trans ?_
    refine (zq_iln hm (pc' := 204) rfl rfl rfl rfl).trans ?_
    refine (zq_zne hm (pc' := 207) rfl rfl).trans (zite ?_ ?_)
    · refine (zJ_n rfl).trans ?_
      refine (zq_iln hm (pc' := 208) rfl rfl rfl rfl).trans ?_
      refine (zq_zeq hm (pc' := 211) rfl rfl).trans (zite ?_ ?_)
      · refine (zJ_n rfl).trans ?_
        refine (zq_ic hm (pc' := 216) rfl rfl rfl rfl).trans ?_
        exact zq_ri hm rfl rfl
      · exact (zJ_c rfl).trans rfl
    · exact (zJ_c rfl).trans rfl
  · refine (zJ_n rfl).trans ?_
    refine (zq_iln hm (pc' := 204) rfl rfl rfl rfl).trans ?_
    refine (zq_zne hm (pc' := 207) rfl rfl).trans (zite ?_ ?_)
    · refine (zJ_n rfl).trans ?_
      refine (zq_iln hm (pc' := 208) rfl rfl rfl rfl).trans ?_
      refine (zq_zeq hm (pc' := 211) rfl rfl).trans (zite ?_ ?_)
      · refine (zJ_n rfl).trans ?_
        refine (zq_ic hm (pc' := 216) rfl rfl rfl rfl).trans ?_
        exact zq_ri hm rfl rfl
      · exact (zJ_c rfl).trans rfl
    · exact (zJ_c rfl).trans rfl
  · refine (zJ_n rfl).trans ?_
    refine (zq_iln hm (pc' := 204) rfl rfl rfl rfl).trans ?_
    refine (zq_zne hm (pc' := 207) rfl rfl).trans (zite ?_ ?_)
    · refine (zJ_n rfl).trans ?_
      refine (zq_iln hm (pc' := 208) rfl rfl rfl rfl).trans ?_
      refine (zq_zeq hm (pc' := 211) rfl rfl).trans (zite ?_ ?_)
      · refine (zJ_n rfl).trans ?_
        refine (zq_ic hm (pc' := 216) rfl rfl rfl rfl).trans ?_
        exact zq_ri hm rfl rfl
      · exact (zJ_c rfl).trans rfl
    · exact (zJ_c rfl).trans rfl
  · refine (zJ_n rfl).trans ?_
    refine (zq_iln hm (pc' := 204) rfl rfl rfl rfl).trans ?_
    refine (zq_zne hm (pc' := 207) rfl rfl).trans (zite ?_ ?_)
    · refine (zJ_n rfl).trans ?_
      refine (zq_iln hm (pc' := 208) rfl rfl rfl rfl).trans ?_
      refine (zq_zeq hm (pc' := 211) rfl rfl).trans (zite ?_ ?_)
      · refine (zJ_n rfl).trans ?_
        refine (zq_ic hm (pc' := 216) rfl rfl rfl rfl).trans ?_
        exact zq_ri hm rfl rfl
      · exact (zJ_c rfl).trans rfl
    · exact (zJ_c rfl).trans rfl
  · refine (zJ_n rfl).trans ?_
    refine (zq_iln hm (pc' := 204) rfl rfl rfl rfl).trans ?_
    refine (zq_zne hm (pc' := 207) rfl rfl).trans (zite ?_ ?_)
    · refine (zJ_n rfl).trans ?_
      refine (zq_iln hm (pc' := 208) rfl rfl rfl rfl).trans ?_
      refine (zq_zeq hm (pc' := 211) rfl rfl).trans (zite ?_ ?_)
      · refine (zJ_n rfl).trans ?_
        refine (zq_ic hm (pc' := 216) rfl rfl rfl rfl).trans ?_
        exact zq_ri hm rfl rfl
      · exact (zJ_c rfl).trans rfl
    · exact (zJ_c rfl).trans rfl
  · refine (zJ_n rfl).trans ?_
    refine (zq_iln hm (pc' := 204) rfl rfl rfl rfl).trans ?_
    refine (zq_zne hm (pc' := 207) rfl rfl).trans (zite ?_ ?_)
    · refine (zJ_n rfl).trans ?_
      refine (zq_iln hm (pc' := 208) rfl rfl rfl rfl).trans ?_
      refine (zq_zeq hm (pc' := 211) rfl rfl).trans (zite ?_ ?_)
      · refine (zJ_n rfl).trans ?_
        refine (zq_ic hm (pc' := 216) rfl rfl rfl rfl).trans ?_
        exact zq_ri hm rfl rfl
      · exact (zJ_c rfl).trans rfl
    · exact (zJ_c rfl).trans rfl
  · refine (zJ_n rfl).trans ?_
    refine (zq_iln hm (pc' := 204) rfl rfl rfl rfl).trans ?_
    refine (zq_zne hm (pc' := 207) rfl rfl).trans (zite ?_ ?_)
    · refine (zJ_n rfl).trans ?_
      refine (zq_iln hm (pc' := 208) rfl rfl rfl rfl).trans ?_
      refine (zq_zeq hm (pc' := 211) rfl rfl).trans (zite ?_ ?_)
      · refine (zJ_n rfl).trans ?_
        refine (zq_ic hm (pc' := 216) rfl rfl rfl rfl).trans ?_
        exact zq_ri hm rfl rfl
      · exact (zJ_c rfl).trans rfl
    · exact (zJ_c rfl).trans rfl
  · refine (zJ_n rfl).trans ?_
    refine (zq_iln hm (pc' := 204) rfl rfl rfl rfl).trans ?_
    refine (zq_zne hm (pc' := 207) rfl rfl).trans (zite ?_ ?_)
    · refine (zJ_n rfl).trans ?_
      refine (zq_iln hm (pc' := 208) rfl rfl rfl rfl).trans ?_
      refine (zq_zeq hm (pc' := 211) rfl rfl).trans (zite ?_ ?_)
      · refine (zJ_n rfl).trans ?_
        refine (zq_ic hm (pc' := 216) rfl rfl rfl rfl).trans ?_
        exact zq_ri hm rfl rfl
      · exact (zJ_c rfl).trans rfl
    · exact (zJ_c rfl).trans rfl
  · refine (zJ_n rfl).trans ?_
    refine (zq_iln hm (pc' := 157) rfl rfl rfl rfl).trans ?_
    refine (zq_iln hm (pc' := 158) rfl rfl rfl rfl).trans ?_
    refine (zq_ige hm (pc' := 161) rfl rfl).trans (zite ?_ ?_)
    · refine (zJ_n rfl).trans ?_
      refine (zq_ic hm (pc' := 162) rfl rfl rfl rfl).trans ?_
      refine (zq_goto hm rfl rfl).trans ?_
      exact zq_ri hm rfl rfl
    · refine (zJ_n rfl).trans ?_
      refine (zq_ic hm (pc' := 166) rfl rfl rfl rfl).trans ?_
      exact zq_ri hm rfl rfl
  · refine (zJ_n rfl).trans ?_
    refine (zq_iln hm (pc' := 168) rfl rfl rfl rfl).trans ?_
    refine (zq_iln hm (pc' := 169) rfl rfl rfl rfl).trans ?_
    refine (zq_ine hm (pc' := 172) rfl rfl).trans (zite ?_ ?_)
    · refine (zJ_n rfl).trans ?_
      refine (zq_ic hm (pc' := 173) rfl rfl rfl rfl).trans ?_
      refine (zq_goto hm rfl rfl).trans ?_
      exact zq_ri hm rfl rfl
    · refine (zJ_n rfl).trans ?_
      refine (zq_ic hm (pc' := 177) rfl rfl rfl rfl).trans ?_
      exact zq_ri hm rfl rfl
  · refine (zJ_n rfl).trans ?_
    refine (zq_iln hm (pc' := 179) rfl rfl rfl rfl).trans ?_
    refine (zq_iln hm (pc' := 180) rfl rfl rfl rfl).trans ?_
    refine (zq_ile hm (pc' := 183) rfl rfl).trans (zite ?_ ?_)
    · refine (zJ_n rfl).trans ?_
      refine (zq_ic hm (pc' := 184) rfl rfl rfl rfl).trans ?_
      refine (zq_goto hm rfl rfl).trans ?_
      exact zq_ri hm rfl rfl
    · refine (zJ_n rfl).trans ?_
      refine (zq_ic hm (pc' := 188) rfl rfl rfl rfl).trans ?_
      exact zq_ri hm rfl rfl
  · refine (zJ_n rfl).trans ?_
    refine (zq_iln hm (pc' := 204) rfl rfl rfl rfl).trans ?_
    refine (zq_zne hm (pc' := 207) rfl rfl).trans (zite ?_ ?_)
    · refine (zJ_n rfl).trans ?_
      refine (zq_iln hm (pc' := 208) rfl rfl rfl rfl).trans ?_
      refine (zq_zeq hm (pc' := 211) rfl rfl).trans (zite ?_ ?_)
      · refine (zJ_n rfl).trans ?_
        refine (zq_ic hm (pc' := 216) rfl rfl rfl rfl).trans ?_
        exact zq_ri hm rfl rfl
      · exact (zJ_c rfl).trans rfl
    · exact (zJ_c rfl).trans rfl
set_option maxRecDepth 100000 in
set_option maxHeartbeats 4000000 in
theorem e_X2_joined_211 (d : Nat) (σ : zF) : P_X2_joined_211 d σ = (
zri 1 σ) := by
  have hm := zexec_m zX2 zMT d
  show zrunL zX2 (zexec zX2 zMT d) K_X2_joined U_X2_joined 211 [none, none, none] [] (LAY, σ) = _
  refine (zq_ic hm (pc' := 212) rfl rfl rfl rfl).trans ?_
  refine (zq_goto hm rfl rfl).trans ?_
  exact zq_ri hm rfl rfl
set_option maxRecDepth 100000 in
set_option maxHeartbeats 4000000 in
theorem e_X2_push (d : Nat) (x1 : Int) (σ : zF) : zx (d + 1) 13 [.inl (some 14), .inr (.inl x1)] σ = (
if (σ 14 3) < 121 then (
if 0 ≤ (σ 14 3) ∧ (σ 14 3) < 121 then (
zrv (zset (zset σ 16 (σ 14 3) x1) 14 3 (zw ((σ 14 3) + 1)))) else (
none)) else (
zrv σ)) := by
  unfold zx
  have hm := zexec_m zX2 zMT d
  refine (zexec_eq mt_13 _ rfl (LAY, σ) 0).trans ?_
  show zrunL zX2 (zexec zX2 zMT d) K_X2_push U_X2_push 0 [some (.inl (some 14)), some (.inr (.inl x1))] [] (LAY, σ) = _
  refine (zq_aln hm (pc' := 1) rfl rfl rfl rfl).trans ?_
  refine (zq_gf hm (v := (σ 14 3)) (pc' := 4) rfl lay_14 rfl rfl rfl).trans ?_
  refine (zJ_n rfl).trans ?_
  refine (zq_aln hm (pc' := 5) rfl rfl rfl rfl).trans ?_
  refine (zq_gr hm (pc' := 8) rfl lay_14 rfl rfl).trans ?_
  refine (zJ_n rfl).trans ?_
  refine (zq_len hm (v := 121) (pc' := 9) rfl lay_16 rfl rfl).trans ?_
  refine (zJ_n rfl).trans ?_
  refine (zq_ige hm (pc' := 12) rfl rfl).trans (zite ?_ ?_)
  · refine (zJ_n rfl).trans ?_
    refine (zq_aln hm (pc' := 13) rfl rfl rfl rfl).trans ?_
    refine (zq_gr hm (pc' := 16) rfl lay_14 rfl rfl).trans ?_
    refine (zJ_n rfl).trans ?_
    refine (zq_aln hm (pc' := 17) rfl rfl rfl rfl).trans ?_
    refine (zq_gf hm (v := (σ 14 3)) (pc' := 20) rfl lay_14 rfl rfl rfl).trans ?_
    refine (zJ_n rfl).trans ?_
    refine (zq_iln hm (pc' := 21) rfl rfl rfl rfl).trans ?_
    refine (zq_ist hm (pc' := 22) rfl lay_16 rfl).trans (zite ?_ rfl)
    refine (zJ_n rfl).trans ?_
    refine (zq_aln hm (pc' := 23) rfl rfl rfl rfl).trans ?_
    refine (zq_dup hm (pc' := 24) rfl rfl rfl rfl).trans ?_
    refine (zq_gf hm (v := (σ 14 3)) (pc' := 27) rfl lay_14 rfl (zsn rfl) rfl).trans ?_
    refine (zJ_n rfl).trans ?_
    refine (zq_ic hm (pc' := 28) rfl rfl rfl rfl).trans ?_
    refine (zq_iadd hm (pc' := 29) rfl rfl rfl).trans ?_
    refine (zq_pf hm (pc' := 32) rfl lay_14 rfl rfl rfl).trans ?_
    refine (zJ_n rfl).trans ?_
    exact zq_rv hm rfl
  · refine (zJ_n rfl).trans ?_
    exact zq_rv hm rfl
set_option maxRecDepth 100000 in
set_option maxHeartbeats 4000000 in
theorem e_X2_pop (d : Nat) (σ : zF) : zx (d + 1) 14 [.inl (some 14)] σ = (
if (0 : Int) < (σ 14 3) then (
if 0 ≤ zw ((σ 14 3) - 1) ∧ zw ((σ 14 3) - 1) < 121 then (
zri (σ 16 (zw ((σ 14 3) - 1))) (zset σ 14 3 (zw ((σ 14 3) - 1)))) else (
none)) else (
zri 0 σ)) := by
  unfold zx
  have hm := zexec_m zX2 zMT d
  refine (zexec_eq mt_14 _ rfl (LAY, σ) 0).trans ?_
  show zrunL zX2 (zexec zX2 zMT d) K_X2_pop U_X2_pop 0 [some (.inl (some 14))] [] (LAY, σ) = _
  refine (zq_aln hm (pc' := 1) rfl rfl rfl rfl).trans ?_
  refine (zq_gf hm (v := (σ 14 3)) (pc' := 4) rfl lay_14 rfl rfl rfl).trans ?_
  refine (zJ_n rfl).trans ?_
  refine (zq_zgt hm (pc' := 7) rfl rfl).trans (zite ?_ ?_)
  · refine (zJ_n rfl).trans ?_
    refine (zq_aln hm (pc' := 10) rfl rfl rfl rfl).trans ?_
    refine (zq_dup hm (pc' := 11) rfl rfl rfl rfl).trans ?_
    refine (zq_gf hm (v := (σ 14 3)) (pc' := 14) rfl lay_14 rfl rfl rfl).trans ?_
    refine (zJ_n rfl).trans ?_
    refine (zq_ic hm (pc' := 15) rfl rfl rfl rfl).trans ?_
    refine (zq_isub hm (pc' := 16) rfl rfl rfl).trans ?_
    refine (zq_pf hm (pc' := 19) rfl lay_14 rfl rfl rfl).trans ?_
    refine (zJ_n rfl).trans ?_
    refine (zq_aln hm (pc' := 20) rfl rfl rfl rfl).trans ?_
    refine (zq_gr hm (pc' := 23) rfl lay_14 rfl rfl).trans ?_
    refine (zJ_n rfl).trans ?_
    refine (zq_aln hm (pc' := 24) rfl rfl rfl rfl).trans ?_
    refine (zq_gf hm (v := zw ((σ 14 3) - 1)) (pc' := 27) rfl lay_14 rfl zsh rfl).trans ?_
    refine (zJ_n rfl).trans ?_
    refine (zq_ia hm (v := (σ 16 (zw ((σ 14 3) - 1)))) (pc' := 28) rfl lay_16 (zsn rfl) rfl).trans (zite ?_ rfl)
    refine (zJ_n rfl).trans ?_
    exact zq_ri hm rfl rfl
  · refine (zJ_n rfl).trans ?_
    refine (zq_ic hm (pc' := 8) rfl rfl rfl rfl).trans ?_
    exact zq_ri hm rfl rfl
set_option maxRecDepth 100000 in
set_option maxHeartbeats 4000000 in
theorem e_X3_isRoad (d : Nat) (x1 : Int) (σ : zF) : zx (d + 1) 16 [.inl (some 1), .inr (.inl x1)] σ = (
if x1 < 0 then (
zri 0 σ) else (
if x1 < (σ 1 0) then (
zri 1 σ) else (
zri 0 σ))) := by
  unfold zx
  have hm := zexec_m zX2 zMT d
  refine (zexec_eq mt_16 _ rfl (LAY, σ) 0).trans ?_
  show zrunL zX2 (zexec zX2 zMT d) K_X3_isRoad U_X3_isRoad 0 [some (.inl (some 1)), some (.inr (.inl x1))] [] (LAY, σ) = _
  refine (zq_iln hm (pc' := 1) rfl rfl rfl rfl).trans ?_
  refine (zq_zlt hm (pc' := 4) rfl rfl).trans (zite ?_ ?_)
  · refine (zJ_n rfl).trans ?_
    refine (zq_ic hm (pc' := 17) rfl rfl rfl rfl).trans ?_
    exact (zq_rb hm rfl rfl).trans (zif1 (by decide))
  · refine (zJ_n rfl).trans ?_
    refine (zq_iln hm (pc' := 5) rfl rfl rfl rfl).trans ?_
    refine (zq_aln hm (pc' := 6) rfl rfl rfl rfl).trans ?_
    refine (zq_gf hm (v := (σ 1 0)) (pc' := 9) rfl lay_1 rfl rfl rfl).trans ?_
    refine (zJ_n rfl).trans ?_
    refine (zq_ige hm (pc' := 12) rfl rfl).trans (zite ?_ ?_)
    · refine (zJ_n rfl).trans ?_
      refine (zq_ic hm (pc' := 13) rfl rfl rfl rfl).trans ?_
      refine (zq_goto hm rfl rfl).trans ?_
      exact (zq_rb hm rfl rfl).trans (zif1 (by decide))
    · refine (zJ_n rfl).trans ?_
      refine (zq_ic hm (pc' := 17) rfl rfl rfl rfl).trans ?_
      exact (zq_rb hm rfl rfl).trans (zif1 (by decide))
set_option maxRecDepth 100000 in
set_option maxHeartbeats 4000000 in
theorem e_X3_isTraveller (d : Nat) (x1 : Int) (σ : zF) : zx (d + 1) 17 [.inl (some 1), .inr (.inl x1)] σ = (
if x1 < 0 then (
zri 0 σ) else (
if x1 < (σ 1 1) then (
zri 1 σ) else (
zri 0 σ))) := by
  unfold zx
  have hm := zexec_m zX2 zMT d
  refine (zexec_eq mt_17 _ rfl (LAY, σ) 0).trans ?_
  show zrunL zX2 (zexec zX2 zMT d) K_X3_isTraveller U_X3_isTraveller 0 [some (.inl (some 1)), some (.inr (.inl x1))] [] (LAY, σ) = _
  refine (zq_iln hm (pc' := 1) rfl rfl rfl rfl).trans ?_
  refine (zq_zlt hm (pc' := 4) rfl rfl).trans (zite ?_ ?_)
  · refine (zJ_n rfl).trans ?_
    refine (zq_ic hm (pc' := 17) rfl rfl rfl rfl).trans ?_
    exact (zq_rb hm rfl rfl).trans (zif1 (by decide))
  · refine (zJ_n rfl).trans ?_
    refine (zq_iln hm (pc' := 5) rfl rfl rfl rfl).trans ?_
    refine (zq_aln hm (pc' := 6) rfl rfl rfl rfl).trans ?_
    refine (zq_gf hm (v := (σ 1 1)) (pc' := 9) rfl lay_1 rfl rfl rfl).trans ?_
    refine (zJ_n rfl).trans ?_
    refine (zq_ige hm (pc' := 12) rfl rfl).trans (zite ?_ ?_)
    · refine (zJ_n rfl).trans ?_
      refine (zq_ic hm (pc' := 13) rfl rfl rfl rfl).trans ?_
      refine (zq_goto hm rfl rfl).trans ?_
      exact (zq_rb hm rfl rfl).trans (zif1 (by decide))
    · refine (zJ_n rfl).trans ?_
      refine (zq_ic hm (pc' := 17) rfl rfl rfl rfl).trans ?_
      exact (zq_rb hm rfl rfl).trans (zif1 (by decide))
set_option maxRecDepth 100000 in
set_option maxHeartbeats 4000000 in
theorem e_X3_addRoad (d : Nat) (x1 : Int) (x2 : Int) (x3 : Int) (σ : zF) : zx (d + 1) 18 [.inl (some 1), .inr (.inl x1), .inr (.inl x2), .inr (.inl x3)] σ = (
if (σ 1 0) < 12 then (
if 0 ≤ (σ 1 0) ∧ (σ 1 0) < 12 then (
if 0 ≤ (σ 1 0) ∧ (σ 1 0) < 12 then (
if 0 ≤ (σ 1 0) ∧ (σ 1 0) < 12 then (
if 0 ≤ (σ 1 0) ∧ (σ 1 0) < 12 then (
zri (zw ((zw ((σ 1 0) + 1)) - 1)) (zset (zset (zset (zset (zset σ 2 (σ 1 0) x1) 3 (σ 1 0) x2) 4 (σ 1 0) x3) 6 (σ 1 0) (-1)) 1 0 (zw ((σ 1 0) + 1)))) else (
none)) else (
none)) else (
none)) else (
none)) else (
zri (-3) σ)) := by
  unfold zx
  have hm := zexec_m zX2 zMT d
  refine (zexec_eq mt_18 _ rfl (LAY, σ) 0).trans ?_
  show zrunL zX2 (zexec zX2 zMT d) K_X3_addRoad U_X3_addRoad 0 [some (.inl (some 1)), some (.inr (.inl x1)), some (.inr (.inl x2)), some (.inr (.inl x3))] [] (LAY, σ) = _
  refine (zq_aln hm (pc' := 1) rfl rfl rfl rfl).trans ?_
  refine (zq_gf hm (v := (σ 1 0)) (pc' := 4) rfl lay_1 rfl rfl rfl).trans ?_
  refine (zJ_n rfl).trans ?_
  refine (zq_bi hm (pc' := 6) rfl rfl rfl rfl).trans ?_
  refine (zq_ilt hm (pc' := 9) rfl rfl).trans (zite ?_ ?_)
  · refine (zJ_n rfl).trans ?_
    refine (zq_aln hm (pc' := 13) rfl rfl rfl rfl).trans ?_
    refine (zq_gr hm (pc' := 16) rfl lay_1 rfl rfl).trans ?_
    refine (zJ_n rfl).trans ?_
    refine (zq_aln hm (pc' := 17) rfl rfl rfl rfl).trans ?_
    refine (zq_gf hm (v := (σ 1 0)) (pc' := 20) rfl lay_1 rfl rfl rfl).trans ?_
    refine (zJ_n rfl).trans ?_
    refine (zq_iln hm (pc' := 21) rfl rfl rfl rfl).trans ?_
    refine (zq_ist hm (pc' := 22) rfl lay_2 rfl).trans (zite ?_ rfl)
    refine (zJ_n rfl).trans ?_
    refine (zq_aln hm (pc' := 23) rfl rfl rfl rfl).trans ?_
    refine (zq_gr hm (pc' := 26) rfl lay_1 rfl rfl).trans ?_
    refine (zJ_n rfl).trans ?_
    refine (zq_aln hm (pc' := 27) rfl rfl rfl rfl).trans ?_
    refine (zq_gf hm (v := (σ 1 0)) (pc' := 30) rfl lay_1 rfl (zsn rfl) rfl).trans ?_
    refine (zJ_n rfl).trans ?_
    refine (zq_iln hm (pc' := 31) rfl rfl rfl rfl).trans ?_
    refine (zq_ist hm (pc' := 32) rfl lay_3 rfl).trans (zite ?_ rfl)
    refine (zJ_n rfl).trans ?_
    refine (zq_aln hm (pc' := 33) rfl rfl rfl rfl).trans ?_
    refine (zq_gr hm (pc' := 36) rfl lay_1 rfl rfl).trans ?_
    refine (zJ_n rfl).trans ?_
    refine (zq_aln hm (pc' := 37) rfl rfl rfl rfl).trans ?_
    refine (zq_gf hm (v := (σ 1 0)) (pc' := 40) rfl lay_1 rfl ((zsn rfl).trans (zsn rfl)) rfl).trans ?_
    refine (zJ_n rfl).trans ?_
    refine (zq_iln hm (pc' := 41) rfl rfl rfl rfl).trans ?_
    refine (zq_ist hm (pc' := 42) rfl lay_4 rfl).trans (zite ?_ rfl)
    refine (zJ_n rfl).trans ?_
    refine (zq_aln hm (pc' := 43) rfl rfl rfl rfl).trans ?_
    refine (zq_gr hm (pc' := 46) rfl lay_1 rfl rfl).trans ?_
    refine (zJ_n rfl).trans ?_
    refine (zq_aln hm (pc' := 47) rfl rfl rfl rfl).trans ?_
    refine (zq_gf hm (v := (σ 1 0)) (pc' := 50) rfl lay_1 rfl ((zsn rfl).trans ((zsn rfl).trans (zsn rfl))) rfl).trans ?_
    refine (zJ_n rfl).trans ?_
    refine (zq_ic hm (pc' := 51) rfl rfl rfl rfl).trans ?_
    refine (zq_ist hm (pc' := 52) rfl lay_6 rfl).trans (zite ?_ rfl)
    refine (zJ_n rfl).trans ?_
    refine (zq_aln hm (pc' := 53) rfl rfl rfl rfl).trans ?_
    refine (zq_dup hm (pc' := 54) rfl rfl rfl rfl).trans ?_
    refine (zq_gf hm (v := (σ 1 0)) (pc' := 57) rfl lay_1 rfl ((zsn rfl).trans ((zsn rfl).trans ((zsn rfl).trans (zsn rfl)))) rfl).trans ?_
    refine (zJ_n rfl).trans ?_
    refine (zq_ic hm (pc' := 58) rfl rfl rfl rfl).trans ?_
    refine (zq_iadd hm (pc' := 59) rfl rfl rfl).trans ?_
    refine (zq_pf hm (pc' := 62) rfl lay_1 rfl rfl rfl).trans ?_
    refine (zJ_n rfl).trans ?_
    refine (zq_aln hm (pc' := 63) rfl rfl rfl rfl).trans ?_
    refine (zq_gf hm (v := zw ((σ 1 0) + 1)) (pc' := 66) rfl lay_1 rfl zsh rfl).trans ?_
    refine (zJ_n rfl).trans ?_
    refine (zq_ic hm (pc' := 67) rfl rfl rfl rfl).trans ?_
    refine (zq_isub hm (pc' := 68) rfl rfl rfl).trans ?_
    exact zq_ri hm rfl rfl
  · refine (zJ_n rfl).trans ?_
    refine (zq_bi hm (pc' := 11) rfl rfl rfl rfl).trans ?_
    exact zq_ri hm rfl rfl
set_option maxRecDepth 100000 in
set_option maxHeartbeats 4000000 in
theorem e_X3_addTraveller (d : Nat) (x1 : Int) (σ : zF) : zx (d + 1) 19 [.inl (some 1), .inr (.inl x1)] σ = (
if (σ 1 1) < 4 then (
if 0 ≤ (σ 1 1) ∧ (σ 1 1) < 4 then (
if 0 ≤ (σ 1 1) ∧ (σ 1 1) < 4 then (
zri (zw ((zw ((σ 1 1) + 1)) - 1)) (zset (zset (zset σ 8 (σ 1 1) x1) 9 (σ 1 1) 6) 1 1 (zw ((σ 1 1) + 1)))) else (
none)) else (
none)) else (
zri (-3) σ)) := by
  unfold zx
  have hm := zexec_m zX2 zMT d
  refine (zexec_eq mt_19 _ rfl (LAY, σ) 0).trans ?_
  show zrunL zX2 (zexec zX2 zMT d) K_X3_addTraveller U_X3_addTraveller 0 [some (.inl (some 1)), some (.inr (.inl x1))] [] (LAY, σ) = _
  refine (zq_aln hm (pc' := 1) rfl rfl rfl rfl).trans ?_
  refine (zq_gf hm (v := (σ 1 1)) (pc' := 4) rfl lay_1 rfl rfl rfl).trans ?_
  refine (zJ_n rfl).trans ?_
  refine (zq_ic hm (pc' := 5) rfl rfl rfl rfl).trans ?_
  refine (zq_ilt hm (pc' := 8) rfl rfl).trans (zite ?_ ?_)
  · refine (zJ_n rfl).trans ?_
    refine (zq_aln hm (pc' := 12) rfl rfl rfl rfl).trans ?_
    refine (zq_gr hm (pc' := 15) rfl lay_1 rfl rfl).trans ?_
    refine (zJ_n rfl).trans ?_
    refine (zq_aln hm (pc' := 16) rfl rfl rfl rfl).trans ?_
    refine (zq_gf hm (v := (σ 1 1)) (pc' := 19) rfl lay_1 rfl rfl rfl).trans ?_
    refine (zJ_n rfl).trans ?_
    refine (zq_iln hm (pc' := 20) rfl rfl rfl rfl).trans ?_
    refine (zq_ist hm (pc' := 21) rfl lay_8 rfl).trans (zite ?_ rfl)
    refine (zJ_n rfl).trans ?_
    refine (zq_aln hm (pc' := 22) rfl rfl rfl rfl).trans ?_
    refine (zq_gr hm (pc' := 25) rfl lay_1 rfl rfl).trans ?_
    refine (zJ_n rfl).trans ?_
    refine (zq_aln hm (pc' := 26) rfl rfl rfl rfl).trans ?_
    refine (zq_gf hm (v := (σ 1 1)) (pc' := 29) rfl lay_1 rfl (zsn rfl) rfl).trans ?_
    refine (zJ_n rfl).trans ?_
    refine (zq_bi hm (pc' := 31) rfl rfl rfl rfl).trans ?_
    refine (zq_ist hm (pc' := 32) rfl lay_9 rfl).trans (zite ?_ rfl)
    refine (zJ_n rfl).trans ?_
    refine (zq_aln hm (pc' := 33) rfl rfl rfl rfl).trans ?_
    refine (zq_dup hm (pc' := 34) rfl rfl rfl rfl).trans ?_
    refine (zq_gf hm (v := (σ 1 1)) (pc' := 37) rfl lay_1 rfl ((zsn rfl).trans (zsn rfl)) rfl).trans ?_
    refine (zJ_n rfl).trans ?_
    refine (zq_ic hm (pc' := 38) rfl rfl rfl rfl).trans ?_
    refine (zq_iadd hm (pc' := 39) rfl rfl rfl).trans ?_
    refine (zq_pf hm (pc' := 42) rfl lay_1 rfl rfl rfl).trans ?_
    refine (zJ_n rfl).trans ?_
    refine (zq_aln hm (pc' := 43) rfl rfl rfl rfl).trans ?_
    refine (zq_gf hm (v := zw ((σ 1 1) + 1)) (pc' := 46) rfl lay_1 rfl zsh rfl).trans ?_
    refine (zJ_n rfl).trans ?_
    refine (zq_ic hm (pc' := 47) rfl rfl rfl rfl).trans ?_
    refine (zq_isub hm (pc' := 48) rfl rfl rfl).trans ?_
    exact zq_ri hm rfl rfl
  · refine (zJ_n rfl).trans ?_
    refine (zq_bi hm (pc' := 10) rfl rfl rfl rfl).trans ?_
    exact zq_ri hm rfl rfl
set_option maxRecDepth 100000 in
set_option maxHeartbeats 4000000 in
theorem e_X3_has (d : Nat) (x1 : Int) (x2 : Int) (σ : zF) : zx (d + 1) 20 [.inl (some 1), .inr (.inl x1), .inr (.inl x2)] σ = (
if x2 < 0 then (
zri 0 σ) else (
if (7 : Int) < x2 then (
zri 0 σ) else (
if x2 = 4 then (
zCI LAY (zx d 17 [.inl (some 1), .inr (.inl x1)] σ) fun r2 s1 =>
if r2 = 0 ∨ r2 = 1 then (
zri r2 s1) else (
none)) else (
if x2 = 5 then (
zCI LAY (zx d 17 [.inl (some 1), .inr (.inl x1)] σ) fun r6 s5 =>
if r6 = 0 ∨ r6 = 1 then (
zri r6 s5) else (
none)) else (
zCI LAY (zx d 16 [.inl (some 1), .inr (.inl x1)] σ) fun r4 s3 =>
if r4 = 0 ∨ r4 = 1 then (
zri r4 s3) else (
none)))))) := by
  unfold zx
  have hm := zexec_m zX2 zMT d
  refine (zexec_eq mt_20 _ rfl (LAY, σ) 0).trans ?_
  show zrunL zX2 (zexec zX2 zMT d) K_X3_has U_X3_has 0 [some (.inl (some 1)), some (.inr (.inl x1)), some (.inr (.inl x2))] [] (LAY, σ) = _
  refine (zq_iln hm (pc' := 1) rfl rfl rfl rfl).trans ?_
  refine (zq_zlt hm (pc' := 4) rfl rfl).trans (zite ?_ ?_)
  · refine (zJ_n rfl).trans ?_
    refine (zq_ic hm (pc' := 11) rfl rfl rfl rfl).trans ?_
    exact (zq_rb hm rfl rfl).trans (zif1 (by decide))
  · refine (zJ_n rfl).trans ?_
    refine (zq_iln hm (pc' := 5) rfl rfl rfl rfl).trans ?_
    refine (zq_bi hm (pc' := 7) rfl rfl rfl rfl).trans ?_
    refine (zq_ile hm (pc' := 10) rfl rfl).trans (zite ?_ ?_)
    · refine (zJ_n rfl).trans ?_
      refine (zq_ic hm (pc' := 11) rfl rfl rfl rfl).trans ?_
      exact (zq_rb hm rfl rfl).trans (zif1 (by decide))
    · refine (zJ_n rfl).trans ?_
      refine (zq_iln hm (pc' := 13) rfl rfl rfl rfl).trans ?_
      refine (zq_ic hm (pc' := 14) rfl rfl rfl rfl).trans ?_
      refine (zq_ieq hm (pc' := 17) rfl rfl).trans (zite ?_ ?_)
      · refine (zJ_n rfl).trans ?_
        refine (zq_aln hm (pc' := 23) rfl rfl rfl rfl).trans ?_
        refine (zq_iln hm (pc' := 24) rfl rfl rfl rfl).trans ?_
        refine (zq_v1 hm (pc' := 27) rfl rfl rfl (cls_1_3) rfl rfl).trans (zCI_c rfl (fun r2 s1 => ?_))
        refine (zJ_n rfl).trans ?_
        refine (zq_goto hm rfl rfl).trans ?_
        exact zq_rb hm rfl rfl
      · refine (zJ_n rfl).trans ?_
        refine (zq_iln hm (pc' := 18) rfl rfl rfl rfl).trans ?_
        refine (zq_ic hm (pc' := 19) rfl rfl rfl rfl).trans ?_
        refine (zq_ine hm (pc' := 22) rfl rfl).trans (zite ?_ ?_)
        · refine (zJ_n rfl).trans ?_
          refine (zq_aln hm (pc' := 23) rfl rfl rfl rfl).trans ?_
          refine (zq_iln hm (pc' := 24) rfl rfl rfl rfl).trans ?_
          refine (zq_v1 hm (pc' := 27) rfl rfl rfl (cls_1_3) rfl rfl).trans (zCI_c rfl (fun r6 s5 => ?_))
          refine (zJ_n rfl).trans ?_
          refine (zq_goto hm rfl rfl).trans ?_
          exact zq_rb hm rfl rfl
        · refine (zJ_n rfl).trans ?_
          refine (zq_aln hm (pc' := 31) rfl rfl rfl rfl).trans ?_
          refine (zq_iln hm (pc' := 32) rfl rfl rfl rfl).trans ?_
          refine (zq_v1 hm (pc' := 35) rfl rfl rfl (cls_1_3) rfl rfl).trans (zCI_c rfl (fun r4 s3 => ?_))
          refine (zJ_n rfl).trans ?_
          exact zq_rb hm rfl rfl
set_option maxRecDepth 100000 in
set_option maxHeartbeats 4000000 in
theorem e_X3_column (d : Nat) (x1 : Int) (σ : zF) : zx (d + 1) 21 [.inl (some 1), .inr (.inl x1)] σ = (
if x1 = 0 then (
zrr 4 σ) else (
if x1 = 1 then (
zrr 5 σ) else (
if x1 = 2 then (
zrr 6 σ) else (
if x1 = 3 then (
zrr 7 σ) else (
if x1 = 4 then (
zrr 8 σ) else (
if x1 = 5 then (
zrr 9 σ) else (
if x1 = 6 then (
zrr 2 σ) else (
zrr 3 σ)))))))) := by
  unfold zx
  have hm := zexec_m zX2 zMT d
  refine (zexec_eq mt_21 _ rfl (LAY, σ) 0).trans ?_
  show zrunL zX2 (zexec zX2 zMT d) K_X3_column U_X3_column 0 [some (.inl (some 1)), some (.inr (.inl x1))] [] (LAY, σ) = _
  refine (zq_iln hm (pc' := 1) rfl rfl rfl rfl).trans ?_
  refine (zq_ts hm rfl).trans (zsw_c (k' := fun _ => none) ?_ (zsw_c (k' := fun _ => none) ?_ (zsw_c (k' := fun _ => none) ?_ (zsw_c (k' := fun _ => none) ?_ (zsw_c (k' := fun _ => none) ?_ (zsw_c (k' := fun _ => none) ?_ (zsw_c (k' := fun _ => none) ?_ (zsw_n ?_))))))))
  · refine (zJ_n rfl).trans ?_
    refine (zq_aln hm (pc' := 45) rfl rfl rfl rfl).trans ?_
    refine (zq_gr hm (pc' := 48) rfl lay_1 rfl rfl).trans ?_
    refine (zJ_n rfl).trans ?_
    exact zq_rr hm rfl
  · refine (zJ_n rfl).trans ?_
    refine (zq_aln hm (pc' := 50) rfl rfl rfl rfl).trans ?_
    refine (zq_gr hm (pc' := 53) rfl lay_1 rfl rfl).trans ?_
    refine (zJ_n rfl).trans ?_
    exact zq_rr hm rfl
  · refine (zJ_n rfl).trans ?_
    refine (zq_aln hm (pc' := 55) rfl rfl rfl rfl).trans ?_
    refine (zq_gr hm (pc' := 58) rfl lay_1 rfl rfl).trans ?_
    refine (zJ_n rfl).trans ?_
    exact zq_rr hm rfl
  · refine (zJ_n rfl).trans ?_
    refine (zq_aln hm (pc' := 60) rfl rfl rfl rfl).trans ?_
    refine (zq_gr hm (pc' := 63) rfl lay_1 rfl rfl).trans ?_
    refine (zJ_n rfl).trans ?_
    exact zq_rr hm rfl
  · refine (zJ_n rfl).trans ?_
    refine (zq_aln hm (pc' := 65) rfl rfl rfl rfl).trans ?_
    refine (zq_gr hm (pc' := 68) rfl lay_1 rfl rfl).trans ?_
    refine (zJ_n rfl).trans ?_
    exact zq_rr hm rfl
  · refine (zJ_n rfl).trans ?_
    refine (zq_aln hm (pc' := 70) rfl rfl rfl rfl).trans ?_
    refine (zq_gr hm (pc' := 73) rfl lay_1 rfl rfl).trans ?_
    refine (zJ_n rfl).trans ?_
    exact zq_rr hm rfl
  · refine (zJ_n rfl).trans ?_
    refine (zq_aln hm (pc' := 75) rfl rfl rfl rfl).trans ?_
    refine (zq_gr hm (pc' := 78) rfl lay_1 rfl rfl).trans ?_
    refine (zJ_n rfl).trans ?_
    exact zq_rr hm rfl
  · refine (zJ_n rfl).trans ?_
    refine (zq_aln hm (pc' := 80) rfl rfl rfl rfl).trans ?_
    refine (zq_gr hm (pc' := 83) rfl lay_1 rfl rfl).trans ?_
    refine (zJ_n rfl).trans ?_
    exact zq_rr hm rfl
set_option maxRecDepth 100000 in
set_option maxHeartbeats 4000000 in
theorem e_X3_fits (d : Nat) (x1 : Int) (x2 : Int) (x3 : Int) (σ : zF) : zx (d + 1) 22 [.inl (some 1), .inr (.inl x1), .inr (.inl x2), .inr (.inl x3)] σ = (
if x2 = 0 then (
zCI LAY (zx d 148 [.inr (.inl x3)] σ) fun r2 s1 =>
if r2 = 0 ∨ r2 = 1 then (
zri r2 s1) else (
none)) else (
if x2 = 1 then (
if x3 < (-9) then (
zri 0 σ) else (
if (9 : Int) < x3 then (
zri 0 σ) else (
zri 1 σ))) else (
if x2 = 2 then (
if x3 = (-1) then (
zri 1 σ) else (
zCI LAY (zx d 16 [.inl (some 1), .inr (.inl x3)] σ) fun r4 s3 =>
if r4 = 0 then (
zri 0 s3) else (
if x3 = x1 then (
zri 0 s3) else (
zri 1 s3)))) else (
if x2 = 3 then (
if x3 = 0 then (
zri 1 σ) else (
if x3 = 1 then (
zri 1 σ) else (
zri 0 σ))) else (
if x2 = 4 then (
zCI LAY (zx d 146 [.inr (.inl x3)] σ) fun r6 s5 =>
if r6 = 0 ∨ r6 = 1 then (
zri r6 s5) else (
none)) else (
if x2 = 5 then (
if x3 < 0 then (
zri 0 σ) else (
if (12 : Int) < x3 then (
zri 0 σ) else (
zri 1 σ))) else (
zri 0 σ))))))) := by
  unfold zx
  have hm := zexec_m zX2 zMT d
  refine (zexec_eq mt_22 _ rfl (LAY, σ) 0).trans ?_
  show zrunL zX2 (zexec zX2 zMT d) K_X3_fits U_X3_fits 0 [some (.inl (some 1)), some (.inr (.inl x1)), some (.inr (.inl x2)), some (.inr (.inl x3))] [] (LAY, σ) = _
  refine (zq_iln hm (pc' := 1) rfl rfl rfl rfl).trans ?_
  refine (zq_ts hm rfl).trans (zsw_c (k' := fun _ => none) ?_ (zsw_c (k' := fun _ => none) ?_ (zsw_c (k' := fun _ => none) ?_ (zsw_c (k' := fun _ => none) ?_ (zsw_c (k' := fun _ => none) ?_ (zsw_c (k' := fun _ => none) ?_ (zsw_n ?_)))))))
  · refine (zJ_n rfl).trans ?_
    refine (zq_iln hm (pc' := 41) rfl rfl rfl rfl).trans ?_
    refine (zq_s1 hm (pc' := 44) rfl rfl rfl rfl rfl rfl).trans (zCI_c rfl (fun r2 s1 => ?_))
    refine (zJ_n rfl).trans ?_
    exact zq_rb hm rfl rfl
  · refine (zJ_n rfl).trans ?_
    refine (zq_iln hm (pc' := 46) rfl rfl rfl rfl).trans ?_
    refine (zq_bi hm (pc' := 48) rfl rfl rfl rfl).trans ?_
    refine (zq_ilt hm (pc' := 51) rfl rfl).trans (zite ?_ ?_)
    · refine (zJ_n rfl).trans ?_
      refine (zq_ic hm (pc' := 62) rfl rfl rfl rfl).trans ?_
      exact (zq_rb hm rfl rfl).trans (zif1 (by decide))
    · refine (zJ_n rfl).trans ?_
      refine (zq_iln hm (pc' := 52) rfl rfl rfl rfl).trans ?_
      refine (zq_bi hm (pc' := 54) rfl rfl rfl rfl).trans ?_
      refine (zq_igt hm (pc' := 57) rfl rfl).trans (zite ?_ ?_)
      · refine (zJ_n rfl).trans ?_
        refine (zq_ic hm (pc' := 62) rfl rfl rfl rfl).trans ?_
        exact (zq_rb hm rfl rfl).trans (zif1 (by decide))
      · refine (zJ_n rfl).trans ?_
        refine (zq_ic hm (pc' := 58) rfl rfl rfl rfl).trans ?_
        refine (zq_goto hm rfl rfl).trans ?_
        exact (zq_rb hm rfl rfl).trans (zif1 (by decide))
  · refine (zJ_n rfl).trans ?_
    refine (zq_iln hm (pc' := 64) rfl rfl rfl rfl).trans ?_
    refine (zq_ic hm (pc' := 65) rfl rfl rfl rfl).trans ?_
    refine (zq_ieq hm (pc' := 68) rfl rfl).trans (zite ?_ ?_)
    · refine (zJ_n rfl).trans ?_
      refine (zq_ic hm (pc' := 82) rfl rfl rfl rfl).trans ?_
      refine (zq_goto hm rfl rfl).trans ?_
      exact (zq_rb hm rfl rfl).trans (zif1 (by decide))
    · refine (zJ_n rfl).trans ?_
      refine (zq_aln hm (pc' := 69) rfl rfl rfl rfl).trans ?_
      refine (zq_iln hm (pc' := 70) rfl rfl rfl rfl).trans ?_
      refine (zq_v1 hm (pc' := 73) rfl rfl rfl (cls_1_3) rfl rfl).trans (zCI_c rfl (fun r4 s3 => ?_))
      refine (zJ_n rfl).trans ?_
      refine (zq_zeq hm (pc' := 76) rfl rfl).trans (zite ?_ ?_)
      · refine (zJ_n rfl).trans ?_
        refine (zq_ic hm (pc' := 86) rfl rfl rfl rfl).trans ?_
        exact (zq_rb hm rfl rfl).trans (zif1 (by decide))
      · refine (zJ_n rfl).trans ?_
        refine (zq_iln hm (pc' := 77) rfl rfl rfl rfl).trans ?_
        refine (zq_iln hm (pc' := 78) rfl rfl rfl rfl).trans ?_
        refine (zq_ieq hm (pc' := 81) rfl rfl).trans (zite ?_ ?_)
        · refine (zJ_n rfl).trans ?_
          refine (zq_ic hm (pc' := 86) rfl rfl rfl rfl).trans ?_
          exact (zq_rb hm rfl rfl).trans (zif1 (by decide))
        · refine (zJ_n rfl).trans ?_
          refine (zq_ic hm (pc' := 82) rfl rfl rfl rfl).trans ?_
          refine (zq_goto hm rfl rfl).trans ?_
          exact (zq_rb hm rfl rfl).trans (zif1 (by decide))
  · refine (zJ_n rfl).trans ?_
    refine (zq_iln hm (pc' := 88) rfl rfl rfl rfl).trans ?_
    refine (zq_zeq hm (pc' := 91) rfl rfl).trans (zite ?_ ?_)
    · refine (zJ_n rfl).trans ?_
      refine (zq_ic hm (pc' := 97) rfl rfl rfl rfl).trans ?_
      refine (zq_goto hm rfl rfl).trans ?_
      exact (zq_rb hm rfl rfl).trans (zif1 (by decide))
    · refine (zJ_n rfl).trans ?_
      refine (zq_iln hm (pc' := 92) rfl rfl rfl rfl).trans ?_
      refine (zq_ic hm (pc' := 93) rfl rfl rfl rfl).trans ?_
      refine (zq_ine hm (pc' := 96) rfl rfl).trans (zite ?_ ?_)
      · refine (zJ_n rfl).trans ?_
        refine (zq_ic hm (pc' := 97) rfl rfl rfl rfl).trans ?_
        refine (zq_goto hm rfl rfl).trans ?_
        exact (zq_rb hm rfl rfl).trans (zif1 (by decide))
      · refine (zJ_n rfl).trans ?_
        refine (zq_ic hm (pc' := 101) rfl rfl rfl rfl).trans ?_
        exact (zq_rb hm rfl rfl).trans (zif1 (by decide))
  · refine (zJ_n rfl).trans ?_
    refine (zq_iln hm (pc' := 103) rfl rfl rfl rfl).trans ?_
    refine (zq_s1 hm (pc' := 106) rfl rfl rfl rfl rfl rfl).trans (zCI_c rfl (fun r6 s5 => ?_))
    refine (zJ_n rfl).trans ?_
    exact zq_rb hm rfl rfl
  · refine (zJ_n rfl).trans ?_
    refine (zq_iln hm (pc' := 108) rfl rfl rfl rfl).trans ?_
    refine (zq_zlt hm (pc' := 111) rfl rfl).trans (zite ?_ ?_)
    · refine (zJ_n rfl).trans ?_
      refine (zq_ic hm (pc' := 122) rfl rfl rfl rfl).trans ?_
      exact (zq_rb hm rfl rfl).trans (zif1 (by decide))
    · refine (zJ_n rfl).trans ?_
      refine (zq_iln hm (pc' := 112) rfl rfl rfl rfl).trans ?_
      refine (zq_bi hm (pc' := 114) rfl rfl rfl rfl).trans ?_
      refine (zq_igt hm (pc' := 117) rfl rfl).trans (zite ?_ ?_)
      · refine (zJ_n rfl).trans ?_
        refine (zq_ic hm (pc' := 122) rfl rfl rfl rfl).trans ?_
        exact (zq_rb hm rfl rfl).trans (zif1 (by decide))
      · refine (zJ_n rfl).trans ?_
        refine (zq_ic hm (pc' := 118) rfl rfl rfl rfl).trans ?_
        refine (zq_goto hm rfl rfl).trans ?_
        exact (zq_rb hm rfl rfl).trans (zif1 (by decide))
  · refine (zJ_n rfl).trans ?_
    refine (zq_ic hm (pc' := 124) rfl rfl rfl rfl).trans ?_
    exact (zq_rb hm rfl rfl).trans (zif1 (by decide))
set_option maxRecDepth 100000 in
set_option maxHeartbeats 4000000 in
theorem e_X3_otherEnd (d : Nat) (x1 : Int) (x2 : Int) (σ : zF) : zx (d + 1) 23 [.inl (some 1), .inr (.inl x1), .inr (.inl x2)] σ = (
if 0 ≤ x1 ∧ x1 < 12 then (
if (σ 2 x1) = x2 then (
if 0 ≤ x1 ∧ x1 < 12 then (
zri (σ 3 x1) σ) else (
none)) else (
if 0 ≤ x1 ∧ x1 < 12 then (
if (σ 3 x1) = x2 then (
if 0 ≤ x1 ∧ x1 < 12 then (
zri (σ 2 x1) σ) else (
none)) else (
zri (-1) σ)) else (
none))) else (
none)) := by
  unfold zx
  have hm := zexec_m zX2 zMT d
  refine (zexec_eq mt_23 _ rfl (LAY, σ) 0).trans ?_
  show zrunL zX2 (zexec zX2 zMT d) K_X3_otherEnd U_X3_otherEnd 0 [some (.inl (some 1)), some (.inr (.inl x1)), some (.inr (.inl x2))] [] (LAY, σ) = _
  refine (zq_aln hm (pc' := 1) rfl rfl rfl rfl).trans ?_
  refine (zq_gr hm (pc' := 4) rfl lay_1 rfl rfl).trans ?_
  refine (zJ_n rfl).trans ?_
  refine (zq_iln hm (pc' := 5) rfl rfl rfl rfl).trans ?_
  refine (zq_ia hm (v := (σ 2 x1)) (pc' := 6) rfl lay_2 rfl rfl).trans (zite ?_ rfl)
  refine (zJ_n rfl).trans ?_
  refine (zq_iln hm (pc' := 7) rfl rfl rfl rfl).trans ?_
  refine (zq_ine hm (pc' := 10) rfl rfl).trans (zite ?_ ?_)
  · refine (zJ_n rfl).trans ?_
    refine (zq_aln hm (pc' := 11) rfl rfl rfl rfl).trans ?_
    refine (zq_gr hm (pc' := 14) rfl lay_1 rfl rfl).trans ?_
    refine (zJ_n rfl).trans ?_
    refine (zq_iln hm (pc' := 15) rfl rfl rfl rfl).trans ?_
    refine (zq_ia hm (v := (σ 3 x1)) (pc' := 16) rfl lay_3 rfl rfl).trans (zite ?_ rfl)
    refine (zJ_n rfl).trans ?_
    exact zq_ri hm rfl rfl
  · refine (zJ_n rfl).trans ?_
    refine (zq_aln hm (pc' := 18) rfl rfl rfl rfl).trans ?_
    refine (zq_gr hm (pc' := 21) rfl lay_1 rfl rfl).trans ?_
    refine (zJ_n rfl).trans ?_
    refine (zq_iln hm (pc' := 22) rfl rfl rfl rfl).trans ?_
    refine (zq_ia hm (v := (σ 3 x1)) (pc' := 23) rfl lay_3 rfl rfl).trans (zite ?_ rfl)
    refine (zJ_n rfl).trans ?_
    refine (zq_iln hm (pc' := 24) rfl rfl rfl rfl).trans ?_
    refine (zq_ine hm (pc' := 27) rfl rfl).trans (zite ?_ ?_)
    · refine (zJ_n rfl).trans ?_
      refine (zq_aln hm (pc' := 28) rfl rfl rfl rfl).trans ?_
      refine (zq_gr hm (pc' := 31) rfl lay_1 rfl rfl).trans ?_
      refine (zJ_n rfl).trans ?_
      refine (zq_iln hm (pc' := 32) rfl rfl rfl rfl).trans ?_
      refine (zq_ia hm (v := (σ 2 x1)) (pc' := 33) rfl lay_2 rfl rfl).trans (zite ?_ rfl)
      refine (zJ_n rfl).trans ?_
      refine (zq_goto hm rfl rfl).trans ?_
      exact zq_ri hm rfl rfl
    · refine (zJ_n rfl).trans ?_
      refine (zq_ic hm (pc' := 37) rfl rfl rfl rfl).trans ?_
      exact zq_ri hm rfl rfl
set_option maxRecDepth 100000 in
set_option maxHeartbeats 4000000 in
theorem e_X3_touch (d : Nat) (x1 : Int) (x2 : Int) (σ : zF) : zx (d + 1) 24 [.inl (some 1), .inr (.inl x1), .inr (.inl x2)] σ = (
if 0 ≤ x2 ∧ x2 < 12 then (
if 0 ≤ x1 ∧ x1 < 12 then (
if (σ 2 x2) = (σ 2 x1) then (
zri 1 σ) else (
if 0 ≤ x2 ∧ x2 < 12 then (
if 0 ≤ x1 ∧ x1 < 12 then (
if (σ 2 x2) = (σ 3 x1) then (
zri 1 σ) else (
if 0 ≤ x2 ∧ x2 < 12 then (
if 0 ≤ x1 ∧ x1 < 12 then (
if (σ 3 x2) = (σ 2 x1) then (
zri 1 σ) else (
if 0 ≤ x2 ∧ x2 < 12 then (
if 0 ≤ x1 ∧ x1 < 12 then (
if (σ 3 x2) = (σ 3 x1) then (
zri 1 σ) else (
zri 0 σ)) else (
none)) else (
none))) else (
none)) else (
none))) else (
none)) else (
none))) else (
none)) else (
none)) := by
  unfold zx
  have hm := zexec_m zX2 zMT d
  refine (zexec_eq mt_24 _ rfl (LAY, σ) 0).trans ?_
  show zrunL zX2 (zexec zX2 zMT d) K_X3_touch U_X3_touch 0 [some (.inl (some 1)), some (.inr (.inl x1)), some (.inr (.inl x2))] [] (LAY, σ) = _
  refine (zq_aln hm (pc' := 1) rfl rfl rfl rfl).trans ?_
  refine (zq_gr hm (pc' := 4) rfl lay_1 rfl rfl).trans ?_
  refine (zJ_n rfl).trans ?_
  refine (zq_iln hm (pc' := 5) rfl rfl rfl rfl).trans ?_
  refine (zq_ia hm (v := (σ 2 x2)) (pc' := 6) rfl lay_2 rfl rfl).trans (zite ?_ rfl)
  refine (zJ_n rfl).trans ?_
  refine (zq_aln hm (pc' := 7) rfl rfl rfl rfl).trans ?_
  refine (zq_gr hm (pc' := 10) rfl lay_1 rfl rfl).trans ?_
  refine (zJ_n rfl).trans ?_
  refine (zq_iln hm (pc' := 11) rfl rfl rfl rfl).trans ?_
  refine (zq_ia hm (v := (σ 2 x1)) (pc' := 12) rfl lay_2 rfl rfl).trans (zite ?_ rfl)
  refine (zJ_n rfl).trans ?_
  refine (zq_ieq hm (pc' := 15) rfl rfl).trans (zite ?_ ?_)
  · refine (zJ_n rfl).trans ?_
    refine (zq_ic hm (pc' := 61) rfl rfl rfl rfl).trans ?_
    refine (zq_goto hm rfl rfl).trans ?_
    exact (zq_rb hm rfl rfl).trans (zif1 (by decide))
  · refine (zJ_n rfl).trans ?_
    refine (zq_aln hm (pc' := 16) rfl rfl rfl rfl).trans ?_
    refine (zq_gr hm (pc' := 19) rfl lay_1 rfl rfl).trans ?_
    refine (zJ_n rfl).trans ?_
    refine (zq_iln hm (pc' := 20) rfl rfl rfl rfl).trans ?_
    refine (zq_ia hm (v := (σ 2 x2)) (pc' := 21) rfl lay_2 rfl rfl).trans (zite ?_ rfl)
    refine (zJ_n rfl).trans ?_
    refine (zq_aln hm (pc' := 22) rfl rfl rfl rfl).trans ?_
    refine (zq_gr hm (pc' := 25) rfl lay_1 rfl rfl).trans ?_
    refine (zJ_n rfl).trans ?_
    refine (zq_iln hm (pc' := 26) rfl rfl rfl rfl).trans ?_
    refine (zq_ia hm (v := (σ 3 x1)) (pc' := 27) rfl lay_3 rfl rfl).trans (zite ?_ rfl)
    refine (zJ_n rfl).trans ?_
    refine (zq_ieq hm (pc' := 30) rfl rfl).trans (zite ?_ ?_)
    · refine (zJ_n rfl).trans ?_
      refine (zq_ic hm (pc' := 61) rfl rfl rfl rfl).trans ?_
      refine (zq_goto hm rfl rfl).trans ?_
      exact (zq_rb hm rfl rfl).trans (zif1 (by decide))
    · refine (zJ_n rfl).trans ?_
      refine (zq_aln hm (pc' := 31) rfl rfl rfl rfl).trans ?_
      refine (zq_gr hm (pc' := 34) rfl lay_1 rfl rfl).trans ?_
      refine (zJ_n rfl).trans ?_
      refine (zq_iln hm (pc' := 35) rfl rfl rfl rfl).trans ?_
      refine (zq_ia hm (v := (σ 3 x2)) (pc' := 36) rfl lay_3 rfl rfl).trans (zite ?_ rfl)
      refine (zJ_n rfl).trans ?_
      refine (zq_aln hm (pc' := 37) rfl rfl rfl rfl).trans ?_
      refine (zq_gr hm (pc' := 40) rfl lay_1 rfl rfl).trans ?_
      refine (zJ_n rfl).trans ?_
      refine (zq_iln hm (pc' := 41) rfl rfl rfl rfl).trans ?_
      refine (zq_ia hm (v := (σ 2 x1)) (pc' := 42) rfl lay_2 rfl rfl).trans (zite ?_ rfl)
      refine (zJ_n rfl).trans ?_
      refine (zq_ieq hm (pc' := 45) rfl rfl).trans (zite ?_ ?_)
      · refine (zJ_n rfl).trans ?_
        refine (zq_ic hm (pc' := 61) rfl rfl rfl rfl).trans ?_
        refine (zq_goto hm rfl rfl).trans ?_
        exact (zq_rb hm rfl rfl).trans (zif1 (by decide))
      · refine (zJ_n rfl).trans ?_
        refine (zq_aln hm (pc' := 46) rfl rfl rfl rfl).trans ?_
        refine (zq_gr hm (pc' := 49) rfl lay_1 rfl rfl).trans ?_
        refine (zJ_n rfl).trans ?_
        refine (zq_iln hm (pc' := 50) rfl rfl rfl rfl).trans ?_
        refine (zq_ia hm (v := (σ 3 x2)) (pc' := 51) rfl lay_3 rfl rfl).trans (zite ?_ rfl)
        refine (zJ_n rfl).trans ?_
        refine (zq_aln hm (pc' := 52) rfl rfl rfl rfl).trans ?_
        refine (zq_gr hm (pc' := 55) rfl lay_1 rfl rfl).trans ?_
        refine (zJ_n rfl).trans ?_
        refine (zq_iln hm (pc' := 56) rfl rfl rfl rfl).trans ?_
        refine (zq_ia hm (v := (σ 3 x1)) (pc' := 57) rfl lay_3 rfl rfl).trans (zite ?_ rfl)
        refine (zJ_n rfl).trans ?_
        refine (zq_ine hm (pc' := 60) rfl rfl).trans (zite ?_ ?_)
        · refine (zJ_n rfl).trans ?_
          refine (zq_ic hm (pc' := 61) rfl rfl rfl rfl).trans ?_
          refine (zq_goto hm rfl rfl).trans ?_
          exact (zq_rb hm rfl rfl).trans (zif1 (by decide))
        · refine (zJ_n rfl).trans ?_
          refine (zq_ic hm (pc' := 65) rfl rfl rfl rfl).trans ?_
          exact (zq_rb hm rfl rfl).trans (zif1 (by decide))
noncomputable def P_X3_say_5_42 (d : Nat) (y2 : Int) (y3 : Int) (σ : zF) : Option zR := zrunL zX2 (zexec zX2 zMT d) K_X3_say U_X3_say 42 [some (.inl (some 1)), some (.inl (some 5)), some (.inr (.inl y2)), none, some (.inr (.inl y3))] [] (LAY, σ)
set_option maxRecDepth 100000 in
set_option maxHeartbeats 4000000 in
theorem e_X3_say_5 (d : Nat) (x2 : Int) (x3 : Int) (σ : zF) : zx (d + 1) 25 [.inl (some 1), .inl (some 5), .inr (.inl x2), .inr (.inl x3)] σ = (
if x3 = 2 then (
if 0 ≤ x2 ∧ x2 < 12 then (
if 0 ≤ x2 ∧ x2 < 12 then (
zrv (zset σ 5 x2 (zmax (-9) (zw ((σ 5 x2) - 2))))) else (
none)) else (
none)) else (
if x3 = 1 then (
if 0 ≤ x2 ∧ x2 < 12 then (
if 0 ≤ x2 ∧ x2 < 12 then (
P_X3_say_5_42 d x2 0 (zset σ 5 x2 (zmin 9 (zw ((σ 5 x2) + 1))))) else (
none)) else (
none)) else (
zrv σ))) := by
  unfold zx
  have hm := zexec_m zX2 zMT d
  refine (zexec_eq mt_25 _ rfl (LAY, σ) 0).trans ?_
  show zrunL zX2 (zexec zX2 zMT d) K_X3_say U_X3_say 0 [some (.inl (some 1)), some (.inl (some 5)), some (.inr (.inl x2)), some (.inr (.inl x3)), none] [] (LAY, σ) = _
  refine (zq_iln hm (pc' := 1) rfl rfl rfl rfl).trans ?_
  refine (zq_ic hm (pc' := 2) rfl rfl rfl rfl).trans ?_
  refine (zq_ine hm (pc' := 5) rfl rfl).trans (zite ?_ ?_)
  · refine (zJ_n rfl).trans ?_
    refine (zq_aln hm (pc' := 6) rfl rfl rfl rfl).trans ?_
    refine (zq_iln hm (pc' := 7) rfl rfl rfl rfl).trans ?_
    refine (zq_bi hm (pc' := 9) rfl rfl rfl rfl).trans ?_
    refine (zq_aln hm (pc' := 10) rfl rfl rfl rfl).trans ?_
    refine (zq_iln hm (pc' := 11) rfl rfl rfl rfl).trans ?_
    refine (zq_ia hm (v := (σ 5 x2)) (pc' := 12) rfl lay_5 rfl rfl).trans (zite ?_ rfl)
    refine (zJ_n rfl).trans ?_
    refine (zq_ic hm (pc' := 13) rfl rfl rfl rfl).trans ?_
    refine (zq_isub hm (pc' := 14) rfl rfl rfl).trans ?_
    refine (zq_max hm (pc' := 17) rfl rfl rfl rfl).trans ?_
    refine (zJ_n rfl).trans ?_
    refine (zq_ist hm (pc' := 18) rfl lay_5 rfl).trans (zite ?_ rfl)
    refine (zJ_n rfl).trans ?_
    refine (zq_goto hm rfl rfl).trans ?_
    exact zq_rv hm rfl
  · refine (zJ_n rfl).trans ?_
    refine (zq_iln hm (pc' := 22) rfl rfl rfl rfl).trans ?_
    refine (zq_ic hm (pc' := 23) rfl rfl rfl rfl).trans ?_
    refine (zq_ine hm (pc' := 26) rfl rfl).trans (zite ?_ ?_)
    · refine (zJ_n rfl).trans ?_
      refine (zq_aln hm (pc' := 27) rfl rfl rfl rfl).trans ?_
      refine (zq_iln hm (pc' := 28) rfl rfl rfl rfl).trans ?_
      refine (zq_bi hm (pc' := 30) rfl rfl rfl rfl).trans ?_
      refine (zq_aln hm (pc' := 31) rfl rfl rfl rfl).trans ?_
      refine (zq_iln hm (pc' := 32) rfl rfl rfl rfl).trans ?_
      refine (zq_ia hm (v := (σ 5 x2)) (pc' := 33) rfl lay_5 rfl rfl).trans (zite ?_ rfl)
      refine (zJ_n rfl).trans ?_
      refine (zq_ic hm (pc' := 34) rfl rfl rfl rfl).trans ?_
      refine (zq_iadd hm (pc' := 35) rfl rfl rfl).trans ?_
      refine (zq_min hm (pc' := 38) rfl rfl rfl rfl).trans ?_
      refine (zJ_n rfl).trans ?_
      refine (zq_ist hm (pc' := 39) rfl lay_5 rfl).trans (zite ?_ rfl)
      refine (zJ_n rfl).trans ?_
      refine (zq_ic hm (pc' := 40) rfl rfl rfl rfl).trans ?_
      exact (zc_is hm (ls' := [some (.inl (some 1)), some (.inl (some 5)), some (.inr (.inl x2)), some (.inr (.inl x3)), some (.inr (.inl 0))]) (pc' := 42) rfl rfl rfl rfl).trans rfl
    · refine (zJ_n rfl).trans ?_
      exact zq_rv hm rfl
set_option maxRecDepth 100000 in
set_option maxHeartbeats 4000000 in
theorem e_X3_say_5_42 (d : Nat) (y2 : Int) (y3 : Int) (σ : zF) : P_X3_say_5_42 d y2 y3 σ = (
if y3 < (σ 1 0) then (
if 0 ≤ y3 ∧ y3 < 12 then (
if (σ 6 y3) = y2 then (
if 0 ≤ y3 ∧ y3 < 12 then (
if 0 ≤ y3 ∧ y3 < 12 then (
P_X3_say_5_42 d y2 (zw (y3 + 1)) (zset σ 5 y3 (zmax (-9) (zw ((σ 5 y3) - 1))))) else (
none)) else (
none)) else (
P_X3_say_5_42 d y2 (zw (y3 + 1)) σ)) else (
none)) else (
zrv σ)) := by
  have hm := zexec_m zX2 zMT d
  show zrunL zX2 (zexec zX2 zMT d) K_X3_say U_X3_say 42 [some (.inl (some 1)), some (.inl (some 5)), some (.inr (.inl y2)), none, some (.inr (.inl y3))] [] (LAY, σ) = _
  refine (zq_il hm (pc' := 44) rfl rfl rfl rfl).trans ?_
  refine (zq_aln hm (pc' := 45) rfl rfl rfl rfl).trans ?_
  refine (zq_gf hm (v := (σ 1 0)) (pc' := 48) rfl lay_1 rfl rfl rfl).trans ?_
  refine (zJ_n rfl).trans ?_
  refine (zq_ige hm (pc' := 51) rfl rfl).trans (zite ?_ ?_)
  · refine (zJ_n rfl).trans ?_
    refine (zq_aln hm (pc' := 52) rfl rfl rfl rfl).trans ?_
    refine (zq_gr hm (pc' := 55) rfl lay_1 rfl rfl).trans ?_
    refine (zJ_n rfl).trans ?_
    refine (zq_il hm (pc' := 57) rfl rfl rfl rfl).trans ?_
    refine (zq_ia hm (v := (σ 6 y3)) (pc' := 58) rfl lay_6 rfl rfl).trans (zite ?_ rfl)
    refine (zJ_n rfl).trans ?_
    refine (zq_iln hm (pc' := 59) rfl rfl rfl rfl).trans ?_
    refine (zq_ine hm (pc' := 62) rfl rfl).trans (zite ?_ ?_)
    · refine (zJ_n rfl).trans ?_
      refine (zq_aln hm (pc' := 63) rfl rfl rfl rfl).trans ?_
      refine (zq_il hm (pc' := 65) rfl rfl rfl rfl).trans ?_
      refine (zq_bi hm (pc' := 67) rfl rfl rfl rfl).trans ?_
      refine (zq_aln hm (pc' := 68) rfl rfl rfl rfl).trans ?_
      refine (zq_il hm (pc' := 70) rfl rfl rfl rfl).trans ?_
      refine (zq_ia hm (v := (σ 5 y3)) (pc' := 71) rfl lay_5 rfl rfl).trans (zite ?_ rfl)
      refine (zJ_n rfl).trans ?_
      refine (zq_ic hm (pc' := 72) rfl rfl rfl rfl).trans ?_
      refine (zq_isub hm (pc' := 73) rfl rfl rfl).trans ?_
      refine (zq_max hm (pc' := 76) rfl rfl rfl rfl).trans ?_
      refine (zJ_n rfl).trans ?_
      refine (zq_ist hm (pc' := 77) rfl lay_5 rfl).trans (zite ?_ rfl)
      refine (zJ_n rfl).trans ?_
      refine (zq_iinc hm (ls' := [some (.inl (some 1)), some (.inl (some 5)), some (.inr (.inl y2)), none, some (.inr (.inl (zw (y3 + 1))))]) (pc' := 80) rfl rfl rfl rfl rfl rfl).trans ?_
      exact (zc_goto hm rfl rfl).trans rfl
    · refine (zJ_n rfl).trans ?_
      refine (zq_iinc hm (ls' := [some (.inl (some 1)), some (.inl (some 5)), some (.inr (.inl y2)), none, some (.inr (.inl (zw (y3 + 1))))]) (pc' := 80) rfl rfl rfl rfl rfl rfl).trans ?_
      exact (zc_goto hm rfl rfl).trans rfl
  · refine (zJ_n rfl).trans ?_
    exact zq_rv hm rfl
noncomputable def P_X3_say_18_42 (d : Nat) (y2 : Int) (y3 : Int) (σ : zF) : Option zR := zrunL zX2 (zexec zX2 zMT d) K_X3_say U_X3_say 42 [some (.inl (some 1)), some (.inl (some 18)), some (.inr (.inl y2)), none, some (.inr (.inl y3))] [] (LAY, σ)
set_option maxRecDepth 100000 in
set_option maxHeartbeats 4000000 in
theorem e_X3_say_18 (d : Nat) (x2 : Int) (x3 : Int) (σ : zF) : zx (d + 1) 25 [.inl (some 1), .inl (some 18), .inr (.inl x2), .inr (.inl x3)] σ = (
if x3 = 2 then (
if 0 ≤ x2 ∧ x2 < 12 then (
if 0 ≤ x2 ∧ x2 < 12 then (
zrv (zset σ 18 x2 (zmax (-9) (zw ((σ 18 x2) - 2))))) else (
none)) else (
none)) else (
if x3 = 1 then (
if 0 ≤ x2 ∧ x2 < 12 then (
if 0 ≤ x2 ∧ x2 < 12 then (
P_X3_say_18_42 d x2 0 (zset σ 18 x2 (zmin 9 (zw ((σ 18 x2) + 1))))) else (
none)) else (
none)) else (
zrv σ))) := by
  unfold zx
  have hm := zexec_m zX2 zMT d
  refine (zexec_eq mt_25 _ rfl (LAY, σ) 0).trans ?_
  show zrunL zX2 (zexec zX2 zMT d) K_X3_say U_X3_say 0 [some (.inl (some 1)), some (.inl (some 18)), some (.inr (.inl x2)), some (.inr (.inl x3)), none] [] (LAY, σ) = _
  refine (zq_iln hm (pc' := 1) rfl rfl rfl rfl).trans ?_
  refine (zq_ic hm (pc' := 2) rfl rfl rfl rfl).trans ?_
  refine (zq_ine hm (pc' := 5) rfl rfl).trans (zite ?_ ?_)
  · refine (zJ_n rfl).trans ?_
    refine (zq_aln hm (pc' := 6) rfl rfl rfl rfl).trans ?_
    refine (zq_iln hm (pc' := 7) rfl rfl rfl rfl).trans ?_
    refine (zq_bi hm (pc' := 9) rfl rfl rfl rfl).trans ?_
    refine (zq_aln hm (pc' := 10) rfl rfl rfl rfl).trans ?_
    refine (zq_iln hm (pc' := 11) rfl rfl rfl rfl).trans ?_
    refine (zq_ia hm (v := (σ 18 x2)) (pc' := 12) rfl lay_18 rfl rfl).trans (zite ?_ rfl)
    refine (zJ_n rfl).trans ?_
    refine (zq_ic hm (pc' := 13) rfl rfl rfl rfl).trans ?_
    refine (zq_isub hm (pc' := 14) rfl rfl rfl).trans ?_
    refine (zq_max hm (pc' := 17) rfl rfl rfl rfl).trans ?_
    refine (zJ_n rfl).trans ?_
    refine (zq_ist hm (pc' := 18) rfl lay_18 rfl).trans (zite ?_ rfl)
    refine (zJ_n rfl).trans ?_
    refine (zq_goto hm rfl rfl).trans ?_
    exact zq_rv hm rfl
  · refine (zJ_n rfl).trans ?_
    refine (zq_iln hm (pc' := 22) rfl rfl rfl rfl).trans ?_
    refine (zq_ic hm (pc' := 23) rfl rfl rfl rfl).trans ?_
    refine (zq_ine hm (pc' := 26) rfl rfl).trans (zite ?_ ?_)
    · refine (zJ_n rfl).trans ?_
      refine (zq_aln hm (pc' := 27) rfl rfl rfl rfl).trans ?_
      refine (zq_iln hm (pc' := 28) rfl rfl rfl rfl).trans ?_
      refine (zq_bi hm (pc' := 30) rfl rfl rfl rfl).trans ?_
      refine (zq_aln hm (pc' := 31) rfl rfl rfl rfl).trans ?_
      refine (zq_iln hm (pc' := 32) rfl rfl rfl rfl).trans ?_
      refine (zq_ia hm (v := (σ 18 x2)) (pc' := 33) rfl lay_18 rfl rfl).trans (zite ?_ rfl)
      refine (zJ_n rfl).trans ?_
      refine (zq_ic hm (pc' := 34) rfl rfl rfl rfl).trans ?_
      refine (zq_iadd hm (pc' := 35) rfl rfl rfl).trans ?_
      refine (zq_min hm (pc' := 38) rfl rfl rfl rfl).trans ?_
      refine (zJ_n rfl).trans ?_
      refine (zq_ist hm (pc' := 39) rfl lay_18 rfl).trans (zite ?_ rfl)
      refine (zJ_n rfl).trans ?_
      refine (zq_ic hm (pc' := 40) rfl rfl rfl rfl).trans ?_
      exact (zc_is hm (ls' := [some (.inl (some 1)), some (.inl (some 18)), some (.inr (.inl x2)), some (.inr (.inl x3)), some (.inr (.inl 0))]) (pc' := 42) rfl rfl rfl rfl).trans rfl
    · refine (zJ_n rfl).trans ?_
      exact zq_rv hm rfl
set_option maxRecDepth 100000 in
set_option maxHeartbeats 4000000 in
theorem e_X3_say_18_42 (d : Nat) (y2 : Int) (y3 : Int) (σ : zF) : P_X3_say_18_42 d y2 y3 σ = (
if y3 < (σ 1 0) then (
if 0 ≤ y3 ∧ y3 < 12 then (
if (σ 6 y3) = y2 then (
if 0 ≤ y3 ∧ y3 < 12 then (
if 0 ≤ y3 ∧ y3 < 12 then (
P_X3_say_18_42 d y2 (zw (y3 + 1)) (zset σ 18 y3 (zmax (-9) (zw ((σ 18 y3) - 1))))) else (
none)) else (
none)) else (
P_X3_say_18_42 d y2 (zw (y3 + 1)) σ)) else (
none)) else (
zrv σ)) := by
  have hm := zexec_m zX2 zMT d
  show zrunL zX2 (zexec zX2 zMT d) K_X3_say U_X3_say 42 [some (.inl (some 1)), some (.inl (some 18)), some (.inr (.inl y2)), none, some (.inr (.inl y3))] [] (LAY, σ) = _
  refine (zq_il hm (pc' := 44) rfl rfl rfl rfl).trans ?_
  refine (zq_aln hm (pc' := 45) rfl rfl rfl rfl).trans ?_
  refine (zq_gf hm (v := (σ 1 0)) (pc' := 48) rfl lay_1 rfl rfl rfl).trans ?_
  refine (zJ_n rfl).trans ?_
  refine (zq_ige hm (pc' := 51) rfl rfl).trans (zite ?_ ?_)
  · refine (zJ_n rfl).trans ?_
    refine (zq_aln hm (pc' := 52) rfl rfl rfl rfl).trans ?_
    refine (zq_gr hm (pc' := 55) rfl lay_1 rfl rfl).trans ?_
    refine (zJ_n rfl).trans ?_
    refine (zq_il hm (pc' := 57) rfl rfl rfl rfl).trans ?_
    refine (zq_ia hm (v := (σ 6 y3)) (pc' := 58) rfl lay_6 rfl rfl).trans (zite ?_ rfl)
    refine (zJ_n rfl).trans ?_
    refine (zq_iln hm (pc' := 59) rfl rfl rfl rfl).trans ?_
    refine (zq_ine hm (pc' := 62) rfl rfl).trans (zite ?_ ?_)
    · refine (zJ_n rfl).trans ?_
      refine (zq_aln hm (pc' := 63) rfl rfl rfl rfl).trans ?_
      refine (zq_il hm (pc' := 65) rfl rfl rfl rfl).trans ?_
      refine (zq_bi hm (pc' := 67) rfl rfl rfl rfl).trans ?_
      refine (zq_aln hm (pc' := 68) rfl rfl rfl rfl).trans ?_
      refine (zq_il hm (pc' := 70) rfl rfl rfl rfl).trans ?_
      refine (zq_ia hm (v := (σ 18 y3)) (pc' := 71) rfl lay_18 rfl rfl).trans (zite ?_ rfl)
      refine (zJ_n rfl).trans ?_
      refine (zq_ic hm (pc' := 72) rfl rfl rfl rfl).trans ?_
      refine (zq_isub hm (pc' := 73) rfl rfl rfl).trans ?_
      refine (zq_max hm (pc' := 76) rfl rfl rfl rfl).trans ?_
      refine (zJ_n rfl).trans ?_
      refine (zq_ist hm (pc' := 77) rfl lay_18 rfl).trans (zite ?_ rfl)
      refine (zJ_n rfl).trans ?_
      refine (zq_iinc hm (ls' := [some (.inl (some 1)), some (.inl (some 18)), some (.inr (.inl y2)), none, some (.inr (.inl (zw (y3 + 1))))]) (pc' := 80) rfl rfl rfl rfl rfl rfl).trans ?_
      exact (zc_goto hm rfl rfl).trans rfl
    · refine (zJ_n rfl).trans ?_
      refine (zq_iinc hm (ls' := [some (.inl (some 1)), some (.inl (some 18)), some (.inr (.inl y2)), none, some (.inr (.inl (zw (y3 + 1))))]) (pc' := 80) rfl rfl rfl rfl rfl rfl).trans ?_
      exact (zc_goto hm rfl rfl).trans rfl
  · refine (zJ_n rfl).trans ?_
    exact zq_rv hm rfl
noncomputable def P_X3_calmMoods_2 (d : Nat) (y1 : Int) (σ : zF) : Option zR := zrunL zX2 (zexec zX2 zMT d) K_X3_calmMoods U_X3_calmMoods 2 [some (.inl (some 1)), some (.inr (.inl y1))] [] (LAY, σ)
set_option maxRecDepth 100000 in
set_option maxHeartbeats 4000000 in
theorem e_X3_calmMoods (d : Nat) (σ : zF) : zx (d + 1) 26 [.inl (some 1)] σ = (
P_X3_calmMoods_2 d 0 σ) := by
  unfold zx
  have hm := zexec_m zX2 zMT d
  refine (zexec_eq mt_26 _ rfl (LAY, σ) 0).trans ?_
  show zrunL zX2 (zexec zX2 zMT d) K_X3_calmMoods U_X3_calmMoods 0 [some (.inl (some 1)), none] [] (LAY, σ) = _
  refine (zq_ic hm (pc' := 1) rfl rfl rfl rfl).trans ?_
  exact (zc_isn hm (ls' := [some (.inl (some 1)), some (.inr (.inl 0))]) (pc' := 2) rfl rfl rfl rfl).trans rfl
set_option maxRecDepth 100000 in
set_option maxHeartbeats 4000000 in
theorem e_X3_calmMoods_2 (d : Nat) (y1 : Int) (σ : zF) : P_X3_calmMoods_2 d y1 σ = (
if y1 < (σ 1 0) then (
if 0 ≤ y1 ∧ y1 < 12 then (
if (0 : Int) < (σ 5 y1) then (
if 0 ≤ y1 ∧ y1 < 12 then (
if 0 ≤ y1 ∧ y1 < 12 then (
P_X3_calmMoods_2 d (zw (y1 + 1)) (zset σ 5 y1 (zw ((σ 5 y1) - 1)))) else (
none)) else (
none)) else (
if 0 ≤ y1 ∧ y1 < 12 then (
if (σ 5 y1) < 0 then (
if 0 ≤ y1 ∧ y1 < 12 then (
if 0 ≤ y1 ∧ y1 < 12 then (
P_X3_calmMoods_2 d (zw (y1 + 1)) (zset σ 5 y1 (zw ((σ 5 y1) + 1)))) else (
none)) else (
none)) else (
P_X3_calmMoods_2 d (zw (y1 + 1)) σ)) else (
none))) else (
none)) else (
zrv σ)) := by
  have hm := zexec_m zX2 zMT d
  show zrunL zX2 (zexec zX2 zMT d) K_X3_calmMoods U_X3_calmMoods 2 [some (.inl (some 1)), some (.inr (.inl y1))] [] (LAY, σ) = _
  refine (zq_iln hm (pc' := 3) rfl rfl rfl rfl).trans ?_
  refine (zq_aln hm (pc' := 4) rfl rfl rfl rfl).trans ?_
  refine (zq_gf hm (v := (σ 1 0)) (pc' := 7) rfl lay_1 rfl rfl rfl).trans ?_
  refine (zJ_n rfl).trans ?_
  refine (zq_ige hm (pc' := 10) rfl rfl).trans (zite ?_ ?_)
  · refine (zJ_n rfl).trans ?_
    refine (zq_aln hm (pc' := 11) rfl rfl rfl rfl).trans ?_
    refine (zq_gr hm (pc' := 14) rfl lay_1 rfl rfl).trans ?_
    refine (zJ_n rfl).trans ?_
    refine (zq_iln hm (pc' := 15) rfl rfl rfl rfl).trans ?_
    refine (zq_ia hm (v := (σ 5 y1)) (pc' := 16) rfl lay_5 rfl rfl).trans (zite ?_ rfl)
    refine (zJ_n rfl).trans ?_
    refine (zq_zle hm (pc' := 19) rfl rfl).trans (zite ?_ ?_)
    · refine (zJ_n rfl).trans ?_
      refine (zq_aln hm (pc' := 20) rfl rfl rfl rfl).trans ?_
      refine (zq_gr hm (pc' := 23) rfl lay_1 rfl rfl).trans ?_
      refine (zJ_n rfl).trans ?_
      refine (zq_iln hm (pc' := 24) rfl rfl rfl rfl).trans ?_
      refine (zq_dup2 hm (pc' := 25) rfl rfl rfl rfl rfl).trans ?_
      refine (zq_ia hm (v := (σ 5 y1)) (pc' := 26) rfl lay_5 rfl rfl).trans (zite ?_ rfl)
      refine (zJ_n rfl).trans ?_
      refine (zq_ic hm (pc' := 27) rfl rfl rfl rfl).trans ?_
      refine (zq_isub hm (pc' := 28) rfl rfl rfl).trans ?_
      refine (zq_ist hm (pc' := 29) rfl lay_5 rfl).trans (zite ?_ rfl)
      refine (zJ_n rfl).trans ?_
      refine (zq_goto hm rfl rfl).trans ?_
      refine (zq_iinc hm (ls' := [some (.inl (some 1)), some (.inr (.inl (zw (y1 + 1))))]) (pc' := 54) rfl rfl rfl rfl rfl rfl).trans ?_
      exact (zc_goto hm rfl rfl).trans rfl
    · refine (zJ_n rfl).trans ?_
      refine (zq_aln hm (pc' := 33) rfl rfl rfl rfl).trans ?_
      refine (zq_gr hm (pc' := 36) rfl lay_1 rfl rfl).trans ?_
      refine (zJ_n rfl).trans ?_
      refine (zq_iln hm (pc' := 37) rfl rfl rfl rfl).trans ?_
      refine (zq_ia hm (v := (σ 5 y1)) (pc' := 38) rfl lay_5 rfl rfl).trans (zite ?_ rfl)
      refine (zJ_n rfl).trans ?_
      refine (zq_zge hm (pc' := 41) rfl rfl).trans (zite ?_ ?_)
      · refine (zJ_n rfl).trans ?_
        refine (zq_aln hm (pc' := 42) rfl rfl rfl rfl).trans ?_
        refine (zq_gr hm (pc' := 45) rfl lay_1 rfl rfl).trans ?_
        refine (zJ_n rfl).trans ?_
        refine (zq_iln hm (pc' := 46) rfl rfl rfl rfl).trans ?_
        refine (zq_dup2 hm (pc' := 47) rfl rfl rfl rfl rfl).trans ?_
        refine (zq_ia hm (v := (σ 5 y1)) (pc' := 48) rfl lay_5 rfl rfl).trans (zite ?_ rfl)
        refine (zJ_n rfl).trans ?_
        refine (zq_ic hm (pc' := 49) rfl rfl rfl rfl).trans ?_
        refine (zq_iadd hm (pc' := 50) rfl rfl rfl).trans ?_
        refine (zq_ist hm (pc' := 51) rfl lay_5 rfl).trans (zite ?_ rfl)
        refine (zJ_n rfl).trans ?_
        refine (zq_iinc hm (ls' := [some (.inl (some 1)), some (.inr (.inl (zw (y1 + 1))))]) (pc' := 54) rfl rfl rfl rfl rfl rfl).trans ?_
        exact (zc_goto hm rfl rfl).trans rfl
      · refine (zJ_n rfl).trans ?_
        refine (zq_iinc hm (ls' := [some (.inl (some 1)), some (.inr (.inl (zw (y1 + 1))))]) (pc' := 54) rfl rfl rfl rfl rfl rfl).trans ?_
        exact (zc_goto hm rfl rfl).trans rfl
  · refine (zJ_n rfl).trans ?_
    exact zq_rv hm rfl
noncomputable def P_X3_joins_8 (d : Nat) (y1 : Int) (y2 : Int) (y3 : Int) (y4 : Int) (σ : zF) : Option zR := zrunL zX2 (zexec zX2 zMT d) K_X3_joins U_X3_joins 8 [some (.inl (some 1)), none, some (.inr (.inl y1)), some (.inr (.inl y2)), some (.inr (.inl y3)), some (.inr (.inl y4)), none, none, none] [] (LAY, σ)
noncomputable def P_X3_joins_22 (d : Nat) (y1 : Int) (y2 : Int) (y3 : Int) (y4 : Int) (y5 : Int) (y6 : Int) (σ : zF) : Option zR := zrunL zX2 (zexec zX2 zMT d) K_X3_joins U_X3_joins 22 [some (.inl (some 1)), none, some (.inr (.inl y1)), some (.inr (.inl y2)), some (.inr (.inl y3)), some (.inr (.inl y4)), some (.inr (.inl y5)), some (.inr (.inl y6)), none] [] (LAY, σ)
set_option maxRecDepth 100000 in
set_option maxHeartbeats 4000000 in
theorem e_X3_joins (d : Nat) (x1 : Int) (x2 : Int) (x3 : Int) (σ : zF) : zx (d + 1) 27 [.inl (some 1), .inr (.inl x1), .inr (.inl x2), .inr (.inl x3)] σ = (
P_X3_joins_8 d x2 x3 (zshl 1 x1) 0 σ) := by
  unfold zx
  have hm := zexec_m zX2 zMT d
  refine (zexec_eq mt_27 _ rfl (LAY, σ) 0).trans ?_
  show zrunL zX2 (zexec zX2 zMT d) K_X3_joins U_X3_joins 0 [some (.inl (some 1)), some (.inr (.inl x1)), some (.inr (.inl x2)), some (.inr (.inl x3)), none, none, none, none, none] [] (LAY, σ) = _
  refine (zq_ic hm (pc' := 1) rfl rfl rfl rfl).trans ?_
  refine (zq_iln hm (pc' := 2) rfl rfl rfl rfl).trans ?_
  refine (zq_ishl hm (pc' := 3) rfl rfl rfl).trans ?_
  refine (zq_is hm (ls' := [some (.inl (some 1)), some (.inr (.inl x1)), some (.inr (.inl x2)), some (.inr (.inl x3)), some (.inr (.inl (zshl 1 x1))), none, none, none, none]) (pc' := 5) rfl rfl rfl rfl).trans ?_
  refine (zq_ic hm (pc' := 6) rfl rfl rfl rfl).trans ?_
  exact (zc_is hm (ls' := [some (.inl (some 1)), some (.inr (.inl x1)), some (.inr (.inl x2)), some (.inr (.inl x3)), some (.inr (.inl (zshl 1 x1))), some (.inr (.inl 0)), none, none, none]) (pc' := 8) rfl rfl rfl rfl).trans rfl
set_option maxRecDepth 100000 in
set_option maxHeartbeats 4000000 in
theorem e_X3_joins_8 (d : Nat) (y1 : Int) (y2 : Int) (y3 : Int) (y4 : Int) (σ : zF) : P_X3_joins_8 d y1 y2 y3 y4 σ = (
if y4 < 8 then (
P_X3_joins_22 d y1 y2 y3 y4 y3 0 σ) else (
if zand (zshr y3 y1) 1 = 1 then (
zri 1 σ) else (
zri 0 σ))) := by
  have hm := zexec_m zX2 zMT d
  show zrunL zX2 (zexec zX2 zMT d) K_X3_joins U_X3_joins 8 [some (.inl (some 1)), none, some (.inr (.inl y1)), some (.inr (.inl y2)), some (.inr (.inl y3)), some (.inr (.inl y4)), none, none, none] [] (LAY, σ) = _
  refine (zq_il hm (pc' := 10) rfl rfl rfl rfl).trans ?_
  refine (zq_bi hm (pc' := 12) rfl rfl rfl rfl).trans ?_
  refine (zq_ige hm (pc' := 15) rfl rfl).trans (zite ?_ ?_)
  · refine (zJ_n rfl).trans ?_
    refine (zq_il hm (pc' := 17) rfl rfl rfl rfl).trans ?_
    refine (zq_is hm (ls' := [some (.inl (some 1)), none, some (.inr (.inl y1)), some (.inr (.inl y2)), some (.inr (.inl y3)), some (.inr (.inl y4)), some (.inr (.inl y3)), none, none]) (pc' := 19) rfl rfl rfl rfl).trans ?_
    refine (zq_ic hm (pc' := 20) rfl rfl rfl rfl).trans ?_
    exact (zc_is hm (ls' := [some (.inl (some 1)), none, some (.inr (.inl y1)), some (.inr (.inl y2)), some (.inr (.inl y3)), some (.inr (.inl y4)), some (.inr (.inl y3)), some (.inr (.inl 0)), none]) (pc' := 22) rfl rfl rfl rfl).trans rfl
  · refine (zJ_n rfl).trans ?_
    refine (zq_il hm (pc' := 107) rfl rfl rfl rfl).trans ?_
    refine (zq_iln hm (pc' := 108) rfl rfl rfl rfl).trans ?_
    refine (zq_ishr hm (pc' := 109) rfl rfl rfl).trans ?_
    refine (zq_ic hm (pc' := 110) rfl rfl rfl rfl).trans ?_
    refine (zq_iand hm (pc' := 111) rfl rfl rfl).trans ?_
    refine (zq_ic hm (pc' := 112) rfl rfl rfl rfl).trans ?_
    refine (zq_ine hm (pc' := 115) rfl rfl).trans (zite ?_ ?_)
    · refine (zJ_n rfl).trans ?_
      refine (zq_ic hm (pc' := 116) rfl rfl rfl rfl).trans ?_
      refine (zq_goto hm rfl rfl).trans ?_
      exact (zq_rb hm rfl rfl).trans (zif1 (by decide))
    · refine (zJ_n rfl).trans ?_
      refine (zq_ic hm (pc' := 120) rfl rfl rfl rfl).trans ?_
      exact (zq_rb hm rfl rfl).trans (zif1 (by decide))
set_option maxRecDepth 100000 in
set_option maxHeartbeats 4000000 in
theorem e_X3_joins_22 (d : Nat) (y1 : Int) (y2 : Int) (y3 : Int) (y4 : Int) (y5 : Int) (y6 : Int) (σ : zF) : P_X3_joins_22 d y1 y2 y3 y4 y5 y6 σ = (
if y6 < (σ 1 0) then (
if 0 ≤ y6 ∧ y6 < 12 then (
if 0 ≤ y6 ∧ y6 < 12 then (
if y6 = y2 then (
P_X3_joins_22 d y1 y2 y3 y4 y5 (zw (y6 + 1)) σ) else (
if 0 ≤ y6 ∧ y6 < 12 then (
if (σ 7 y6) = 0 then (
if zand y3 (zor (zshl 1 (σ 2 y6)) (zshl 1 (σ 3 y6))) = 0 then (
P_X3_joins_22 d y1 y2 y3 y4 y5 (zw (y6 + 1)) σ) else (
P_X3_joins_22 d y1 y2 (zor y3 (zor (zshl 1 (σ 2 y6)) (zshl 1 (σ 3 y6)))) y4 y5 (zw (y6 + 1)) σ)) else (
P_X3_joins_22 d y1 y2 y3 y4 y5 (zw (y6 + 1)) σ)) else (
none))) else (
none)) else (
none)) else (
if y3 = y5 then (
if zand (zshr y3 y1) 1 = 1 then (
zri 1 σ) else (
zri 0 σ)) else (
P_X3_joins_8 d y1 y2 y3 (zw (y4 + 1)) σ))) := by
  have hm := zexec_m zX2 zMT d
  show zrunL zX2 (zexec zX2 zMT d) K_X3_joins U_X3_joins 22 [some (.inl (some 1)), none, some (.inr (.inl y1)), some (.inr (.inl y2)), some (.inr (.inl y3)), some (.inr (.inl y4)), some (.inr (.inl y5)), some (.inr (.inl y6)), none] [] (LAY, σ) = _
  refine (zq_il hm (pc' := 24) rfl rfl rfl rfl).trans ?_
  refine (zq_aln hm (pc' := 25) rfl rfl rfl rfl).trans ?_
  refine (zq_gf hm (v := (σ 1 0)) (pc' := 28) rfl lay_1 rfl rfl rfl).trans ?_
  refine (zJ_n rfl).trans ?_
  refine (zq_ige hm (pc' := 31) rfl rfl).trans (zite ?_ ?_)
  · refine (zJ_n rfl).trans ?_
    refine (zq_ic hm (pc' := 32) rfl rfl rfl rfl).trans ?_
    refine (zq_aln hm (pc' := 33) rfl rfl rfl rfl).trans ?_
    refine (zq_gr hm (pc' := 36) rfl lay_1 rfl rfl).trans ?_
    refine (zJ_n rfl).trans ?_
    refine (zq_il hm (pc' := 38) rfl rfl rfl rfl).trans ?_
    refine (zq_ia hm (v := (σ 2 y6)) (pc' := 39) rfl lay_2 rfl rfl).trans (zite ?_ rfl)
    refine (zJ_n rfl).trans ?_
    refine (zq_ishl hm (pc' := 40) rfl rfl rfl).trans ?_
    refine (zq_ic hm (pc' := 41) rfl rfl rfl rfl).trans ?_
    refine (zq_aln hm (pc' := 42) rfl rfl rfl rfl).trans ?_
    refine (zq_gr hm (pc' := 45) rfl lay_1 rfl rfl).trans ?_
    refine (zJ_n rfl).trans ?_
    refine (zq_il hm (pc' := 47) rfl rfl rfl rfl).trans ?_
    refine (zq_ia hm (v := (σ 3 y6)) (pc' := 48) rfl lay_3 rfl rfl).trans (zite ?_ rfl)
    refine (zJ_n rfl).trans ?_
    refine (zq_ishl hm (pc' := 49) rfl rfl rfl).trans ?_
    refine (zq_ior hm (pc' := 50) rfl rfl rfl).trans ?_
    refine (zq_is hm (ls' := [some (.inl (some 1)), none, some (.inr (.inl y1)), some (.inr (.inl y2)), some (.inr (.inl y3)), some (.inr (.inl y4)), some (.inr (.inl y5)), some (.inr (.inl y6)), some (.inr (.inl (zor (zshl 1 (σ 2 y6)) (zshl 1 (σ 3 y6)))))]) (pc' := 52) rfl rfl rfl rfl).trans ?_
    refine (zq_il hm (pc' := 54) rfl rfl rfl rfl).trans ?_
    refine (zq_iln hm (pc' := 55) rfl rfl rfl rfl).trans ?_
    refine (zq_ieq hm (pc' := 58) rfl rfl).trans (zite ?_ ?_)
    · refine (zJ_n rfl).trans ?_
      refine (zq_iinc hm (ls' := [some (.inl (some 1)), none, some (.inr (.inl y1)), some (.inr (.inl y2)), some (.inr (.inl y3)), some (.inr (.inl y4)), some (.inr (.inl y5)), some (.inr (.inl (zw (y6 + 1)))), some (.inr (.inl (zor (zshl 1 (σ 2 y6)) (zshl 1 (σ 3 y6)))))]) (pc' := 86) rfl rfl rfl rfl rfl rfl).trans ?_
      exact (zc_goto hm rfl rfl).trans rfl
    · refine (zJ_n rfl).trans ?_
      refine (zq_aln hm (pc' := 59) rfl rfl rfl rfl).trans ?_
      refine (zq_gr hm (pc' := 62) rfl lay_1 rfl rfl).trans ?_
      refine (zJ_n rfl).trans ?_
      refine (zq_il hm (pc' := 64) rfl rfl rfl rfl).trans ?_
      refine (zq_ia hm (v := (σ 7 y6)) (pc' := 65) rfl lay_7 rfl rfl).trans (zite ?_ rfl)
      refine (zJ_n rfl).trans ?_
      refine (zq_zne hm (pc' := 68) rfl rfl).trans (zite ?_ ?_)
      · refine (zJ_n rfl).trans ?_
        refine (zq_il hm (pc' := 70) rfl rfl rfl rfl).trans ?_
        refine (zq_il hm (pc' := 72) rfl rfl rfl rfl).trans ?_
        refine (zq_iand hm (pc' := 73) rfl rfl rfl).trans ?_
        refine (zq_zeq hm (pc' := 76) rfl rfl).trans (zite ?_ ?_)
        · refine (zJ_n rfl).trans ?_
          refine (zq_iinc hm (ls' := [some (.inl (some 1)), none, some (.inr (.inl y1)), some (.inr (.inl y2)), some (.inr (.inl y3)), some (.inr (.inl y4)), some (.inr (.inl y5)), some (.inr (.inl (zw (y6 + 1)))), some (.inr (.inl (zor (zshl 1 (σ 2 y6)) (zshl 1 (σ 3 y6)))))]) (pc' := 86) rfl rfl rfl rfl rfl rfl).trans ?_
          exact (zc_goto hm rfl rfl).trans rfl
        · refine (zJ_n rfl).trans ?_
          refine (zq_il hm (pc' := 78) rfl rfl rfl rfl).trans ?_
          refine (zq_il hm (pc' := 80) rfl rfl rfl rfl).trans ?_
          refine (zq_ior hm (pc' := 81) rfl rfl rfl).trans ?_
          refine (zq_is hm (ls' := [some (.inl (some 1)), none, some (.inr (.inl y1)), some (.inr (.inl y2)), some (.inr (.inl (zor y3 (zor (zshl 1 (σ 2 y6)) (zshl 1 (σ 3 y6)))))), some (.inr (.inl y4)), some (.inr (.inl y5)), some (.inr (.inl y6)), some (.inr (.inl (zor (zshl 1 (σ 2 y6)) (zshl 1 (σ 3 y6)))))]) (pc' := 83) rfl rfl rfl rfl).trans ?_
          refine (zq_iinc hm (ls' := [some (.inl (some 1)), none, some (.inr (.inl y1)), some (.inr (.inl y2)), some (.inr (.inl (zor y3 (zor (zshl 1 (σ 2 y6)) (zshl 1 (σ 3 y6)))))), some (.inr (.inl y4)), some (.inr (.inl y5)), some (.inr (.inl (zw (y6 + 1)))), some (.inr (.inl (zor (zshl 1 (σ 2 y6)) (zshl 1 (σ 3 y6)))))]) (pc' := 86) rfl rfl rfl rfl rfl rfl).trans ?_
          exact (zc_goto hm rfl rfl).trans rfl
      · refine (zJ_n rfl).trans ?_
        refine (zq_iinc hm (ls' := [some (.inl (some 1)), none, some (.inr (.inl y1)), some (.inr (.inl y2)), some (.inr (.inl y3)), some (.inr (.inl y4)), some (.inr (.inl y5)), some (.inr (.inl (zw (y6 + 1)))), some (.inr (.inl (zor (zshl 1 (σ 2 y6)) (zshl 1 (σ 3 y6)))))]) (pc' := 86) rfl rfl rfl rfl rfl rfl).trans ?_
        exact (zc_goto hm rfl rfl).trans rfl
  · refine (zJ_n rfl).trans ?_
    refine (zq_il hm (pc' := 91) rfl rfl rfl rfl).trans ?_
    refine (zq_il hm (pc' := 93) rfl rfl rfl rfl).trans ?_
    refine (zq_ine hm (pc' := 96) rfl rfl).trans (zite ?_ ?_)
    · refine (zJ_n rfl).trans ?_
      refine (zq_goto hm rfl rfl).trans ?_
      refine (zq_il hm (pc' := 107) rfl rfl rfl rfl).trans ?_
      refine (zq_iln hm (pc' := 108) rfl rfl rfl rfl).trans ?_
      refine (zq_ishr hm (pc' := 109) rfl rfl rfl).trans ?_
      refine (zq_ic hm (pc' := 110) rfl rfl rfl rfl).trans ?_
      refine (zq_iand hm (pc' := 111) rfl rfl rfl).trans ?_
      refine (zq_ic hm (pc' := 112) rfl rfl rfl rfl).trans ?_
      refine (zq_ine hm (pc' := 115) rfl rfl).trans (zite ?_ ?_)
      · refine (zJ_n rfl).trans ?_
        refine (zq_ic hm (pc' := 116) rfl rfl rfl rfl).trans ?_
        refine (zq_goto hm rfl rfl).trans ?_
        exact (zq_rb hm rfl rfl).trans (zif1 (by decide))
      · refine (zJ_n rfl).trans ?_
        refine (zq_ic hm (pc' := 120) rfl rfl rfl rfl).trans ?_
        exact (zq_rb hm rfl rfl).trans (zif1 (by decide))
    · refine (zJ_n rfl).trans ?_
      refine (zq_iinc hm (ls' := [some (.inl (some 1)), none, some (.inr (.inl y1)), some (.inr (.inl y2)), some (.inr (.inl y3)), some (.inr (.inl (zw (y4 + 1)))), some (.inr (.inl y5)), some (.inr (.inl y6)), none]) (pc' := 102) rfl rfl rfl rfl rfl rfl).trans ?_
      exact (zc_goto hm rfl rfl).trans rfl
