/-! equations, 7 -/
set_option maxRecDepth 100000 in
set_option maxHeartbeats 4000000 in
theorem e_X12_isLine (d : Nat) (σ : zF) : zx (d + 1) 184 [.inl (some 57)] σ = (
if 0 ≤ (σ 57 18) ∧ (σ 57 18) < 61 then (
zCI LAY (zx d 183 [.inl (some 57)] (zset σ 68 (σ 57 18) (σ 57 17))) fun r2 s1 =>
if r2 = 0 then (
zri 0 s1) else (
if 0 ≤ (s1 57 18) ∧ (s1 57 18) < 61 then (
if 0 ≤ (s1 57 18) ∧ (s1 57 18) < 61 then (
zCI LAY (zx d 174 [.inl (some 57), .inr (.inl 63)] (zset s1 69 (s1 57 18) (s1 68 (s1 57 18)))) fun r4 s3 =>
if r4 = 0 then (
if 0 ≤ (s3 57 18) ∧ (s3 57 18) < 61 then (
zri 1 (zset (zset s3 57 18 (zw ((s3 57 18) + 1))) 70 (s3 57 18) (s3 57 17))) else (
none)) else (
if 0 ≤ (s3 57 18) ∧ (s3 57 18) < 61 then (
zCI LAY (zx d 183 [.inl (some 57)] (zset s3 69 (s3 57 18) (s3 57 17))) fun r6 s5 =>
if r6 = 0 then (
zri 0 s5) else (
if 0 ≤ (s5 57 18) ∧ (s5 57 18) < 61 then (
zri 1 (zset (zset s5 57 18 (zw ((s5 57 18) + 1))) 70 (s5 57 18) (s5 57 17))) else (
none))) else (
none))) else (
none)) else (
none))) else (
none)) := by
  unfold zx
  have hm := zexec_m zX2 zMT d
  refine (zexec_eq mt_184 _ rfl (LAY, σ) 0).trans ?_
  show zrunL zX2 (zexec zX2 zMT d) K_X12_isLine U_X12_isLine 0 [some (.inl (some 57))] [] (LAY, σ) = _
  refine (zq_aln hm (pc' := 1) rfl rfl rfl rfl).trans ?_
  refine (zq_gr hm (pc' := 4) rfl lay_57 rfl rfl).trans ?_
  refine (zJ_n rfl).trans ?_
  refine (zq_aln hm (pc' := 5) rfl rfl rfl rfl).trans ?_
  refine (zq_gf hm (v := (σ 57 18)) (pc' := 8) rfl lay_57 rfl rfl rfl).trans ?_
  refine (zJ_n rfl).trans ?_
  refine (zq_aln hm (pc' := 9) rfl rfl rfl rfl).trans ?_
  refine (zq_gf hm (v := (σ 57 17)) (pc' := 12) rfl lay_57 rfl rfl rfl).trans ?_
  refine (zJ_n rfl).trans ?_
  refine (zq_ist hm (pc' := 13) rfl lay_68 rfl).trans (zite ?_ rfl)
  refine (zJ_n rfl).trans ?_
  refine (zq_aln hm (pc' := 14) rfl rfl rfl rfl).trans ?_
  refine (zq_v1 hm (pc' := 17) rfl rfl rfl (cls_57_12) rfl rfl).trans (zCI_c rfl (fun r2 s1 => ?_))
  refine (zJ_n rfl).trans ?_
  refine (zq_zne hm (pc' := 20) rfl rfl).trans (zite ?_ ?_)
  · refine (zJ_n rfl).trans ?_
    refine (zq_ic hm (pc' := 21) rfl rfl rfl rfl).trans ?_
    exact (zq_rb hm rfl rfl).trans (zif1 (by decide))
  · refine (zJ_n rfl).trans ?_
    refine (zq_aln hm (pc' := 23) rfl rfl rfl rfl).trans ?_
    refine (zq_gr hm (pc' := 26) rfl lay_57 rfl rfl).trans ?_
    refine (zJ_n rfl).trans ?_
    refine (zq_aln hm (pc' := 27) rfl rfl rfl rfl).trans ?_
    refine (zq_gf hm (v := (s1 57 18)) (pc' := 30) rfl lay_57 rfl rfl rfl).trans ?_
    refine (zJ_n rfl).trans ?_
    refine (zq_aln hm (pc' := 31) rfl rfl rfl rfl).trans ?_
    refine (zq_gr hm (pc' := 34) rfl lay_57 rfl rfl).trans ?_
    refine (zJ_n rfl).trans ?_
    refine (zq_aln hm (pc' := 35) rfl rfl rfl rfl).trans ?_
    refine (zq_gf hm (v := (s1 57 18)) (pc' := 38) rfl lay_57 rfl rfl rfl).trans ?_
    refine (zJ_n rfl).trans ?_
    refine (zq_ia hm (v := (s1 68 (s1 57 18))) (pc' := 39) rfl lay_68 rfl rfl).trans (zite ?_ rfl)
    refine (zJ_n rfl).trans ?_
    refine (zq_ist hm (pc' := 40) rfl lay_69 rfl).trans (zite ?_ rfl)
    refine (zJ_n rfl).trans ?_
    refine (zq_aln hm (pc' := 41) rfl rfl rfl rfl).trans ?_
    refine (zq_bi hm (pc' := 43) rfl rfl rfl rfl).trans ?_
    refine (zq_v1 hm (pc' := 46) rfl rfl rfl (cls_57_12) rfl rfl).trans (zCI_c rfl (fun r4 s3 => ?_))
    refine (zJ_n rfl).trans ?_
    refine (zq_zeq hm (pc' := 49) rfl rfl).trans (zite ?_ ?_)
    · refine (zJ_n rfl).trans ?_
      refine (zq_aln hm (pc' := 72) rfl rfl rfl rfl).trans ?_
      refine (zq_gr hm (pc' := 75) rfl lay_57 rfl rfl).trans ?_
      refine (zJ_n rfl).trans ?_
      refine (zq_aln hm (pc' := 76) rfl rfl rfl rfl).trans ?_
      refine (zq_dup hm (pc' := 77) rfl rfl rfl rfl).trans ?_
      refine (zq_gf hm (v := (s3 57 18)) (pc' := 80) rfl lay_57 rfl rfl rfl).trans ?_
      refine (zJ_n rfl).trans ?_
      refine (zq_dupx hm (pc' := 81) rfl rfl rfl rfl rfl).trans ?_
      refine (zq_ic hm (pc' := 82) rfl rfl rfl rfl).trans ?_
      refine (zq_iadd hm (pc' := 83) rfl rfl rfl).trans ?_
      refine (zq_pf hm (pc' := 86) rfl lay_57 rfl rfl rfl).trans ?_
      refine (zJ_n rfl).trans ?_
      refine (zq_aln hm (pc' := 87) rfl rfl rfl rfl).trans ?_
      refine (zq_gf hm (v := (s3 57 17)) (pc' := 90) rfl lay_57 rfl (zsi (by decide)) rfl).trans ?_
      refine (zJ_n rfl).trans ?_
      refine (zq_ist hm (pc' := 91) rfl lay_70 rfl).trans (zite ?_ rfl)
      refine (zJ_n rfl).trans ?_
      refine (zq_ic hm (pc' := 92) rfl rfl rfl rfl).trans ?_
      exact (zq_rb hm rfl rfl).trans (zif1 (by decide))
    · refine (zJ_n rfl).trans ?_
      refine (zq_aln hm (pc' := 50) rfl rfl rfl rfl).trans ?_
      refine (zq_gr hm (pc' := 53) rfl lay_57 rfl rfl).trans ?_
      refine (zJ_n rfl).trans ?_
      refine (zq_aln hm (pc' := 54) rfl rfl rfl rfl).trans ?_
      refine (zq_gf hm (v := (s3 57 18)) (pc' := 57) rfl lay_57 rfl rfl rfl).trans ?_
      refine (zJ_n rfl).trans ?_
      refine (zq_aln hm (pc' := 58) rfl rfl rfl rfl).trans ?_
      refine (zq_gf hm (v := (s3 57 17)) (pc' := 61) rfl lay_57 rfl rfl rfl).trans ?_
      refine (zJ_n rfl).trans ?_
      refine (zq_ist hm (pc' := 62) rfl lay_69 rfl).trans (zite ?_ rfl)
      refine (zJ_n rfl).trans ?_
      refine (zq_aln hm (pc' := 63) rfl rfl rfl rfl).trans ?_
      refine (zq_v1 hm (pc' := 66) rfl rfl rfl (cls_57_12) rfl rfl).trans (zCI_c rfl (fun r6 s5 => ?_))
      refine (zJ_n rfl).trans ?_
      refine (zq_zne hm (pc' := 69) rfl rfl).trans (zite ?_ ?_)
      · refine (zJ_n rfl).trans ?_
        refine (zq_ic hm (pc' := 70) rfl rfl rfl rfl).trans ?_
        exact (zq_rb hm rfl rfl).trans (zif1 (by decide))
      · refine (zJ_n rfl).trans ?_
        refine (zq_aln hm (pc' := 72) rfl rfl rfl rfl).trans ?_
        refine (zq_gr hm (pc' := 75) rfl lay_57 rfl rfl).trans ?_
        refine (zJ_n rfl).trans ?_
        refine (zq_aln hm (pc' := 76) rfl rfl rfl rfl).trans ?_
        refine (zq_dup hm (pc' := 77) rfl rfl rfl rfl).trans ?_
        refine (zq_gf hm (v := (s5 57 18)) (pc' := 80) rfl lay_57 rfl rfl rfl).trans ?_
        refine (zJ_n rfl).trans ?_
        refine (zq_dupx hm (pc' := 81) rfl rfl rfl rfl rfl).trans ?_
        refine (zq_ic hm (pc' := 82) rfl rfl rfl rfl).trans ?_
        refine (zq_iadd hm (pc' := 83) rfl rfl rfl).trans ?_
        refine (zq_pf hm (pc' := 86) rfl lay_57 rfl rfl rfl).trans ?_
        refine (zJ_n rfl).trans ?_
        refine (zq_aln hm (pc' := 87) rfl rfl rfl rfl).trans ?_
        refine (zq_gf hm (v := (s5 57 17)) (pc' := 90) rfl lay_57 rfl (zsi (by decide)) rfl).trans ?_
        refine (zJ_n rfl).trans ?_
        refine (zq_ist hm (pc' := 91) rfl lay_70 rfl).trans (zite ?_ rfl)
        refine (zJ_n rfl).trans ?_
        refine (zq_ic hm (pc' := 92) rfl rfl rfl rfl).trans ?_
        exact (zq_rb hm rfl rfl).trans (zif1 (by decide))
noncomputable def P_X12_law_25 (d : Nat) (y1 : Int) (σ : zF) : Option zR := zrunL zX2 (zexec zX2 zMT d) K_X12_law U_X12_law 25 [some (.inl (some 57)), some (.inr (.inl y1)), none, none] [] (LAY, σ)
noncomputable def P_X12_law_99 (d : Nat) (y1 : Int) (σ : zF) : Option zR := zrunL zX2 (zexec zX2 zMT d) K_X12_law U_X12_law 99 [some (.inl (some 57)), none, none, some (.inr (.inl y1))] [] (LAY, σ)
noncomputable def P_X12_law_151 (d : Nat) (y1 : Int) (σ : zF) : Option zR := zrunL zX2 (zexec zX2 zMT d) K_X12_law U_X12_law 151 [some (.inl (some 57)), none, none, some (.inr (.inl y1))] [] (LAY, σ)
set_option maxRecDepth 100000 in
set_option maxHeartbeats 4000000 in
theorem e_X12_law (d : Nat) (σ : zF) : zx (d + 1) 185 [.inl (some 57)] σ = (
zCI LAY (zx d 184 [.inl (some 57)] (zset (zset (zset (zset σ 57 15 0) 57 16 0) 57 17 0) 57 18 0)) fun r2 s1 =>
P_X12_law_25 d r2 s1) := by
  unfold zx
  have hm := zexec_m zX2 zMT d
  refine (zexec_eq mt_185 _ rfl (LAY, σ) 0).trans ?_
  show zrunL zX2 (zexec zX2 zMT d) K_X12_law U_X12_law 0 [some (.inl (some 57)), none, none, none] [] (LAY, σ) = _
  refine (zq_aln hm (pc' := 1) rfl rfl rfl rfl).trans ?_
  refine (zq_ic hm (pc' := 2) rfl rfl rfl rfl).trans ?_
  refine (zq_pf hm (pc' := 5) rfl lay_57 rfl rfl rfl).trans ?_
  refine (zJ_n rfl).trans ?_
  refine (zq_aln hm (pc' := 6) rfl rfl rfl rfl).trans ?_
  refine (zq_ic hm (pc' := 7) rfl rfl rfl rfl).trans ?_
  refine (zq_pf hm (pc' := 10) rfl lay_57 rfl rfl rfl).trans ?_
  refine (zJ_n rfl).trans ?_
  refine (zq_aln hm (pc' := 11) rfl rfl rfl rfl).trans ?_
  refine (zq_ic hm (pc' := 12) rfl rfl rfl rfl).trans ?_
  refine (zq_pf hm (pc' := 15) rfl lay_57 rfl rfl rfl).trans ?_
  refine (zJ_n rfl).trans ?_
  refine (zq_aln hm (pc' := 16) rfl rfl rfl rfl).trans ?_
  refine (zq_ic hm (pc' := 17) rfl rfl rfl rfl).trans ?_
  refine (zq_pf hm (pc' := 20) rfl lay_57 rfl rfl rfl).trans ?_
  refine (zJ_n rfl).trans ?_
  refine (zq_aln hm (pc' := 21) rfl rfl rfl rfl).trans ?_
  refine (zq_v1 hm (pc' := 24) rfl rfl rfl (cls_57_12) rfl rfl).trans (zCI_c rfl (fun r2 s1 => ?_))
  refine (zJ_n rfl).trans ?_
  exact (zc_isn hm (ls' := [some (.inl (some 57)), some (.inr (.inl r2)), none, none]) (pc' := 25) rfl rfl rfl rfl).trans rfl
set_option maxRecDepth 100000 in
set_option maxHeartbeats 4000000 in
theorem e_X12_law_25 (d : Nat) (y1 : Int) (σ : zF) : P_X12_law_25 d y1 σ = (
if y1 = 0 then (
if y1 = 0 then (
if (0 : Int) = 0 then (
zri (zw ((-100) - (σ 57 15))) (zset σ 57 7 0)) else (
P_X12_law_99 d 0 (zset (zset (zset σ 57 7 0) 57 9 1) 57 10 (σ 57 18)))) else (
if (σ 57 15) = (σ 57 7) then (
if (1 : Int) = 0 then (
zri (zw ((-100) - (σ 57 15))) (zset σ 57 7 0)) else (
P_X12_law_99 d 0 (zset (zset (zset σ 57 7 0) 57 9 1) 57 10 (σ 57 18)))) else (
if (0 : Int) = 0 then (
zri (zw ((-100) - (σ 57 15))) (zset σ 57 7 0)) else (
P_X12_law_99 d 0 (zset (zset (zset σ 57 7 0) 57 9 1) 57 10 (σ 57 18)))))) else (
zCI LAY (zx d 174 [.inl (some 57), .inr (.inl 59)] σ) fun r102 s101 =>
if r102 = 0 then (
if y1 = 0 then (
if (0 : Int) = 0 then (
zri (zw ((-100) - (s101 57 15))) (zset s101 57 7 0)) else (
P_X12_law_99 d 0 (zset (zset (zset s101 57 7 0) 57 9 1) 57 10 (s101 57 18)))) else (
if (s101 57 15) = (s101 57 7) then (
if (1 : Int) = 0 then (
zri (zw ((-100) - (s101 57 15))) (zset s101 57 7 0)) else (
P_X12_law_99 d 0 (zset (zset (zset s101 57 7 0) 57 9 1) 57 10 (s101 57 18)))) else (
if (0 : Int) = 0 then (
zri (zw ((-100) - (s101 57 15))) (zset s101 57 7 0)) else (
P_X12_law_99 d 0 (zset (zset (zset s101 57 7 0) 57 9 1) 57 10 (s101 57 18)))))) else (
zCI LAY (zx d 184 [.inl (some 57)] s101) fun r104 s103 =>
P_X12_law_25 d r104 s103))) := by
  have hm := zexec_m zX2 zMT d
  show zrunL zX2 (zexec zX2 zMT d) K_X12_law U_X12_law 25 [some (.inl (some 57)), some (.inr (.inl y1)), none, none] [] (LAY, σ) = _
  refine (zq_iln hm (pc' := 26) rfl rfl rfl rfl).trans ?_
  refine (zq_zeq hm (pc' := 29) rfl rfl).trans (zite ?_ ?_)
  · refine (zJ_n rfl).trans ?_
    refine (zq_iln hm (pc' := 47) rfl rfl rfl rfl).trans ?_
    refine (zq_zeq hm (pc' := 50) rfl rfl).trans (zite ?_ ?_)
    · refine (zJ_n rfl).trans ?_
      refine (zq_ic hm (pc' := 66) rfl rfl rfl rfl).trans ?_
      refine (zq_isn hm (ls' := [some (.inl (some 57)), some (.inr (.inl y1)), some (.inr (.inl 0)), none]) (pc' := 67) rfl rfl rfl rfl).trans ?_
      refine (zq_aln hm (pc' := 68) rfl rfl rfl rfl).trans ?_
      refine (zq_ic hm (pc' := 69) rfl rfl rfl rfl).trans ?_
      refine (zq_pf hm (pc' := 72) rfl lay_57 rfl rfl rfl).trans ?_
      refine (zJ_n rfl).trans ?_
      refine (zq_iln hm (pc' := 73) rfl rfl rfl rfl).trans ?_
      refine (zq_zne hm (pc' := 76) rfl rfl).trans (zite ?_ ?_)
      · refine (zJ_n rfl).trans ?_
        refine (zq_bi hm (pc' := 78) rfl rfl rfl rfl).trans ?_
        refine (zq_aln hm (pc' := 79) rfl rfl rfl rfl).trans ?_
        refine (zq_gf hm (v := (σ 57 15)) (pc' := 82) rfl lay_57 rfl (zsi (by decide)) rfl).trans ?_
        refine (zJ_n rfl).trans ?_
        refine (zq_isub hm (pc' := 83) rfl rfl rfl).trans ?_
        exact zq_ri hm rfl rfl
      · refine (zJ_n rfl).trans ?_
        refine (zq_aln hm (pc' := 85) rfl rfl rfl rfl).trans ?_
        refine (zq_ic hm (pc' := 86) rfl rfl rfl rfl).trans ?_
        refine ((zq_pb hm (pc' := 89) rfl lay_57 rfl rfl rfl).trans (zif1 (by decide))).trans ?_
        refine (zJ_n rfl).trans ?_
        refine (zq_aln hm (pc' := 90) rfl rfl rfl rfl).trans ?_
        refine (zq_aln hm (pc' := 91) rfl rfl rfl rfl).trans ?_
        refine (zq_gf hm (v := (σ 57 18)) (pc' := 94) rfl lay_57 rfl ((zsi (by decide)).trans (zsi (by decide))) rfl).trans ?_
        refine (zJ_n rfl).trans ?_
        refine (zq_pf hm (pc' := 97) rfl lay_57 rfl rfl rfl).trans ?_
        refine (zJ_n rfl).trans ?_
        refine (zq_ic hm (pc' := 98) rfl rfl rfl rfl).trans ?_
        exact (zc_isn hm (ls' := [some (.inl (some 57)), some (.inr (.inl y1)), some (.inr (.inl 0)), some (.inr (.inl 0))]) (pc' := 99) rfl rfl rfl rfl).trans rfl
    · refine (zJ_n rfl).trans ?_
      refine (zq_aln hm (pc' := 51) rfl rfl rfl rfl).trans ?_
      refine (zq_gf hm (v := (σ 57 15)) (pc' := 54) rfl lay_57 rfl rfl rfl).trans ?_
      refine (zJ_n rfl).trans ?_
      refine (zq_aln hm (pc' := 55) rfl rfl rfl rfl).trans ?_
      refine (zq_gf hm (v := (σ 57 7)) (pc' := 58) rfl lay_57 rfl rfl rfl).trans ?_
      refine (zJ_n rfl).trans ?_
      refine (zq_ine hm (pc' := 61) rfl rfl).trans (zite ?_ ?_)
      · refine (zJ_n rfl).trans ?_
        refine (zq_ic hm (pc' := 62) rfl rfl rfl rfl).trans ?_
        refine (zq_goto hm rfl rfl).trans ?_
        refine (zq_isn hm (ls' := [some (.inl (some 57)), some (.inr (.inl y1)), some (.inr (.inl 1)), none]) (pc' := 67) rfl rfl rfl rfl).trans ?_
        refine (zq_aln hm (pc' := 68) rfl rfl rfl rfl).trans ?_
        refine (zq_ic hm (pc' := 69) rfl rfl rfl rfl).trans ?_
        refine (zq_pf hm (pc' := 72) rfl lay_57 rfl rfl rfl).trans ?_
        refine (zJ_n rfl).trans ?_
        refine (zq_iln hm (pc' := 73) rfl rfl rfl rfl).trans ?_
        refine (zq_zne hm (pc' := 76) rfl rfl).trans (zite ?_ ?_)
        · refine (zJ_n rfl).trans ?_
          refine (zq_bi hm (pc' := 78) rfl rfl rfl rfl).trans ?_
          refine (zq_aln hm (pc' := 79) rfl rfl rfl rfl).trans ?_
          refine (zq_gf hm (v := (σ 57 15)) (pc' := 82) rfl lay_57 rfl (zsi (by decide)) rfl).trans ?_
          refine (zJ_n rfl).trans ?_
          refine (zq_isub hm (pc' := 83) rfl rfl rfl).trans ?_
          exact zq_ri hm rfl rfl
        · refine (zJ_n rfl).trans ?_
          refine (zq_aln hm (pc' := 85) rfl rfl rfl rfl).trans ?_
          refine (zq_ic hm (pc' := 86) rfl rfl rfl rfl).trans ?_
          refine ((zq_pb hm (pc' := 89) rfl lay_57 rfl rfl rfl).trans (zif1 (by decide))).trans ?_
          refine (zJ_n rfl).trans ?_
          refine (zq_aln hm (pc' := 90) rfl rfl rfl rfl).trans ?_
          refine (zq_aln hm (pc' := 91) rfl rfl rfl rfl).trans ?_
          refine (zq_gf hm (v := (σ 57 18)) (pc' := 94) rfl lay_57 rfl ((zsi (by decide)).trans (zsi (by decide))) rfl).trans ?_
          refine (zJ_n rfl).trans ?_
          refine (zq_pf hm (pc' := 97) rfl lay_57 rfl rfl rfl).trans ?_
          refine (zJ_n rfl).trans ?_
          refine (zq_ic hm (pc' := 98) rfl rfl rfl rfl).trans ?_
          exact (zc_isn hm (ls' := [some (.inl (some 57)), some (.inr (.inl y1)), some (.inr (.inl 1)), some (.inr (.inl 0))]) (pc' := 99) rfl rfl rfl rfl).trans rfl
      · refine (zJ_n rfl).trans ?_
        refine (zq_ic hm (pc' := 66) rfl rfl rfl rfl).trans ?_
        refine (zq_isn hm (ls' := [some (.inl (some 57)), some (.inr (.inl y1)), some (.inr (.inl 0)), none]) (pc' := 67) rfl rfl rfl rfl).trans ?_
        refine (zq_aln hm (pc' := 68) rfl rfl rfl rfl).trans ?_
        refine (zq_ic hm (pc' := 69) rfl rfl rfl rfl).trans ?_
        refine (zq_pf hm (pc' := 72) rfl lay_57 rfl rfl rfl).trans ?_
        refine (zJ_n rfl).trans ?_
        refine (zq_iln hm (pc' := 73) rfl rfl rfl rfl).trans ?_
        refine (zq_zne hm (pc' := 76) rfl rfl).trans (zite ?_ ?_)
        · refine (zJ_n rfl).trans ?_
          refine (zq_bi hm (pc' := 78) rfl rfl rfl rfl).trans ?_
          refine (zq_aln hm (pc' := 79) rfl rfl rfl rfl).trans ?_
          refine (zq_gf hm (v := (σ 57 15)) (pc' := 82) rfl lay_57 rfl (zsi (by decide)) rfl).trans ?_
          refine (zJ_n rfl).trans ?_
          refine (zq_isub hm (pc' := 83) rfl rfl rfl).trans ?_
          exact zq_ri hm rfl rfl
        · refine (zJ_n rfl).trans ?_
          refine (zq_aln hm (pc' := 85) rfl rfl rfl rfl).trans ?_
          refine (zq_ic hm (pc' := 86) rfl rfl rfl rfl).trans ?_
          refine ((zq_pb hm (pc' := 89) rfl lay_57 rfl rfl rfl).trans (zif1 (by decide))).trans ?_
          refine (zJ_n rfl).trans ?_
          refine (zq_aln hm (pc' := 90) rfl rfl rfl rfl).trans ?_
          refine (zq_aln hm (pc' := 91) rfl rfl rfl rfl).trans ?_
          refine (zq_gf hm (v := (σ 57 18)) (pc' := 94) rfl lay_57 rfl ((zsi (by decide)).trans (zsi (by decide))) rfl).trans ?_
          refine (zJ_n rfl).trans ?_
          refine (zq_pf hm (pc' := 97) rfl lay_57 rfl rfl rfl).trans ?_
          refine (zJ_n rfl).trans ?_
          refine (zq_ic hm (pc' := 98) rfl rfl rfl rfl).trans ?_
          exact (zc_isn hm (ls' := [some (.inl (some 57)), some (.inr (.inl y1)), some (.inr (.inl 0)), some (.inr (.inl 0))]) (pc' := 99) rfl rfl rfl rfl).trans rfl
  · refine (zJ_n rfl).trans ?_
    refine (zq_aln hm (pc' := 30) rfl rfl rfl rfl).trans ?_
    refine (zq_bi hm (pc' := 32) rfl rfl rfl rfl).trans ?_
    refine (zq_v1 hm (pc' := 35) rfl rfl rfl (cls_57_12) rfl rfl).trans (zCI_c rfl (fun r102 s101 => ?_))
    refine (zJ_n rfl).trans ?_
    refine (zq_zeq hm (pc' := 38) rfl rfl).trans (zite ?_ ?_)
    · refine (zJ_n rfl).trans ?_
      refine (zq_iln hm (pc' := 47) rfl rfl rfl rfl).trans ?_
      refine (zq_zeq hm (pc' := 50) rfl rfl).trans (zite ?_ ?_)
      · refine (zJ_n rfl).trans ?_
        refine (zq_ic hm (pc' := 66) rfl rfl rfl rfl).trans ?_
        refine (zq_isn hm (ls' := [some (.inl (some 57)), some (.inr (.inl y1)), some (.inr (.inl 0)), none]) (pc' := 67) rfl rfl rfl rfl).trans ?_
        refine (zq_aln hm (pc' := 68) rfl rfl rfl rfl).trans ?_
        refine (zq_ic hm (pc' := 69) rfl rfl rfl rfl).trans ?_
        refine (zq_pf hm (pc' := 72) rfl lay_57 rfl rfl rfl).trans ?_
        refine (zJ_n rfl).trans ?_
        refine (zq_iln hm (pc' := 73) rfl rfl rfl rfl).trans ?_
        refine (zq_zne hm (pc' := 76) rfl rfl).trans (zite ?_ ?_)
        · refine (zJ_n rfl).trans ?_
          refine (zq_bi hm (pc' := 78) rfl rfl rfl rfl).trans ?_
          refine (zq_aln hm (pc' := 79) rfl rfl rfl rfl).trans ?_
          refine (zq_gf hm (v := (s101 57 15)) (pc' := 82) rfl lay_57 rfl (zsi (by decide)) rfl).trans ?_
          refine (zJ_n rfl).trans ?_
          refine (zq_isub hm (pc' := 83) rfl rfl rfl).trans ?_
          exact zq_ri hm rfl rfl
        · refine (zJ_n rfl).trans ?_
          refine (zq_aln hm (pc' := 85) rfl rfl rfl rfl).trans ?_
          refine (zq_ic hm (pc' := 86) rfl rfl rfl rfl).trans ?_
          refine ((zq_pb hm (pc' := 89) rfl lay_57 rfl rfl rfl).trans (zif1 (by decide))).trans ?_
          refine (zJ_n rfl).trans ?_
          refine (zq_aln hm (pc' := 90) rfl rfl rfl rfl).trans ?_
          refine (zq_aln hm (pc' := 91) rfl rfl rfl rfl).trans ?_
          refine (zq_gf hm (v := (s101 57 18)) (pc' := 94) rfl lay_57 rfl ((zsi (by decide)).trans (zsi (by decide))) rfl).trans ?_
          refine (zJ_n rfl).trans ?_
          refine (zq_pf hm (pc' := 97) rfl lay_57 rfl rfl rfl).trans ?_
          refine (zJ_n rfl).trans ?_
          refine (zq_ic hm (pc' := 98) rfl rfl rfl rfl).trans ?_
          exact (zc_isn hm (ls' := [some (.inl (some 57)), some (.inr (.inl y1)), some (.inr (.inl 0)), some (.inr (.inl 0))]) (pc' := 99) rfl rfl rfl rfl).trans rfl
      · refine (zJ_n rfl).trans ?_
        refine (zq_aln hm (pc' := 51) rfl rfl rfl rfl).trans ?_
        refine (zq_gf hm (v := (s101 57 15)) (pc' := 54) rfl lay_57 rfl rfl rfl).trans ?_
        refine (zJ_n rfl).trans ?_
        refine (zq_aln hm (pc' := 55) rfl rfl rfl rfl).trans ?_
        refine (zq_gf hm (v := (s101 57 7)) (pc' := 58) rfl lay_57 rfl rfl rfl).trans ?_
        refine (zJ_n rfl).trans ?_
        refine (zq_ine hm (pc' := 61) rfl rfl).trans (zite ?_ ?_)
        · refine (zJ_n rfl).trans ?_
          refine (zq_ic hm (pc' := 62) rfl rfl rfl rfl).trans ?_
          refine (zq_goto hm rfl rfl).trans ?_
          refine (zq_isn hm (ls' := [some (.inl (some 57)), some (.inr (.inl y1)), some (.inr (.inl 1)), none]) (pc' := 67) rfl rfl rfl rfl).trans ?_
          refine (zq_aln hm (pc' := 68) rfl rfl rfl rfl).trans ?_
          refine (zq_ic hm (pc' := 69) rfl rfl rfl rfl).trans ?_
          refine (zq_pf hm (pc' := 72) rfl lay_57 rfl rfl rfl).trans ?_
          refine (zJ_n rfl).trans ?_
          refine (zq_iln hm (pc' := 73) rfl rfl rfl rfl).trans ?_
          refine (zq_zne hm (pc' := 76) rfl rfl).trans (zite ?_ ?_)
          · refine (zJ_n rfl).trans ?_
            refine (zq_bi hm (pc' := 78) rfl rfl rfl rfl).trans ?_
            refine (zq_aln hm (pc' := 79) rfl rfl rfl rfl).trans ?_
            refine (zq_gf hm (v := (s101 57 15)) (pc' := 82) rfl lay_57 rfl (zsi (by decide)) rfl).trans ?_
            refine (zJ_n rfl).trans ?_
            refine (zq_isub hm (pc' := 83) rfl rfl rfl).trans ?_
            exact zq_ri hm rfl rfl
          · refine (zJ_n rfl).trans ?_
            refine (zq_aln hm (pc' := 85) rfl rfl rfl rfl).trans ?_
            refine (zq_ic hm (pc' := 86) rfl rfl rfl rfl).trans ?_
            refine ((zq_pb hm (pc' := 89) rfl lay_57 rfl rfl rfl).trans (zif1 (by decide))).trans ?_
            refine (zJ_n rfl).trans ?_
            refine (zq_aln hm (pc' := 90) rfl rfl rfl rfl).trans ?_
            refine (zq_aln hm (pc' := 91) rfl rfl rfl rfl).trans ?_
            refine (zq_gf hm (v := (s101 57 18)) (pc' := 94) rfl lay_57 rfl ((zsi (by decide)).trans (zsi (by decide))) rfl).trans ?_
            refine (zJ_n rfl).trans ?_
            refine (zq_pf hm (pc' := 97) rfl lay_57 rfl rfl rfl).trans ?_
            refine (zJ_n rfl).trans ?_
            refine (zq_ic hm (pc' := 98) rfl rfl rfl rfl).trans ?_
            exact (zc_isn hm (ls' := [some (.inl (some 57)), some (.inr (.inl y1)), some (.inr (.inl 1)), some (.inr (.inl 0))]) (pc' := 99) rfl rfl rfl rfl).trans rfl
        · refine (zJ_n rfl).trans ?_
          refine (zq_ic hm (pc' := 66) rfl rfl rfl rfl).trans ?_
          refine (zq_isn hm (ls' := [some (.inl (some 57)), some (.inr (.inl y1)), some (.inr (.inl 0)), none]) (pc' := 67) rfl rfl rfl rfl).trans ?_
          refine (zq_aln hm (pc' := 68) rfl rfl rfl rfl).trans ?_
          refine (zq_ic hm (pc' := 69) rfl rfl rfl rfl).trans ?_
          refine (zq_pf hm (pc' := 72) rfl lay_57 rfl rfl rfl).trans ?_
          refine (zJ_n rfl).trans ?_
          refine (zq_iln hm (pc' := 73) rfl rfl rfl rfl).trans ?_
          refine (zq_zne hm (pc' := 76) rfl rfl).trans (zite ?_ ?_)
          · refine (zJ_n rfl).trans ?_
            refine (zq_bi hm (pc' := 78) rfl rfl rfl rfl).trans ?_
            refine (zq_aln hm (pc' := 79) rfl rfl rfl rfl).trans ?_
            refine (zq_gf hm (v := (s101 57 15)) (pc' := 82) rfl lay_57 rfl (zsi (by decide)) rfl).trans ?_
            refine (zJ_n rfl).trans ?_
            refine (zq_isub hm (pc' := 83) rfl rfl rfl).trans ?_
            exact zq_ri hm rfl rfl
          · refine (zJ_n rfl).trans ?_
            refine (zq_aln hm (pc' := 85) rfl rfl rfl rfl).trans ?_
            refine (zq_ic hm (pc' := 86) rfl rfl rfl rfl).trans ?_
            refine ((zq_pb hm (pc' := 89) rfl lay_57 rfl rfl rfl).trans (zif1 (by decide))).trans ?_
            refine (zJ_n rfl).trans ?_
            refine (zq_aln hm (pc' := 90) rfl rfl rfl rfl).trans ?_
            refine (zq_aln hm (pc' := 91) rfl rfl rfl rfl).trans ?_
            refine (zq_gf hm (v := (s101 57 18)) (pc' := 94) rfl lay_57 rfl ((zsi (by decide)).trans (zsi (by decide))) rfl).trans ?_
            refine (zJ_n rfl).trans ?_
            refine (zq_pf hm (pc' := 97) rfl lay_57 rfl rfl rfl).trans ?_
            refine (zJ_n rfl).trans ?_
            refine (zq_ic hm (pc' := 98) rfl rfl rfl rfl).trans ?_
            exact (zc_isn hm (ls' := [some (.inl (some 57)), some (.inr (.inl y1)), some (.inr (.inl 0)), some (.inr (.inl 0))]) (pc' := 99) rfl rfl rfl rfl).trans rfl
    · refine (zJ_n rfl).trans ?_
      refine (zq_aln hm (pc' := 39) rfl rfl rfl rfl).trans ?_
      refine (zq_v1 hm (pc' := 42) rfl rfl rfl (cls_57_12) rfl rfl).trans (zCI_c rfl (fun r104 s103 => ?_))
      refine (zJ_n rfl).trans ?_
      refine (zq_isn hm (ls' := [some (.inl (some 57)), some (.inr (.inl r104)), none, none]) (pc' := 43) rfl rfl rfl rfl).trans ?_
      exact (zc_goto hm rfl rfl).trans rfl
set_option maxRecDepth 100000 in
set_option maxHeartbeats 4000000 in
theorem e_X12_law_99 (d : Nat) (y1 : Int) (σ : zF) : P_X12_law_99 d y1 σ = (
if y1 < (σ 57 10) then (
if 0 ≤ y1 ∧ y1 < 61 then (
if 0 ≤ y1 ∧ y1 < 60 then (
if 0 ≤ y1 ∧ y1 < 61 then (
if 0 ≤ y1 ∧ y1 < 60 then (
if 0 ≤ y1 ∧ y1 < 61 then (
if 0 ≤ y1 ∧ y1 < 60 then (
P_X12_law_99 d (zw (y1 + 1)) (zset (zset (zset σ 64 y1 (σ 68 y1)) 65 y1 (σ 69 y1)) 66 y1 (σ 70 y1))) else (
none)) else (
none)) else (
none)) else (
none)) else (
none)) else (
none)) else (
P_X12_law_151 d 0 σ)) := by
  have hm := zexec_m zX2 zMT d
  show zrunL zX2 (zexec zX2 zMT d) K_X12_law U_X12_law 99 [some (.inl (some 57)), none, none, some (.inr (.inl y1))] [] (LAY, σ) = _
  refine (zq_iln hm (pc' := 100) rfl rfl rfl rfl).trans ?_
  refine (zq_aln hm (pc' := 101) rfl rfl rfl rfl).trans ?_
  refine (zq_gf hm (v := (σ 57 10)) (pc' := 104) rfl lay_57 rfl rfl rfl).trans ?_
  refine (zJ_n rfl).trans ?_
  refine (zq_ige hm (pc' := 107) rfl rfl).trans (zite ?_ ?_)
  · refine (zJ_n rfl).trans ?_
    refine (zq_aln hm (pc' := 108) rfl rfl rfl rfl).trans ?_
    refine (zq_gr hm (pc' := 111) rfl lay_57 rfl rfl).trans ?_
    refine (zJ_n rfl).trans ?_
    refine (zq_iln hm (pc' := 112) rfl rfl rfl rfl).trans ?_
    refine (zq_aln hm (pc' := 113) rfl rfl rfl rfl).trans ?_
    refine (zq_gr hm (pc' := 116) rfl lay_57 rfl rfl).trans ?_
    refine (zJ_n rfl).trans ?_
    refine (zq_iln hm (pc' := 117) rfl rfl rfl rfl).trans ?_
    refine (zq_ia hm (v := (σ 68 y1)) (pc' := 118) rfl lay_68 rfl rfl).trans (zite ?_ rfl)
    refine (zJ_n rfl).trans ?_
    refine (zq_ist hm (pc' := 119) rfl lay_64 rfl).trans (zite ?_ rfl)
    refine (zJ_n rfl).trans ?_
    refine (zq_aln hm (pc' := 120) rfl rfl rfl rfl).trans ?_
    refine (zq_gr hm (pc' := 123) rfl lay_57 rfl rfl).trans ?_
    refine (zJ_n rfl).trans ?_
    refine (zq_iln hm (pc' := 124) rfl rfl rfl rfl).trans ?_
    refine (zq_aln hm (pc' := 125) rfl rfl rfl rfl).trans ?_
    refine (zq_gr hm (pc' := 128) rfl lay_57 rfl rfl).trans ?_
    refine (zJ_n rfl).trans ?_
    refine (zq_iln hm (pc' := 129) rfl rfl rfl rfl).trans ?_
    refine (zq_ia hm (v := (σ 69 y1)) (pc' := 130) rfl lay_69 (zsn rfl) rfl).trans (zite ?_ rfl)
    refine (zJ_n rfl).trans ?_
    refine (zq_ist hm (pc' := 131) rfl lay_65 rfl).trans (zite ?_ rfl)
    refine (zJ_n rfl).trans ?_
    refine (zq_aln hm (pc' := 132) rfl rfl rfl rfl).trans ?_
    refine (zq_gr hm (pc' := 135) rfl lay_57 rfl rfl).trans ?_
    refine (zJ_n rfl).trans ?_
    refine (zq_iln hm (pc' := 136) rfl rfl rfl rfl).trans ?_
    refine (zq_aln hm (pc' := 137) rfl rfl rfl rfl).trans ?_
    refine (zq_gr hm (pc' := 140) rfl lay_57 rfl rfl).trans ?_
    refine (zJ_n rfl).trans ?_
    refine (zq_iln hm (pc' := 141) rfl rfl rfl rfl).trans ?_
    refine (zq_ia hm (v := (σ 70 y1)) (pc' := 142) rfl lay_70 ((zsn rfl).trans (zsn rfl)) rfl).trans (zite ?_ rfl)
    refine (zJ_n rfl).trans ?_
    refine (zq_ist hm (pc' := 143) rfl lay_66 rfl).trans (zite ?_ rfl)
    refine (zJ_n rfl).trans ?_
    refine (zq_iinc hm (ls' := [some (.inl (some 57)), none, none, some (.inr (.inl (zw (y1 + 1))))]) (pc' := 146) rfl rfl rfl rfl rfl rfl).trans ?_
    exact (zc_goto hm rfl rfl).trans rfl
  · refine (zJ_n rfl).trans ?_
    refine (zq_ic hm (pc' := 150) rfl rfl rfl rfl).trans ?_
    exact (zc_isn hm (ls' := [some (.inl (some 57)), none, none, some (.inr (.inl 0))]) (pc' := 151) rfl rfl rfl rfl).trans rfl
set_option maxRecDepth 100000 in
set_option maxHeartbeats 4000000 in
theorem e_X12_law_151 (d : Nat) (y1 : Int) (σ : zF) : P_X12_law_151 d y1 σ = (
if y1 < (σ 57 17) then (
if 0 ≤ y1 ∧ y1 < 200 then (
if 0 ≤ y1 ∧ y1 < 200 then (
P_X12_law_151 d (zw (y1 + 1)) (zset σ 67 y1 (σ 71 y1))) else (
none)) else (
none)) else (
zri 1 σ)) := by
  have hm := zexec_m zX2 zMT d
  show zrunL zX2 (zexec zX2 zMT d) K_X12_law U_X12_law 151 [some (.inl (some 57)), none, none, some (.inr (.inl y1))] [] (LAY, σ) = _
  refine (zq_iln hm (pc' := 152) rfl rfl rfl rfl).trans ?_
  refine (zq_aln hm (pc' := 153) rfl rfl rfl rfl).trans ?_
  refine (zq_gf hm (v := (σ 57 17)) (pc' := 156) rfl lay_57 rfl rfl rfl).trans ?_
  refine (zJ_n rfl).trans ?_
  refine (zq_ige hm (pc' := 159) rfl rfl).trans (zite ?_ ?_)
  · refine (zJ_n rfl).trans ?_
    refine (zq_aln hm (pc' := 160) rfl rfl rfl rfl).trans ?_
    refine (zq_gr hm (pc' := 163) rfl lay_57 rfl rfl).trans ?_
    refine (zJ_n rfl).trans ?_
    refine (zq_iln hm (pc' := 164) rfl rfl rfl rfl).trans ?_
    refine (zq_aln hm (pc' := 165) rfl rfl rfl rfl).trans ?_
    refine (zq_gr hm (pc' := 168) rfl lay_57 rfl rfl).trans ?_
    refine (zJ_n rfl).trans ?_
    refine (zq_iln hm (pc' := 169) rfl rfl rfl rfl).trans ?_
    refine (zq_ia hm (v := (σ 71 y1)) (pc' := 170) rfl lay_71 rfl rfl).trans (zite ?_ rfl)
    refine (zJ_n rfl).trans ?_
    refine (zq_ist hm (pc' := 171) rfl lay_67 rfl).trans (zite ?_ rfl)
    refine (zJ_n rfl).trans ?_
    refine (zq_iinc hm (ls' := [some (.inl (some 57)), none, none, some (.inr (.inl (zw (y1 + 1))))]) (pc' := 174) rfl rfl rfl rfl rfl rfl).trans ?_
    exact (zc_goto hm rfl rfl).trans rfl
  · refine (zJ_n rfl).trans ?_
    refine (zq_ic hm (pc' := 178) rfl rfl rfl rfl).trans ?_
    exact zq_ri hm rfl rfl
set_option maxRecDepth 100000 in
set_option maxHeartbeats 4000000 in
theorem e_X12_both (d : Nat) (x0 : Int) (x1 : Int) (x2 : Int) (σ : zF) : zx (d + 1) 186 [.inr (.inl x0), .inr (.inl x1), .inr (.inl x2)] σ = (
if x0 = 6 then (
if x1 = 0 then (
if x2 = 0 then (
zri 0 σ) else (
zri 1 σ)) else (
zri 1 σ)) else (
if x0 = 7 then (
if x1 = 0 then (
zri 0 σ) else (
if x2 = 0 then (
zri 0 σ) else (
zri 1 σ))) else (
if x0 = 8 then (
if x1 < x2 then (
zri 1 σ) else (
zri 0 σ)) else (
if x0 = 9 then (
if x1 = x2 then (
zri 1 σ) else (
zri 0 σ)) else (
if x0 = 10 then (
if x2 < x1 then (
zri 1 σ) else (
zri 0 σ)) else (
if x0 = 11 then (
zri (zw (x1 + x2)) σ) else (
if x0 = 12 then (
zri (zw (x1 - x2)) σ) else (
if x0 = 13 then (
zri (zw (x1 * x2)) σ) else (
if x0 = 14 then (
if x2 = 0 then (
zri 0 σ) else (
if x2 = 0 then none else (
zri (zdiv x1 x2) σ))) else (
if x2 = 0 then (
zri 0 σ) else (
if x2 = 0 then none else (
zri (zrem x1 x2) σ)))))))))))) := by
  unfold zx
  have hm := zexec_m zX2 zMT d
  refine (zexec_eq mt_186 _ rfl (LAY, σ) 0).trans ?_
  show zrunL zX2 (zexec zX2 zMT d) K_X12_both U_X12_both 0 [some (.inr (.inl x0)), some (.inr (.inl x1)), some (.inr (.inl x2))] [] (LAY, σ) = _
  refine (zq_iln hm (pc' := 1) rfl rfl rfl rfl).trans ?_
  refine (zq_ts hm rfl).trans (zsw_c (k' := fun _ => none) ?_ (zsw_c (k' := fun _ => none) ?_ (zsw_c (k' := fun _ => none) ?_ (zsw_c (k' := fun _ => none) ?_ (zsw_c (k' := fun _ => none) ?_ (zsw_c (k' := fun _ => none) ?_ (zsw_c (k' := fun _ => none) ?_ (zsw_c (k' := fun _ => none) ?_ (zsw_c (k' := fun _ => none) ?_ (zsw_n ?_))))))))))
  · refine (zJ_n rfl).trans ?_
    refine (zq_iln hm (pc' := 53) rfl rfl rfl rfl).trans ?_
    refine (zq_zne hm (pc' := 56) rfl rfl).trans (zite ?_ ?_)
    · refine (zJ_n rfl).trans ?_
      refine (zq_iln hm (pc' := 57) rfl rfl rfl rfl).trans ?_
      refine (zq_zeq hm (pc' := 60) rfl rfl).trans (zite ?_ ?_)
      · refine (zJ_n rfl).trans ?_
        refine (zq_ic hm (pc' := 65) rfl rfl rfl rfl).trans ?_
        exact zq_ri hm rfl rfl
      · refine (zJ_n rfl).trans ?_
        refine (zq_ic hm (pc' := 61) rfl rfl rfl rfl).trans ?_
        refine (zq_goto hm rfl rfl).trans ?_
        exact zq_ri hm rfl rfl
    · refine (zJ_n rfl).trans ?_
      refine (zq_ic hm (pc' := 61) rfl rfl rfl rfl).trans ?_
      refine (zq_goto hm rfl rfl).trans ?_
      exact zq_ri hm rfl rfl
  · refine (zJ_n rfl).trans ?_
    refine (zq_iln hm (pc' := 67) rfl rfl rfl rfl).trans ?_
    refine (zq_zeq hm (pc' := 70) rfl rfl).trans (zite ?_ ?_)
    · refine (zJ_n rfl).trans ?_
      refine (zq_ic hm (pc' := 79) rfl rfl rfl rfl).trans ?_
      exact zq_ri hm rfl rfl
    · refine (zJ_n rfl).trans ?_
      refine (zq_iln hm (pc' := 71) rfl rfl rfl rfl).trans ?_
      refine (zq_zeq hm (pc' := 74) rfl rfl).trans (zite ?_ ?_)
      · refine (zJ_n rfl).trans ?_
        refine (zq_ic hm (pc' := 79) rfl rfl rfl rfl).trans ?_
        exact zq_ri hm rfl rfl
      · refine (zJ_n rfl).trans ?_
        refine (zq_ic hm (pc' := 75) rfl rfl rfl rfl).trans ?_
        refine (zq_goto hm rfl rfl).trans ?_
        exact zq_ri hm rfl rfl
  · refine (zJ_n rfl).trans ?_
    refine (zq_iln hm (pc' := 81) rfl rfl rfl rfl).trans ?_
    refine (zq_iln hm (pc' := 82) rfl rfl rfl rfl).trans ?_
    refine (zq_ige hm (pc' := 85) rfl rfl).trans (zite ?_ ?_)
    · refine (zJ_n rfl).trans ?_
      refine (zq_ic hm (pc' := 86) rfl rfl rfl rfl).trans ?_
      refine (zq_goto hm rfl rfl).trans ?_
      exact zq_ri hm rfl rfl
    · refine (zJ_n rfl).trans ?_
      refine (zq_ic hm (pc' := 90) rfl rfl rfl rfl).trans ?_
      exact zq_ri hm rfl rfl
  · refine (zJ_n rfl).trans ?_
    refine (zq_iln hm (pc' := 92) rfl rfl rfl rfl).trans ?_
    refine (zq_iln hm (pc' := 93) rfl rfl rfl rfl).trans ?_
    refine (zq_ine hm (pc' := 96) rfl rfl).trans (zite ?_ ?_)
    · refine (zJ_n rfl).trans ?_
      refine (zq_ic hm (pc' := 97) rfl rfl rfl rfl).trans ?_
      refine (zq_goto hm rfl rfl).trans ?_
      exact zq_ri hm rfl rfl
    · refine (zJ_n rfl).trans ?_
      refine (zq_ic hm (pc' := 101) rfl rfl rfl rfl).trans ?_
      exact zq_ri hm rfl rfl
  · refine (zJ_n rfl).trans ?_
    refine (zq_iln hm (pc' := 103) rfl rfl rfl rfl).trans ?_
    refine (zq_iln hm (pc' := 104) rfl rfl rfl rfl).trans ?_
    refine (zq_ile hm (pc' := 107) rfl rfl).trans (zite ?_ ?_)
    · refine (zJ_n rfl).trans ?_
      refine (zq_ic hm (pc' := 108) rfl rfl rfl rfl).trans ?_
      refine (zq_goto hm rfl rfl).trans ?_
      exact zq_ri hm rfl rfl
    · refine (zJ_n rfl).trans ?_
      refine (zq_ic hm (pc' := 112) rfl rfl rfl rfl).trans ?_
      exact zq_ri hm rfl rfl
  · refine (zJ_n rfl).trans ?_
    refine (zq_iln hm (pc' := 114) rfl rfl rfl rfl).trans ?_
    refine (zq_iln hm (pc' := 115) rfl rfl rfl rfl).trans ?_
    refine (zq_iadd hm (pc' := 116) rfl rfl rfl).trans ?_
    exact zq_ri hm rfl rfl
  · refine (zJ_n rfl).trans ?_
    refine (zq_iln hm (pc' := 118) rfl rfl rfl rfl).trans ?_
    refine (zq_iln hm (pc' := 119) rfl rfl rfl rfl).trans ?_
    refine (zq_isub hm (pc' := 120) rfl rfl rfl).trans ?_
    exact zq_ri hm rfl rfl
  · refine (zJ_n rfl).trans ?_
    refine (zq_iln hm (pc' := 122) rfl rfl rfl rfl).trans ?_
    refine (zq_iln hm (pc' := 123) rfl rfl rfl rfl).trans ?_
    refine (zq_imul hm (pc' := 124) rfl rfl rfl).trans ?_
    exact zq_ri hm rfl rfl
  · refine (zJ_n rfl).trans ?_
    refine (zq_iln hm (pc' := 126) rfl rfl rfl rfl).trans ?_
    refine (zq_zne hm (pc' := 129) rfl rfl).trans (zite ?_ ?_)
    · refine (zJ_n rfl).trans ?_
      refine (zq_ic hm (pc' := 130) rfl rfl rfl rfl).trans ?_
      refine (zq_goto hm rfl rfl).trans ?_
      exact zq_ri hm rfl rfl
    · refine (zJ_n rfl).trans ?_
      refine (zq_iln hm (pc' := 134) rfl rfl rfl rfl).trans ?_
      refine (zq_iln hm (pc' := 135) rfl rfl rfl rfl).trans ?_
      refine (zq_idiv hm (pc' := 136) rfl rfl).trans (zite rfl ?_)
      refine (zJ_n rfl).trans ?_
      exact zq_ri hm rfl rfl
  · refine (zJ_n rfl).trans ?_
    refine (zq_iln hm (pc' := 138) rfl rfl rfl rfl).trans ?_
    refine (zq_zne hm (pc' := 141) rfl rfl).trans (zite ?_ ?_)
    · refine (zJ_n rfl).trans ?_
      refine (zq_ic hm (pc' := 142) rfl rfl rfl rfl).trans ?_
      refine (zq_goto hm rfl rfl).trans ?_
      exact zq_ri hm rfl rfl
    · refine (zJ_n rfl).trans ?_
      refine (zq_iln hm (pc' := 146) rfl rfl rfl rfl).trans ?_
      refine (zq_iln hm (pc' := 147) rfl rfl rfl rfl).trans ?_
      refine (zq_irem hm (pc' := 148) rfl rfl).trans (zite rfl ?_)
      refine (zJ_n rfl).trans ?_
      exact zq_ri hm rfl rfl
noncomputable def P_X12_worked_5 (d : Nat) (y1 : Int) (y2 : Int) (y3 : Int) (σ : zF) : Option zR := zrunL zX2 (zexec zX2 zMT d) K_X12_worked U_X12_worked 5 [some (.inl (some 57)), none, some (.inr (.inl y1)), some (.inr (.inl y2)), some (.inr (.inl y3)), none] [] (LAY, σ)
set_option maxRecDepth 100000 in
set_option maxHeartbeats 4000000 in
theorem e_X12_worked (d : Nat) (x1 : Int) (x2 : Int) (σ : zF) : zx (d + 1) 187 [.inl (some 57), .inr (.inl x1), .inr (.inl x2)] σ = (
P_X12_worked_5 d x2 0 x1 σ) := by
  unfold zx
  have hm := zexec_m zX2 zMT d
  refine (zexec_eq mt_187 _ rfl (LAY, σ) 0).trans ?_
  show zrunL zX2 (zexec zX2 zMT d) K_X12_worked U_X12_worked 0 [some (.inl (some 57)), some (.inr (.inl x1)), some (.inr (.inl x2)), none, none, none] [] (LAY, σ) = _
  refine (zq_ic hm (pc' := 1) rfl rfl rfl rfl).trans ?_
  refine (zq_isn hm (ls' := [some (.inl (some 57)), some (.inr (.inl x1)), some (.inr (.inl x2)), some (.inr (.inl 0)), none, none]) (pc' := 2) rfl rfl rfl rfl).trans ?_
  refine (zq_iln hm (pc' := 3) rfl rfl rfl rfl).trans ?_
  exact (zc_is hm (ls' := [some (.inl (some 57)), some (.inr (.inl x1)), some (.inr (.inl x2)), some (.inr (.inl 0)), some (.inr (.inl x1)), none]) (pc' := 5) rfl rfl rfl rfl).trans rfl
set_option maxRecDepth 100000 in
set_option maxHeartbeats 4000000 in
theorem e_X12_worked_5 (d : Nat) (y1 : Int) (y2 : Int) (y3 : Int) (σ : zF) : P_X12_worked_5 d y1 y2 y3 σ = (
if y3 < y1 then (
if 0 ≤ y3 ∧ y3 < 200 then (
if (σ 67 y3) < 18 then (
if (5 : Int) < (σ 67 y3) then (
if (σ 67 y3) = 16 then (
if (σ 67 y3) = 17 then (
if 0 ≤ zw (y2 - 1) ∧ zw (y2 - 1) < 200 then (
if 0 ≤ zw (y2 - 1) ∧ zw (y2 - 1) < 200 then (
P_X12_worked_5 d y1 y2 (zw (y3 + 1)) (zset σ 72 (zw (y2 - 1)) (zw (-(σ 72 (zw (y2 - 1))))))) else (
none)) else (
none)) else (
if 0 ≤ zw (y2 - 1) ∧ zw (y2 - 1) < 200 then (
if (σ 72 (zw (y2 - 1))) = 0 then (
if 0 ≤ zw (y2 - 1) ∧ zw (y2 - 1) < 200 then (
P_X12_worked_5 d y1 y2 (zw (y3 + 1)) (zset σ 72 (zw (y2 - 1)) 1)) else (
none)) else (
if 0 ≤ zw (y2 - 1) ∧ zw (y2 - 1) < 200 then (
P_X12_worked_5 d y1 y2 (zw (y3 + 1)) (zset σ 72 (zw (y2 - 1)) 0)) else (
none))) else (
none))) else (
if (σ 67 y3) = 17 then (
if (σ 67 y3) = 17 then (
if 0 ≤ zw (y2 - 1) ∧ zw (y2 - 1) < 200 then (
if 0 ≤ zw (y2 - 1) ∧ zw (y2 - 1) < 200 then (
P_X12_worked_5 d y1 y2 (zw (y3 + 1)) (zset σ 72 (zw (y2 - 1)) (zw (-(σ 72 (zw (y2 - 1))))))) else (
none)) else (
none)) else (
if 0 ≤ zw (y2 - 1) ∧ zw (y2 - 1) < 200 then (
if (σ 72 (zw (y2 - 1))) = 0 then (
if 0 ≤ zw (y2 - 1) ∧ zw (y2 - 1) < 200 then (
P_X12_worked_5 d y1 y2 (zw (y3 + 1)) (zset σ 72 (zw (y2 - 1)) 1)) else (
none)) else (
if 0 ≤ zw (y2 - 1) ∧ zw (y2 - 1) < 200 then (
P_X12_worked_5 d y1 y2 (zw (y3 + 1)) (zset σ 72 (zw (y2 - 1)) 0)) else (
none))) else (
none))) else (
if 0 ≤ zw ((zw (y2 + (-1))) - 1) ∧ zw ((zw (y2 + (-1))) - 1) < 200 then (
if 0 ≤ zw (y2 + (-1)) ∧ zw (y2 + (-1)) < 200 then (
zCI LAY (zx d 186 [.inr (.inl (σ 67 y3)), .inr (.inl (σ 72 (zw ((zw (y2 + (-1))) - 1)))), .inr (.inl (σ 72 (zw (y2 + (-1)))))] σ) fun r102 s101 =>
if 0 ≤ zw ((zw (y2 + (-1))) - 1) ∧ zw ((zw (y2 + (-1))) - 1) < 200 then (
P_X12_worked_5 d y1 (zw (y2 + (-1))) (zw (y3 + 1)) (zset s101 72 (zw ((zw (y2 + (-1))) - 1)) r102)) else (
none)) else (
none)) else (
none)))) else (
if (σ 67 y3) < 18 then (
if 0 ≤ (σ 67 y3) ∧ (σ 67 y3) < 6 then (
if 0 ≤ y2 ∧ y2 < 200 then (
P_X12_worked_5 d y1 (zw (y2 + 1)) (zw (y3 + 1)) (zset σ 72 y2 (σ 73 (σ 67 y3)))) else (
none)) else (
none)) else (
if 0 ≤ y2 ∧ y2 < 200 then (
P_X12_worked_5 d y1 (zw (y2 + 1)) (zw (y3 + 1)) (zset σ 72 y2 (zw ((σ 67 y3) - 18)))) else (
none)))) else (
if (σ 67 y3) < 18 then (
if 0 ≤ (σ 67 y3) ∧ (σ 67 y3) < 6 then (
if 0 ≤ y2 ∧ y2 < 200 then (
P_X12_worked_5 d y1 (zw (y2 + 1)) (zw (y3 + 1)) (zset σ 72 y2 (σ 73 (σ 67 y3)))) else (
none)) else (
none)) else (
if 0 ≤ y2 ∧ y2 < 200 then (
P_X12_worked_5 d y1 (zw (y2 + 1)) (zw (y3 + 1)) (zset σ 72 y2 (zw ((σ 67 y3) - 18)))) else (
none)))) else (
none)) else (
if 0 ≤ (0 : Int) ∧ 0 < 200 then (
zri (σ 72 0) σ) else (
none))) := by
  have hm := zexec_m zX2 zMT d
  show zrunL zX2 (zexec zX2 zMT d) K_X12_worked U_X12_worked 5 [some (.inl (some 57)), none, some (.inr (.inl y1)), some (.inr (.inl y2)), some (.inr (.inl y3)), none] [] (LAY, σ) = _
  refine (zq_il hm (pc' := 7) rfl rfl rfl rfl).trans ?_
  refine (zq_iln hm (pc' := 8) rfl rfl rfl rfl).trans ?_
  refine (zq_ige hm (pc' := 11) rfl rfl).trans (zite ?_ ?_)
  · refine (zJ_n rfl).trans ?_
    refine (zq_aln hm (pc' := 12) rfl rfl rfl rfl).trans ?_
    refine (zq_gr hm (pc' := 15) rfl lay_57 rfl rfl).trans ?_
    refine (zJ_n rfl).trans ?_
    refine (zq_il hm (pc' := 17) rfl rfl rfl rfl).trans ?_
    refine (zq_ia hm (v := (σ 67 y3)) (pc' := 18) rfl lay_67 rfl rfl).trans (zite ?_ rfl)
    refine (zJ_n rfl).trans ?_
    refine (zq_is hm (ls' := [some (.inl (some 57)), none, some (.inr (.inl y1)), some (.inr (.inl y2)), some (.inr (.inl y3)), some (.inr (.inl (σ 67 y3)))]) (pc' := 20) rfl rfl rfl rfl).trans ?_
    refine (zq_il hm (pc' := 22) rfl rfl rfl rfl).trans ?_
    refine (zq_bi hm (pc' := 24) rfl rfl rfl rfl).trans ?_
    refine (zq_ige hm (pc' := 27) rfl rfl).trans (zite ?_ ?_)
    · refine (zJ_n rfl).trans ?_
      refine (zq_il hm (pc' := 29) rfl rfl rfl rfl).trans ?_
      refine (zq_ic hm (pc' := 30) rfl rfl rfl rfl).trans ?_
      refine (zq_igt hm (pc' := 33) rfl rfl).trans (zite ?_ ?_)
      · refine (zJ_n rfl).trans ?_
        refine (zq_il hm (pc' := 69) rfl rfl rfl rfl).trans ?_
        refine (zq_bi hm (pc' := 71) rfl rfl rfl rfl).trans ?_
        refine (zq_ieq hm (pc' := 74) rfl rfl).trans (zite ?_ ?_)
        · refine (zJ_n rfl).trans ?_
          refine (zq_aln hm (pc' := 82) rfl rfl rfl rfl).trans ?_
          refine (zq_gr hm (pc' := 85) rfl lay_57 rfl rfl).trans ?_
          refine (zJ_n rfl).trans ?_
          refine (zq_iln hm (pc' := 86) rfl rfl rfl rfl).trans ?_
          refine (zq_ic hm (pc' := 87) rfl rfl rfl rfl).trans ?_
          refine (zq_isub hm (pc' := 88) rfl rfl rfl).trans ?_
          refine (zq_il hm (pc' := 90) rfl rfl rfl rfl).trans ?_
          refine (zq_bi hm (pc' := 92) rfl rfl rfl rfl).trans ?_
          refine (zq_ine hm (pc' := 95) rfl rfl).trans (zite ?_ ?_)
          · refine (zJ_n rfl).trans ?_
            refine (zq_aln hm (pc' := 96) rfl rfl rfl rfl).trans ?_
            refine (zq_gr hm (pc' := 99) rfl lay_57 rfl rfl).trans ?_
            refine (zJ_n rfl).trans ?_
            refine (zq_iln hm (pc' := 100) rfl rfl rfl rfl).trans ?_
            refine (zq_ic hm (pc' := 101) rfl rfl rfl rfl).trans ?_
            refine (zq_isub hm (pc' := 102) rfl rfl rfl).trans ?_
            refine (zq_ia hm (v := (σ 72 (zw (y2 - 1)))) (pc' := 103) rfl lay_72 rfl rfl).trans (zite ?_ rfl)
            refine (zJ_n rfl).trans ?_
            refine (zq_ineg hm (pc' := 104) rfl rfl rfl).trans ?_
            refine (zq_goto hm rfl rfl).trans ?_
            refine (zq_ist hm (pc' := 124) rfl lay_72 rfl).trans (zite ?_ rfl)
            refine (zJ_n rfl).trans ?_
            refine (zq_goto hm rfl rfl).trans ?_
            refine (zq_iinc hm (ls' := [some (.inl (some 57)), none, some (.inr (.inl y1)), some (.inr (.inl y2)), some (.inr (.inl (zw (y3 + 1)))), some (.inr (.inl (σ 67 y3)))]) (pc' := 160) rfl rfl rfl rfl rfl rfl).trans ?_
            exact (zc_goto hm rfl rfl).trans rfl
          · refine (zJ_n rfl).trans ?_
            refine (zq_aln hm (pc' := 108) rfl rfl rfl rfl).trans ?_
            refine (zq_gr hm (pc' := 111) rfl lay_57 rfl rfl).trans ?_
            refine (zJ_n rfl).trans ?_
            refine (zq_iln hm (pc' := 112) rfl rfl rfl rfl).trans ?_
            refine (zq_ic hm (pc' := 113) rfl rfl rfl rfl).trans ?_
            refine (zq_isub hm (pc' := 114) rfl rfl rfl).trans ?_
            refine (zq_ia hm (v := (σ 72 (zw (y2 - 1)))) (pc' := 115) rfl lay_72 rfl rfl).trans (zite ?_ rfl)
            refine (zJ_n rfl).trans ?_
            refine (zq_zne hm (pc' := 118) rfl rfl).trans (zite ?_ ?_)
            · refine (zJ_n rfl).trans ?_
              refine (zq_ic hm (pc' := 119) rfl rfl rfl rfl).trans ?_
              refine (zq_goto hm rfl rfl).trans ?_
              refine (zq_ist hm (pc' := 124) rfl lay_72 rfl).trans (zite ?_ rfl)
              refine (zJ_n rfl).trans ?_
              refine (zq_goto hm rfl rfl).trans ?_
              refine (zq_iinc hm (ls' := [some (.inl (some 57)), none, some (.inr (.inl y1)), some (.inr (.inl y2)), some (.inr (.inl (zw (y3 + 1)))), some (.inr (.inl (σ 67 y3)))]) (pc' := 160) rfl rfl rfl rfl rfl rfl).trans ?_
              exact (zc_goto hm rfl rfl).trans rfl
            · refine (zJ_n rfl).trans ?_
              refine (zq_ic hm (pc' := 123) rfl rfl rfl rfl).trans ?_
              refine (zq_ist hm (pc' := 124) rfl lay_72 rfl).trans (zite ?_ rfl)
              refine (zJ_n rfl).trans ?_
              refine (zq_goto hm rfl rfl).trans ?_
              refine (zq_iinc hm (ls' := [some (.inl (some 57)), none, some (.inr (.inl y1)), some (.inr (.inl y2)), some (.inr (.inl (zw (y3 + 1)))), some (.inr (.inl (σ 67 y3)))]) (pc' := 160) rfl rfl rfl rfl rfl rfl).trans ?_
              exact (zc_goto hm rfl rfl).trans rfl
        · refine (zJ_n rfl).trans ?_
          refine (zq_il hm (pc' := 76) rfl rfl rfl rfl).trans ?_
          refine (zq_bi hm (pc' := 78) rfl rfl rfl rfl).trans ?_
          refine (zq_ine hm (pc' := 81) rfl rfl).trans (zite ?_ ?_)
          · refine (zJ_n rfl).trans ?_
            refine (zq_aln hm (pc' := 82) rfl rfl rfl rfl).trans ?_
            refine (zq_gr hm (pc' := 85) rfl lay_57 rfl rfl).trans ?_
            refine (zJ_n rfl).trans ?_
            refine (zq_iln hm (pc' := 86) rfl rfl rfl rfl).trans ?_
            refine (zq_ic hm (pc' := 87) rfl rfl rfl rfl).trans ?_
            refine (zq_isub hm (pc' := 88) rfl rfl rfl).trans ?_
            refine (zq_il hm (pc' := 90) rfl rfl rfl rfl).trans ?_
            refine (zq_bi hm (pc' := 92) rfl rfl rfl rfl).trans ?_
            refine (zq_ine hm (pc' := 95) rfl rfl).trans (zite ?_ ?_)
            · refine (zJ_n rfl).trans ?_
              refine (zq_aln hm (pc' := 96) rfl rfl rfl rfl).trans ?_
              refine (zq_gr hm (pc' := 99) rfl lay_57 rfl rfl).trans ?_
              refine (zJ_n rfl).trans ?_
              refine (zq_iln hm (pc' := 100) rfl rfl rfl rfl).trans ?_
              refine (zq_ic hm (pc' := 101) rfl rfl rfl rfl).trans ?_
              refine (zq_isub hm (pc' := 102) rfl rfl rfl).trans ?_
              refine (zq_ia hm (v := (σ 72 (zw (y2 - 1)))) (pc' := 103) rfl lay_72 rfl rfl).trans (zite ?_ rfl)
              refine (zJ_n rfl).trans ?_
              refine (zq_ineg hm (pc' := 104) rfl rfl rfl).trans ?_
              refine (zq_goto hm rfl rfl).trans ?_
              refine (zq_ist hm (pc' := 124) rfl lay_72 rfl).trans (zite ?_ rfl)
              refine (zJ_n rfl).trans ?_
              refine (zq_goto hm rfl rfl).trans ?_
              refine (zq_iinc hm (ls' := [some (.inl (some 57)), none, some (.inr (.inl y1)), some (.inr (.inl y2)), some (.inr (.inl (zw (y3 + 1)))), some (.inr (.inl (σ 67 y3)))]) (pc' := 160) rfl rfl rfl rfl rfl rfl).trans ?_
              exact (zc_goto hm rfl rfl).trans rfl
            · refine (zJ_n rfl).trans ?_
              refine (zq_aln hm (pc' := 108) rfl rfl rfl rfl).trans ?_
              refine (zq_gr hm (pc' := 111) rfl lay_57 rfl rfl).trans ?_
              refine (zJ_n rfl).trans ?_
              refine (zq_iln hm (pc' := 112) rfl rfl rfl rfl).trans ?_
              refine (zq_ic hm (pc' := 113) rfl rfl rfl rfl).trans ?_
              refine (zq_isub hm (pc' := 114) rfl rfl rfl).trans ?_
              refine (zq_ia hm (v := (σ 72 (zw (y2 - 1)))) (pc' := 115) rfl lay_72 rfl rfl).trans (zite ?_ rfl)
              refine (zJ_n rfl).trans ?_
              refine (zq_zne hm (pc' := 118) rfl rfl).trans (zite ?_ ?_)
              · refine (zJ_n rfl).trans ?_
                refine (zq_ic hm (pc' := 119) rfl rfl rfl rfl).trans ?_
                refine (zq_goto hm rfl rfl).trans ?_
                refine (zq_ist hm (pc' := 124) rfl lay_72 rfl).trans (zite ?_ rfl)
                refine (zJ_n rfl).trans ?_
                refine (zq_goto hm rfl rfl).trans ?_
                refine (zq_iinc hm (ls' := [some (.inl (some 57)), none, some (.inr (.inl y1)), some (.inr (.inl y2)), some (.inr (.inl (zw (y3 + 1)))), some (.inr (.inl (σ 67 y3)))]) (pc' := 160) rfl rfl rfl rfl rfl rfl).trans ?_
                exact (zc_goto hm rfl rfl).trans rfl
              · refine (zJ_n rfl).trans ?_
                refine (zq_ic hm (pc' := 123) rfl rfl rfl rfl).trans ?_
                refine (zq_ist hm (pc' := 124) rfl lay_72 rfl).trans (zite ?_ rfl)
                refine (zJ_n rfl).trans ?_
                refine (zq_goto hm rfl rfl).trans ?_
                refine (zq_iinc hm (ls' := [some (.inl (some 57)), none, some (.inr (.inl y1)), some (.inr (.inl y2)), some (.inr (.inl (zw (y3 + 1)))), some (.inr (.inl (σ 67 y3)))]) (pc' := 160) rfl rfl rfl rfl rfl rfl).trans ?_
                exact (zc_goto hm rfl rfl).trans rfl
          · refine (zJ_n rfl).trans ?_
            refine (zq_iinc hm (ls' := [some (.inl (some 57)), none, some (.inr (.inl y1)), some (.inr (.inl (zw (y2 + (-1))))), some (.inr (.inl y3)), some (.inr (.inl (σ 67 y3)))]) (pc' := 130) rfl rfl rfl rfl rfl rfl).trans ?_
            refine (zq_aln hm (pc' := 131) rfl rfl rfl rfl).trans ?_
            refine (zq_gr hm (pc' := 134) rfl lay_57 rfl rfl).trans ?_
            refine (zJ_n rfl).trans ?_
            refine (zq_iln hm (pc' := 135) rfl rfl rfl rfl).trans ?_
            refine (zq_ic hm (pc' := 136) rfl rfl rfl rfl).trans ?_
            refine (zq_isub hm (pc' := 137) rfl rfl rfl).trans ?_
            refine (zq_il hm (pc' := 139) rfl rfl rfl rfl).trans ?_
            refine (zq_aln hm (pc' := 140) rfl rfl rfl rfl).trans ?_
            refine (zq_gr hm (pc' := 143) rfl lay_57 rfl rfl).trans ?_
            refine (zJ_n rfl).trans ?_
            refine (zq_iln hm (pc' := 144) rfl rfl rfl rfl).trans ?_
            refine (zq_ic hm (pc' := 145) rfl rfl rfl rfl).trans ?_
            refine (zq_isub hm (pc' := 146) rfl rfl rfl).trans ?_
            refine (zq_ia hm (v := (σ 72 (zw ((zw (y2 + (-1))) - 1)))) (pc' := 147) rfl lay_72 rfl rfl).trans (zite ?_ rfl)
            refine (zJ_n rfl).trans ?_
            refine (zq_aln hm (pc' := 148) rfl rfl rfl rfl).trans ?_
            refine (zq_gr hm (pc' := 151) rfl lay_57 rfl rfl).trans ?_
            refine (zJ_n rfl).trans ?_
            refine (zq_iln hm (pc' := 152) rfl rfl rfl rfl).trans ?_
            refine (zq_ia hm (v := (σ 72 (zw (y2 + (-1))))) (pc' := 153) rfl lay_72 rfl rfl).trans (zite ?_ rfl)
            refine (zJ_n rfl).trans ?_
            refine (zq_s1 hm (pc' := 156) rfl rfl rfl rfl rfl rfl).trans (zCI_c rfl (fun r102 s101 => ?_))
            refine (zJ_n rfl).trans ?_
            refine (zq_ist hm (pc' := 157) rfl lay_72 rfl).trans (zite ?_ rfl)
            refine (zJ_n rfl).trans ?_
            refine (zq_iinc hm (ls' := [some (.inl (some 57)), none, some (.inr (.inl y1)), some (.inr (.inl (zw (y2 + (-1))))), some (.inr (.inl (zw (y3 + 1)))), some (.inr (.inl (σ 67 y3)))]) (pc' := 160) rfl rfl rfl rfl rfl rfl).trans ?_
            exact (zc_goto hm rfl rfl).trans rfl
      · refine (zJ_n rfl).trans ?_
        refine (zq_aln hm (pc' := 34) rfl rfl rfl rfl).trans ?_
        refine (zq_gr hm (pc' := 37) rfl lay_57 rfl rfl).trans ?_
        refine (zJ_n rfl).trans ?_
        refine (zq_iln hm (pc' := 38) rfl rfl rfl rfl).trans ?_
        refine (zq_iinc hm (ls' := [some (.inl (some 57)), none, some (.inr (.inl y1)), some (.inr (.inl (zw (y2 + 1)))), some (.inr (.inl y3)), some (.inr (.inl (σ 67 y3)))]) (pc' := 41) rfl rfl rfl rfl rfl rfl).trans ?_
        refine (zq_il hm (pc' := 43) rfl rfl rfl rfl).trans ?_
        refine (zq_bi hm (pc' := 45) rfl rfl rfl rfl).trans ?_
        refine (zq_ilt hm (pc' := 48) rfl rfl).trans (zite ?_ ?_)
        · refine (zJ_n rfl).trans ?_
          refine (zq_aln hm (pc' := 57) rfl rfl rfl rfl).trans ?_
          refine (zq_gr hm (pc' := 60) rfl lay_57 rfl rfl).trans ?_
          refine (zJ_n rfl).trans ?_
          refine (zq_il hm (pc' := 62) rfl rfl rfl rfl).trans ?_
          refine (zq_ia hm (v := (σ 73 (σ 67 y3))) (pc' := 63) rfl lay_73 rfl rfl).trans (zite ?_ rfl)
          refine (zJ_n rfl).trans ?_
          refine (zq_ist hm (pc' := 64) rfl lay_72 rfl).trans (zite ?_ rfl)
          refine (zJ_n rfl).trans ?_
          refine (zq_goto hm rfl rfl).trans ?_
          refine (zq_iinc hm (ls' := [some (.inl (some 57)), none, some (.inr (.inl y1)), some (.inr (.inl (zw (y2 + 1)))), some (.inr (.inl (zw (y3 + 1)))), some (.inr (.inl (σ 67 y3)))]) (pc' := 160) rfl rfl rfl rfl rfl rfl).trans ?_
          exact (zc_goto hm rfl rfl).trans rfl
        · refine (zJ_n rfl).trans ?_
          refine (zq_il hm (pc' := 50) rfl rfl rfl rfl).trans ?_
          refine (zq_bi hm (pc' := 52) rfl rfl rfl rfl).trans ?_
          refine (zq_isub hm (pc' := 53) rfl rfl rfl).trans ?_
          refine (zq_goto hm rfl rfl).trans ?_
          refine (zq_ist hm (pc' := 64) rfl lay_72 rfl).trans (zite ?_ rfl)
          refine (zJ_n rfl).trans ?_
          refine (zq_goto hm rfl rfl).trans ?_
          refine (zq_iinc hm (ls' := [some (.inl (some 57)), none, some (.inr (.inl y1)), some (.inr (.inl (zw (y2 + 1)))), some (.inr (.inl (zw (y3 + 1)))), some (.inr (.inl (σ 67 y3)))]) (pc' := 160) rfl rfl rfl rfl rfl rfl).trans ?_
          exact (zc_goto hm rfl rfl).trans rfl
    · refine (zJ_n rfl).trans ?_
      refine (zq_aln hm (pc' := 34) rfl rfl rfl rfl).trans ?_
      refine (zq_gr hm (pc' := 37) rfl lay_57 rfl rfl).trans ?_
      refine (zJ_n rfl).trans ?_
      refine (zq_iln hm (pc' := 38) rfl rfl rfl rfl).trans ?_
      refine (zq_iinc hm (ls' := [some (.inl (some 57)), none, some (.inr (.inl y1)), some (.inr (.inl (zw (y2 + 1)))), some (.inr (.inl y3)), some (.inr (.inl (σ 67 y3)))]) (pc' := 41) rfl rfl rfl rfl rfl rfl).trans ?_
      refine (zq_il hm (pc' := 43) rfl rfl rfl rfl).trans ?_
      refine (zq_bi hm (pc' := 45) rfl rfl rfl rfl).trans ?_
      refine (zq_ilt hm (pc' := 48) rfl rfl).trans (zite ?_ ?_)
      · refine (zJ_n rfl).trans ?_
        refine (zq_aln hm (pc' := 57) rfl rfl rfl rfl).trans ?_
        refine (zq_gr hm (pc' := 60) rfl lay_57 rfl rfl).trans ?_
        refine (zJ_n rfl).trans ?_
        refine (zq_il hm (pc' := 62) rfl rfl rfl rfl).trans ?_
        refine (zq_ia hm (v := (σ 73 (σ 67 y3))) (pc' := 63) rfl lay_73 rfl rfl).trans (zite ?_ rfl)
        refine (zJ_n rfl).trans ?_
        refine (zq_ist hm (pc' := 64) rfl lay_72 rfl).trans (zite ?_ rfl)
        refine (zJ_n rfl).trans ?_
        refine (zq_goto hm rfl rfl).trans ?_
        refine (zq_iinc hm (ls' := [some (.inl (some 57)), none, some (.inr (.inl y1)), some (.inr (.inl (zw (y2 + 1)))), some (.inr (.inl (zw (y3 + 1)))), some (.inr (.inl (σ 67 y3)))]) (pc' := 160) rfl rfl rfl rfl rfl rfl).trans ?_
        exact (zc_goto hm rfl rfl).trans rfl
      · refine (zJ_n rfl).trans ?_
        refine (zq_il hm (pc' := 50) rfl rfl rfl rfl).trans ?_
        refine (zq_bi hm (pc' := 52) rfl rfl rfl rfl).trans ?_
        refine (zq_isub hm (pc' := 53) rfl rfl rfl).trans ?_
        refine (zq_goto hm rfl rfl).trans ?_
        refine (zq_ist hm (pc' := 64) rfl lay_72 rfl).trans (zite ?_ rfl)
        refine (zJ_n rfl).trans ?_
        refine (zq_goto hm rfl rfl).trans ?_
        refine (zq_iinc hm (ls' := [some (.inl (some 57)), none, some (.inr (.inl y1)), some (.inr (.inl (zw (y2 + 1)))), some (.inr (.inl (zw (y3 + 1)))), some (.inr (.inl (σ 67 y3)))]) (pc' := 160) rfl rfl rfl rfl rfl rfl).trans ?_
        exact (zc_goto hm rfl rfl).trans rfl
  · refine (zJ_n rfl).trans ?_
    refine (zq_aln hm (pc' := 164) rfl rfl rfl rfl).trans ?_
    refine (zq_gr hm (pc' := 167) rfl lay_57 rfl rfl).trans ?_
    refine (zJ_n rfl).trans ?_
    refine (zq_ic hm (pc' := 168) rfl rfl rfl rfl).trans ?_
    refine (zq_ia hm (v := (σ 72 0)) (pc' := 169) rfl lay_72 rfl rfl).trans (zite ?_ rfl)
    refine (zJ_n rfl).trans ?_
    exact zq_ri hm rfl rfl
set_option maxRecDepth 100000 in
set_option maxHeartbeats 4000000 in
theorem e_X12_isPloughed (d : Nat) (x1 : Int) (σ : zF) : zx (d + 1) 188 [.inl (some 57), .inr (.inl x1)] σ = (
if 0 ≤ zw (36 + x1) ∧ zw (36 + x1) < 48 then (
if (σ 60 (zw (36 + x1))) = 1 then (
zri 1 σ) else (
zri 0 σ)) else (
none)) := by
  unfold zx
  have hm := zexec_m zX2 zMT d
  refine (zexec_eq mt_188 _ rfl (LAY, σ) 0).trans ?_
  show zrunL zX2 (zexec zX2 zMT d) K_X12_isPloughed U_X12_isPloughed 0 [some (.inl (some 57)), some (.inr (.inl x1))] [] (LAY, σ) = _
  refine (zq_aln hm (pc' := 1) rfl rfl rfl rfl).trans ?_
  refine (zq_gr hm (pc' := 4) rfl lay_57 rfl rfl).trans ?_
  refine (zJ_n rfl).trans ?_
  refine (zq_bi hm (pc' := 6) rfl rfl rfl rfl).trans ?_
  refine (zq_iln hm (pc' := 7) rfl rfl rfl rfl).trans ?_
  refine (zq_iadd hm (pc' := 8) rfl rfl rfl).trans ?_
  refine (zq_ia hm (v := (σ 60 (zw (36 + x1)))) (pc' := 9) rfl lay_60 rfl rfl).trans (zite ?_ rfl)
  refine (zJ_n rfl).trans ?_
  refine (zq_ic hm (pc' := 10) rfl rfl rfl rfl).trans ?_
  refine (zq_ine hm (pc' := 13) rfl rfl).trans (zite ?_ ?_)
  · refine (zJ_n rfl).trans ?_
    refine (zq_ic hm (pc' := 14) rfl rfl rfl rfl).trans ?_
    refine (zq_goto hm rfl rfl).trans ?_
    exact (zq_rb hm rfl rfl).trans (zif1 (by decide))
  · refine (zJ_n rfl).trans ?_
    refine (zq_ic hm (pc' := 18) rfl rfl rfl rfl).trans ?_
    exact (zq_rb hm rfl rfl).trans (zif1 (by decide))
set_option maxRecDepth 100000 in
set_option maxHeartbeats 4000000 in
theorem e_X12_endsAt (d : Nat) (x1 : Int) (x2 : Int) (σ : zF) : zx (d + 1) 189 [.inl (some 57), .inr (.inl x1), .inr (.inl x2)] σ = (
if 0 ≤ x1 ∧ x1 < 12 then (
if (σ 58 x1) = x2 then (
zri 1 σ) else (
if 0 ≤ x1 ∧ x1 < 12 then (
if (σ 59 x1) = x2 then (
zri 1 σ) else (
zri 0 σ)) else (
none))) else (
none)) := by
  unfold zx
  have hm := zexec_m zX2 zMT d
  refine (zexec_eq mt_189 _ rfl (LAY, σ) 0).trans ?_
  show zrunL zX2 (zexec zX2 zMT d) K_X12_endsAt U_X12_endsAt 0 [some (.inl (some 57)), some (.inr (.inl x1)), some (.inr (.inl x2))] [] (LAY, σ) = _
  refine (zq_aln hm (pc' := 1) rfl rfl rfl rfl).trans ?_
  refine (zq_gr hm (pc' := 4) rfl lay_57 rfl rfl).trans ?_
  refine (zJ_n rfl).trans ?_
  refine (zq_iln hm (pc' := 5) rfl rfl rfl rfl).trans ?_
  refine (zq_ia hm (v := (σ 58 x1)) (pc' := 6) rfl lay_58 rfl rfl).trans (zite ?_ rfl)
  refine (zJ_n rfl).trans ?_
  refine (zq_iln hm (pc' := 7) rfl rfl rfl rfl).trans ?_
  refine (zq_ieq hm (pc' := 10) rfl rfl).trans (zite ?_ ?_)
  · refine (zJ_n rfl).trans ?_
    refine (zq_ic hm (pc' := 21) rfl rfl rfl rfl).trans ?_
    refine (zq_goto hm rfl rfl).trans ?_
    exact (zq_rb hm rfl rfl).trans (zif1 (by decide))
  · refine (zJ_n rfl).trans ?_
    refine (zq_aln hm (pc' := 11) rfl rfl rfl rfl).trans ?_
    refine (zq_gr hm (pc' := 14) rfl lay_57 rfl rfl).trans ?_
    refine (zJ_n rfl).trans ?_
    refine (zq_iln hm (pc' := 15) rfl rfl rfl rfl).trans ?_
    refine (zq_ia hm (v := (σ 59 x1)) (pc' := 16) rfl lay_59 rfl rfl).trans (zite ?_ rfl)
    refine (zJ_n rfl).trans ?_
    refine (zq_iln hm (pc' := 17) rfl rfl rfl rfl).trans ?_
    refine (zq_ine hm (pc' := 20) rfl rfl).trans (zite ?_ ?_)
    · refine (zJ_n rfl).trans ?_
      refine (zq_ic hm (pc' := 21) rfl rfl rfl rfl).trans ?_
      refine (zq_goto hm rfl rfl).trans ?_
      exact (zq_rb hm rfl rfl).trans (zif1 (by decide))
    · refine (zJ_n rfl).trans ?_
      refine (zq_ic hm (pc' := 25) rfl rfl rfl rfl).trans ?_
      exact (zq_rb hm rfl rfl).trans (zif1 (by decide))
noncomputable def P_X12_knots_4 (d : Nat) (y1 : Int) (y2 : Int) (y3 : Int) (σ : zF) : Option zR := zrunL zX2 (zexec zX2 zMT d) K_X12_knots U_X12_knots 4 [some (.inl (some 57)), some (.inr (.inl y1)), some (.inr (.inl y2)), some (.inr (.inl y3))] [] (LAY, σ)
set_option maxRecDepth 100000 in
set_option maxHeartbeats 4000000 in
theorem e_X12_knots (d : Nat) (x1 : Int) (σ : zF) : zx (d + 1) 190 [.inl (some 57), .inr (.inl x1)] σ = (
P_X12_knots_4 d x1 0 0 σ) := by
  unfold zx
  have hm := zexec_m zX2 zMT d
  refine (zexec_eq mt_190 _ rfl (LAY, σ) 0).trans ?_
  show zrunL zX2 (zexec zX2 zMT d) K_X12_knots U_X12_knots 0 [some (.inl (some 57)), some (.inr (.inl x1)), none, none] [] (LAY, σ) = _
  refine (zq_ic hm (pc' := 1) rfl rfl rfl rfl).trans ?_
  refine (zq_isn hm (ls' := [some (.inl (some 57)), some (.inr (.inl x1)), some (.inr (.inl 0)), none]) (pc' := 2) rfl rfl rfl rfl).trans ?_
  refine (zq_ic hm (pc' := 3) rfl rfl rfl rfl).trans ?_
  exact (zc_isn hm (ls' := [some (.inl (some 57)), some (.inr (.inl x1)), some (.inr (.inl 0)), some (.inr (.inl 0))]) (pc' := 4) rfl rfl rfl rfl).trans rfl
set_option maxRecDepth 100000 in
set_option maxHeartbeats 4000000 in
theorem e_X12_knots_4 (d : Nat) (y1 : Int) (y2 : Int) (y3 : Int) (σ : zF) : P_X12_knots_4 d y1 y2 y3 σ = (
if y3 < (σ 57 0) then (
if y3 = y1 then (
P_X12_knots_4 d y1 y2 (zw (y3 + 1)) σ) else (
zCI LAY (zx d 188 [.inl (some 57), .inr (.inl y3)] σ) fun r102 s101 =>
if r102 = 0 then (
if 0 ≤ y1 ∧ y1 < 12 then (
zCI LAY (zx d 189 [.inl (some 57), .inr (.inl y3), .inr (.inl (s101 58 y1))] s101) fun r104 s103 =>
if r104 = 0 then (
if 0 ≤ y1 ∧ y1 < 12 then (
zCI LAY (zx d 189 [.inl (some 57), .inr (.inl y3), .inr (.inl (s103 59 y1))] s103) fun r106 s105 =>
if r106 = 0 then (
P_X12_knots_4 d y1 y2 (zw (y3 + 1)) s105) else (
P_X12_knots_4 d y1 (zw (y2 + 1)) (zw (y3 + 1)) s105)) else (
none)) else (
P_X12_knots_4 d y1 (zw (y2 + 1)) (zw (y3 + 1)) s103)) else (
none)) else (
P_X12_knots_4 d y1 y2 (zw (y3 + 1)) s101))) else (
zri y2 σ)) := by
  have hm := zexec_m zX2 zMT d
  show zrunL zX2 (zexec zX2 zMT d) K_X12_knots U_X12_knots 4 [some (.inl (some 57)), some (.inr (.inl y1)), some (.inr (.inl y2)), some (.inr (.inl y3))] [] (LAY, σ) = _
  refine (zq_iln hm (pc' := 5) rfl rfl rfl rfl).trans ?_
  refine (zq_aln hm (pc' := 6) rfl rfl rfl rfl).trans ?_
  refine (zq_gf hm (v := (σ 57 0)) (pc' := 9) rfl lay_57 rfl rfl rfl).trans ?_
  refine (zJ_n rfl).trans ?_
  refine (zq_ige hm (pc' := 12) rfl rfl).trans (zite ?_ ?_)
  · refine (zJ_n rfl).trans ?_
    refine (zq_iln hm (pc' := 13) rfl rfl rfl rfl).trans ?_
    refine (zq_iln hm (pc' := 14) rfl rfl rfl rfl).trans ?_
    refine (zq_ieq hm (pc' := 17) rfl rfl).trans (zite ?_ ?_)
    · refine (zJ_n rfl).trans ?_
      refine (zq_iinc hm (ls' := [some (.inl (some 57)), some (.inr (.inl y1)), some (.inr (.inl y2)), some (.inr (.inl (zw (y3 + 1))))]) (pc' := 59) rfl rfl rfl rfl rfl rfl).trans ?_
      exact (zc_goto hm rfl rfl).trans rfl
    · refine (zJ_n rfl).trans ?_
      refine (zq_aln hm (pc' := 18) rfl rfl rfl rfl).trans ?_
      refine (zq_iln hm (pc' := 19) rfl rfl rfl rfl).trans ?_
      refine (zq_v1 hm (pc' := 22) rfl rfl rfl (cls_57_12) rfl rfl).trans (zCI_c rfl (fun r102 s101 => ?_))
      refine (zJ_n rfl).trans ?_
      refine (zq_zne hm (pc' := 25) rfl rfl).trans (zite ?_ ?_)
      · refine (zJ_n rfl).trans ?_
        refine (zq_aln hm (pc' := 26) rfl rfl rfl rfl).trans ?_
        refine (zq_iln hm (pc' := 27) rfl rfl rfl rfl).trans ?_
        refine (zq_aln hm (pc' := 28) rfl rfl rfl rfl).trans ?_
        refine (zq_gr hm (pc' := 31) rfl lay_57 rfl rfl).trans ?_
        refine (zJ_n rfl).trans ?_
        refine (zq_iln hm (pc' := 32) rfl rfl rfl rfl).trans ?_
        refine (zq_ia hm (v := (s101 58 y1)) (pc' := 33) rfl lay_58 rfl rfl).trans (zite ?_ rfl)
        refine (zJ_n rfl).trans ?_
        refine (zq_v1 hm (pc' := 36) rfl rfl rfl (cls_57_12) rfl rfl).trans (zCI_c rfl (fun r104 s103 => ?_))
        refine (zJ_n rfl).trans ?_
        refine (zq_zne hm (pc' := 39) rfl rfl).trans (zite ?_ ?_)
        · refine (zJ_n rfl).trans ?_
          refine (zq_aln hm (pc' := 40) rfl rfl rfl rfl).trans ?_
          refine (zq_iln hm (pc' := 41) rfl rfl rfl rfl).trans ?_
          refine (zq_aln hm (pc' := 42) rfl rfl rfl rfl).trans ?_
          refine (zq_gr hm (pc' := 45) rfl lay_57 rfl rfl).trans ?_
          refine (zJ_n rfl).trans ?_
          refine (zq_iln hm (pc' := 46) rfl rfl rfl rfl).trans ?_
          refine (zq_ia hm (v := (s103 59 y1)) (pc' := 47) rfl lay_59 rfl rfl).trans (zite ?_ rfl)
          refine (zJ_n rfl).trans ?_
          refine (zq_v1 hm (pc' := 50) rfl rfl rfl (cls_57_12) rfl rfl).trans (zCI_c rfl (fun r106 s105 => ?_))
          refine (zJ_n rfl).trans ?_
          refine (zq_zeq hm (pc' := 53) rfl rfl).trans (zite ?_ ?_)
          · refine (zJ_n rfl).trans ?_
            refine (zq_iinc hm (ls' := [some (.inl (some 57)), some (.inr (.inl y1)), some (.inr (.inl y2)), some (.inr (.inl (zw (y3 + 1))))]) (pc' := 59) rfl rfl rfl rfl rfl rfl).trans ?_
            exact (zc_goto hm rfl rfl).trans rfl
          · refine (zJ_n rfl).trans ?_
            refine (zq_iinc hm (ls' := [some (.inl (some 57)), some (.inr (.inl y1)), some (.inr (.inl (zw (y2 + 1)))), some (.inr (.inl y3))]) (pc' := 56) rfl rfl rfl rfl rfl rfl).trans ?_
            refine (zq_iinc hm (ls' := [some (.inl (some 57)), some (.inr (.inl y1)), some (.inr (.inl (zw (y2 + 1)))), some (.inr (.inl (zw (y3 + 1))))]) (pc' := 59) rfl rfl rfl rfl rfl rfl).trans ?_
            exact (zc_goto hm rfl rfl).trans rfl
        · refine (zJ_n rfl).trans ?_
          refine (zq_iinc hm (ls' := [some (.inl (some 57)), some (.inr (.inl y1)), some (.inr (.inl (zw (y2 + 1)))), some (.inr (.inl y3))]) (pc' := 56) rfl rfl rfl rfl rfl rfl).trans ?_
          refine (zq_iinc hm (ls' := [some (.inl (some 57)), some (.inr (.inl y1)), some (.inr (.inl (zw (y2 + 1)))), some (.inr (.inl (zw (y3 + 1))))]) (pc' := 59) rfl rfl rfl rfl rfl rfl).trans ?_
          exact (zc_goto hm rfl rfl).trans rfl
      · refine (zJ_n rfl).trans ?_
        refine (zq_iinc hm (ls' := [some (.inl (some 57)), some (.inr (.inl y1)), some (.inr (.inl y2)), some (.inr (.inl (zw (y3 + 1))))]) (pc' := 59) rfl rfl rfl rfl rfl rfl).trans ?_
        exact (zc_goto hm rfl rfl).trans rfl
  · refine (zJ_n rfl).trans ?_
    refine (zq_iln hm (pc' := 63) rfl rfl rfl rfl).trans ?_
    exact zq_ri hm rfl rfl
noncomputable def P_X12_byLaw_103 (d : Nat) (y1 : Int) (σ : zF) : Option zR := zrunL zX2 (zexec zX2 zMT d) K_X12_byLaw U_X12_byLaw 103 [some (.inl (some 57)), none, some (.inr (.inl y1))] [] (LAY, σ)
set_option maxRecDepth 100000 in
set_option maxHeartbeats 4000000 in
theorem e_X12_byLaw (d : Nat) (x1 : Int) (σ : zF) : zx (d + 1) 191 [.inl (some 57), .inr (.inl x1)] σ = (
if 0 ≤ x1 ∧ x1 < 48 then (
if 0 ≤ (0 : Int) ∧ 0 < 6 then (
if 0 ≤ zw (12 + x1) ∧ zw (12 + x1) < 48 then (
if 0 ≤ (1 : Int) ∧ 1 < 6 then (
if 0 ≤ zw (24 + x1) ∧ zw (24 + x1) < 48 then (
if (σ 60 (zw (24 + x1))) < 0 then (
if 0 ≤ (2 : Int) ∧ 2 < 6 then (
if 0 ≤ (4 : Int) ∧ 4 < 5 then (
if 0 ≤ (3 : Int) ∧ 3 < 6 then (
if 0 ≤ (4 : Int) ∧ 4 < 6 then (
zCI LAY (zx d 190 [.inl (some 57), .inr (.inl x1)] (zset (zset (zset (zset (zset σ 73 0 (σ 60 x1)) 73 1 (σ 60 (zw (12 + x1)))) 73 2 0) 73 3 (zmin 99 (σ 74 4))) 73 4 x1)) fun r4 s3 =>
if 0 ≤ (5 : Int) ∧ 5 < 6 then (
P_X12_byLaw_103 d 0 (zset s3 73 5 r4)) else (
none)) else (
none)) else (
none)) else (
none)) else (
none)) else (
if 0 ≤ zw (24 + x1) ∧ zw (24 + x1) < 48 then (
if 0 ≤ zw (12 + (σ 60 (zw (24 + x1)))) ∧ zw (12 + (σ 60 (zw (24 + x1)))) < 48 then (
if 0 ≤ (2 : Int) ∧ 2 < 6 then (
if 0 ≤ (4 : Int) ∧ 4 < 5 then (
if 0 ≤ (3 : Int) ∧ 3 < 6 then (
if 0 ≤ (4 : Int) ∧ 4 < 6 then (
zCI LAY (zx d 190 [.inl (some 57), .inr (.inl x1)] (zset (zset (zset (zset (zset σ 73 0 (σ 60 x1)) 73 1 (σ 60 (zw (12 + x1)))) 73 2 (σ 60 (zw (12 + (σ 60 (zw (24 + x1))))))) 73 3 (zmin 99 (σ 74 4))) 73 4 x1)) fun r2 s1 =>
if 0 ≤ (5 : Int) ∧ 5 < 6 then (
P_X12_byLaw_103 d 0 (zset s1 73 5 r2)) else (
none)) else (
none)) else (
none)) else (
none)) else (
none)) else (
none)) else (
none))) else (
none)) else (
none)) else (
none)) else (
none)) else (
none)) := by
  unfold zx
  have hm := zexec_m zX2 zMT d
  refine (zexec_eq mt_191 _ rfl (LAY, σ) 0).trans ?_
  show zrunL zX2 (zexec zX2 zMT d) K_X12_byLaw U_X12_byLaw 0 [some (.inl (some 57)), some (.inr (.inl x1)), none] [] (LAY, σ) = _
  refine (zq_aln hm (pc' := 1) rfl rfl rfl rfl).trans ?_
  refine (zq_gr hm (pc' := 4) rfl lay_57 rfl rfl).trans ?_
  refine (zJ_n rfl).trans ?_
  refine (zq_ic hm (pc' := 5) rfl rfl rfl rfl).trans ?_
  refine (zq_aln hm (pc' := 6) rfl rfl rfl rfl).trans ?_
  refine (zq_gr hm (pc' := 9) rfl lay_57 rfl rfl).trans ?_
  refine (zJ_n rfl).trans ?_
  refine (zq_iln hm (pc' := 10) rfl rfl rfl rfl).trans ?_
  refine (zq_ia hm (v := (σ 60 x1)) (pc' := 11) rfl lay_60 rfl rfl).trans (zite ?_ rfl)
  refine (zJ_n rfl).trans ?_
  refine (zq_ist hm (pc' := 12) rfl lay_73 rfl).trans (zite ?_ rfl)
  refine (zJ_n rfl).trans ?_
  refine (zq_aln hm (pc' := 13) rfl rfl rfl rfl).trans ?_
  refine (zq_gr hm (pc' := 16) rfl lay_57 rfl rfl).trans ?_
  refine (zJ_n rfl).trans ?_
  refine (zq_ic hm (pc' := 17) rfl rfl rfl rfl).trans ?_
  refine (zq_aln hm (pc' := 18) rfl rfl rfl rfl).trans ?_
  refine (zq_gr hm (pc' := 21) rfl lay_57 rfl rfl).trans ?_
  refine (zJ_n rfl).trans ?_
  refine (zq_bi hm (pc' := 23) rfl rfl rfl rfl).trans ?_
  refine (zq_iln hm (pc' := 24) rfl rfl rfl rfl).trans ?_
  refine (zq_iadd hm (pc' := 25) rfl rfl rfl).trans ?_
  refine (zq_ia hm (v := (σ 60 (zw (12 + x1)))) (pc' := 26) rfl lay_60 (zsn rfl) rfl).trans (zite ?_ rfl)
  refine (zJ_n rfl).trans ?_
  refine (zq_ist hm (pc' := 27) rfl lay_73 rfl).trans (zite ?_ rfl)
  refine (zJ_n rfl).trans ?_
  refine (zq_aln hm (pc' := 28) rfl rfl rfl rfl).trans ?_
  refine (zq_gr hm (pc' := 31) rfl lay_57 rfl rfl).trans ?_
  refine (zJ_n rfl).trans ?_
  refine (zq_ic hm (pc' := 32) rfl rfl rfl rfl).trans ?_
  refine (zq_aln hm (pc' := 33) rfl rfl rfl rfl).trans ?_
  refine (zq_gr hm (pc' := 36) rfl lay_57 rfl rfl).trans ?_
  refine (zJ_n rfl).trans ?_
  refine (zq_bi hm (pc' := 38) rfl rfl rfl rfl).trans ?_
  refine (zq_iln hm (pc' := 39) rfl rfl rfl rfl).trans ?_
  refine (zq_iadd hm (pc' := 40) rfl rfl rfl).trans ?_
  refine (zq_ia hm (v := (σ 60 (zw (24 + x1)))) (pc' := 41) rfl lay_60 ((zsn rfl).trans (zsn rfl)) rfl).trans (zite ?_ rfl)
  refine (zJ_n rfl).trans ?_
  refine (zq_zge hm (pc' := 44) rfl rfl).trans (zite ?_ ?_)
  · refine (zJ_n rfl).trans ?_
    refine (zq_ic hm (pc' := 45) rfl rfl rfl rfl).trans ?_
    refine (zq_goto hm rfl rfl).trans ?_
    refine (zq_ist hm (pc' := 66) rfl lay_73 rfl).trans (zite ?_ rfl)
    refine (zJ_n rfl).trans ?_
    refine (zq_aln hm (pc' := 67) rfl rfl rfl rfl).trans ?_
    refine (zq_gr hm (pc' := 70) rfl lay_57 rfl rfl).trans ?_
    refine (zJ_n rfl).trans ?_
    refine (zq_ic hm (pc' := 71) rfl rfl rfl rfl).trans ?_
    refine (zq_bi hm (pc' := 73) rfl rfl rfl rfl).trans ?_
    refine (zq_aln hm (pc' := 74) rfl rfl rfl rfl).trans ?_
    refine (zq_gr hm (pc' := 77) rfl lay_57 rfl rfl).trans ?_
    refine (zJ_n rfl).trans ?_
    refine (zq_ic hm (pc' := 78) rfl rfl rfl rfl).trans ?_
    refine (zq_ia hm (v := (σ 74 4)) (pc' := 79) rfl lay_74 ((zsn rfl).trans ((zsn rfl).trans (zsn rfl))) rfl).trans (zite ?_ rfl)
    refine (zJ_n rfl).trans ?_
    refine (zq_min hm (pc' := 82) rfl rfl rfl rfl).trans ?_
    refine (zJ_n rfl).trans ?_
    refine (zq_ist hm (pc' := 83) rfl lay_73 rfl).trans (zite ?_ rfl)
    refine (zJ_n rfl).trans ?_
    refine (zq_aln hm (pc' := 84) rfl rfl rfl rfl).trans ?_
    refine (zq_gr hm (pc' := 87) rfl lay_57 rfl rfl).trans ?_
    refine (zJ_n rfl).trans ?_
    refine (zq_ic hm (pc' := 88) rfl rfl rfl rfl).trans ?_
    refine (zq_iln hm (pc' := 89) rfl rfl rfl rfl).trans ?_
    refine (zq_ist hm (pc' := 90) rfl lay_73 rfl).trans (zite ?_ rfl)
    refine (zJ_n rfl).trans ?_
    refine (zq_aln hm (pc' := 91) rfl rfl rfl rfl).trans ?_
    refine (zq_gr hm (pc' := 94) rfl lay_57 rfl rfl).trans ?_
    refine (zJ_n rfl).trans ?_
    refine (zq_ic hm (pc' := 95) rfl rfl rfl rfl).trans ?_
    refine (zq_aln hm (pc' := 96) rfl rfl rfl rfl).trans ?_
    refine (zq_iln hm (pc' := 97) rfl rfl rfl rfl).trans ?_
    refine (zq_v1 hm (pc' := 100) rfl rfl rfl (cls_57_12) rfl rfl).trans (zCI_c rfl (fun r4 s3 => ?_))
    refine (zJ_n rfl).trans ?_
    refine (zq_ist hm (pc' := 101) rfl lay_73 rfl).trans (zite ?_ rfl)
    refine (zJ_n rfl).trans ?_
    refine (zq_ic hm (pc' := 102) rfl rfl rfl rfl).trans ?_
    exact (zc_isn hm (ls' := [some (.inl (some 57)), some (.inr (.inl x1)), some (.inr (.inl 0))]) (pc' := 103) rfl rfl rfl rfl).trans rfl
  · refine (zJ_n rfl).trans ?_
    refine (zq_aln hm (pc' := 49) rfl rfl rfl rfl).trans ?_
    refine (zq_gr hm (pc' := 52) rfl lay_57 rfl rfl).trans ?_
    refine (zJ_n rfl).trans ?_
    refine (zq_bi hm (pc' := 54) rfl rfl rfl rfl).trans ?_
    refine (zq_aln hm (pc' := 55) rfl rfl rfl rfl).trans ?_
    refine (zq_gr hm (pc' := 58) rfl lay_57 rfl rfl).trans ?_
    refine (zJ_n rfl).trans ?_
    refine (zq_bi hm (pc' := 60) rfl rfl rfl rfl).trans ?_
    refine (zq_iln hm (pc' := 61) rfl rfl rfl rfl).trans ?_
    refine (zq_iadd hm (pc' := 62) rfl rfl rfl).trans ?_
    refine (zq_ia hm (v := (σ 60 (zw (24 + x1)))) (pc' := 63) rfl lay_60 ((zsn rfl).trans (zsn rfl)) rfl).trans (zite ?_ rfl)
    refine (zJ_n rfl).trans ?_
    refine (zq_iadd hm (pc' := 64) rfl rfl rfl).trans ?_
    refine (zq_ia hm (v := (σ 60 (zw (12 + (σ 60 (zw (24 + x1))))))) (pc' := 65) rfl lay_60 ((zsn rfl).trans (zsn rfl)) rfl).trans (zite ?_ rfl)
    refine (zJ_n rfl).trans ?_
    refine (zq_ist hm (pc' := 66) rfl lay_73 rfl).trans (zite ?_ rfl)
    refine (zJ_n rfl).trans ?_
    refine (zq_aln hm (pc' := 67) rfl rfl rfl rfl).trans ?_
    refine (zq_gr hm (pc' := 70) rfl lay_57 rfl rfl).trans ?_
    refine (zJ_n rfl).trans ?_
    refine (zq_ic hm (pc' := 71) rfl rfl rfl rfl).trans ?_
    refine (zq_bi hm (pc' := 73) rfl rfl rfl rfl).trans ?_
    refine (zq_aln hm (pc' := 74) rfl rfl rfl rfl).trans ?_
    refine (zq_gr hm (pc' := 77) rfl lay_57 rfl rfl).trans ?_
    refine (zJ_n rfl).trans ?_
    refine (zq_ic hm (pc' := 78) rfl rfl rfl rfl).trans ?_
    refine (zq_ia hm (v := (σ 74 4)) (pc' := 79) rfl lay_74 ((zsn rfl).trans ((zsn rfl).trans (zsn rfl))) rfl).trans (zite ?_ rfl)
    refine (zJ_n rfl).trans ?_
    refine (zq_min hm (pc' := 82) rfl rfl rfl rfl).trans ?_
    refine (zJ_n rfl).trans ?_
    refine (zq_ist hm (pc' := 83) rfl lay_73 rfl).trans (zite ?_ rfl)
    refine (zJ_n rfl).trans ?_
    refine (zq_aln hm (pc' := 84) rfl rfl rfl rfl).trans ?_
    refine (zq_gr hm (pc' := 87) rfl lay_57 rfl rfl).trans ?_
    refine (zJ_n rfl).trans ?_
    refine (zq_ic hm (pc' := 88) rfl rfl rfl rfl).trans ?_
    refine (zq_iln hm (pc' := 89) rfl rfl rfl rfl).trans ?_
    refine (zq_ist hm (pc' := 90) rfl lay_73 rfl).trans (zite ?_ rfl)
    refine (zJ_n rfl).trans ?_
    refine (zq_aln hm (pc' := 91) rfl rfl rfl rfl).trans ?_
    refine (zq_gr hm (pc' := 94) rfl lay_57 rfl rfl).trans ?_
    refine (zJ_n rfl).trans ?_
    refine (zq_ic hm (pc' := 95) rfl rfl rfl rfl).trans ?_
    refine (zq_aln hm (pc' := 96) rfl rfl rfl rfl).trans ?_
    refine (zq_iln hm (pc' := 97) rfl rfl rfl rfl).trans ?_
    refine (zq_v1 hm (pc' := 100) rfl rfl rfl (cls_57_12) rfl rfl).trans (zCI_c rfl (fun r2 s1 => ?_))
    refine (zJ_n rfl).trans ?_
    refine (zq_ist hm (pc' := 101) rfl lay_73 rfl).trans (zite ?_ rfl)
    refine (zJ_n rfl).trans ?_
    refine (zq_ic hm (pc' := 102) rfl rfl rfl rfl).trans ?_
    exact (zc_isn hm (ls' := [some (.inl (some 57)), some (.inr (.inl x1)), some (.inr (.inl 0))]) (pc' := 103) rfl rfl rfl rfl).trans rfl
set_option maxRecDepth 100000 in
set_option maxHeartbeats 4000000 in
theorem e_X12_byLaw_103 (d : Nat) (y1 : Int) (σ : zF) : P_X12_byLaw_103 d y1 σ = (
if y1 < (σ 57 10) then (
if 0 ≤ y1 ∧ y1 < 60 then (
if 0 ≤ y1 ∧ y1 < 60 then (
if (σ 64 y1) < (σ 65 y1) then (
if 0 ≤ y1 ∧ y1 < 60 then (
if 0 ≤ y1 ∧ y1 < 60 then (
zCI LAY (zx d 187 [.inl (some 57), .inr (.inl (σ 64 y1)), .inr (.inl (σ 65 y1))] σ) fun r104 s103 =>
if r104 = 0 then (
P_X12_byLaw_103 d (zw (y1 + 1)) s103) else (
if 0 ≤ y1 ∧ y1 < 60 then (
if 0 ≤ y1 ∧ y1 < 60 then (
zCI LAY (zx d 187 [.inl (some 57), .inr (.inl (s103 65 y1)), .inr (.inl (s103 66 y1))] s103) fun r106 s105 =>
zri r106 s105) else (
none)) else (
none))) else (
none)) else (
none)) else (
if 0 ≤ y1 ∧ y1 < 60 then (
if 0 ≤ y1 ∧ y1 < 60 then (
zCI LAY (zx d 187 [.inl (some 57), .inr (.inl (σ 65 y1)), .inr (.inl (σ 66 y1))] σ) fun r102 s101 =>
zri r102 s101) else (
none)) else (
none))) else (
none)) else (
none)) else (
zri 0 σ)) := by
  have hm := zexec_m zX2 zMT d
  show zrunL zX2 (zexec zX2 zMT d) K_X12_byLaw U_X12_byLaw 103 [some (.inl (some 57)), none, some (.inr (.inl y1))] [] (LAY, σ) = _
  refine (zq_iln hm (pc' := 104) rfl rfl rfl rfl).trans ?_
  refine (zq_aln hm (pc' := 105) rfl rfl rfl rfl).trans ?_
  refine (zq_gf hm (v := (σ 57 10)) (pc' := 108) rfl lay_57 rfl rfl rfl).trans ?_
  refine (zJ_n rfl).trans ?_
  refine (zq_ige hm (pc' := 111) rfl rfl).trans (zite ?_ ?_)
  · refine (zJ_n rfl).trans ?_
    refine (zq_aln hm (pc' := 112) rfl rfl rfl rfl).trans ?_
    refine (zq_gr hm (pc' := 115) rfl lay_57 rfl rfl).trans ?_
    refine (zJ_n rfl).trans ?_
    refine (zq_iln hm (pc' := 116) rfl rfl rfl rfl).trans ?_
    refine (zq_ia hm (v := (σ 65 y1)) (pc' := 117) rfl lay_65 rfl rfl).trans (zite ?_ rfl)
    refine (zJ_n rfl).trans ?_
    refine (zq_aln hm (pc' := 118) rfl rfl rfl rfl).trans ?_
    refine (zq_gr hm (pc' := 121) rfl lay_57 rfl rfl).trans ?_
    refine (zJ_n rfl).trans ?_
    refine (zq_iln hm (pc' := 122) rfl rfl rfl rfl).trans ?_
    refine (zq_ia hm (v := (σ 64 y1)) (pc' := 123) rfl lay_64 rfl rfl).trans (zite ?_ rfl)
    refine (zJ_n rfl).trans ?_
    refine (zq_ile hm (pc' := 126) rfl rfl).trans (zite ?_ ?_)
    · refine (zJ_n rfl).trans ?_
      refine (zq_aln hm (pc' := 127) rfl rfl rfl rfl).trans ?_
      refine (zq_aln hm (pc' := 128) rfl rfl rfl rfl).trans ?_
      refine (zq_gr hm (pc' := 131) rfl lay_57 rfl rfl).trans ?_
      refine (zJ_n rfl).trans ?_
      refine (zq_iln hm (pc' := 132) rfl rfl rfl rfl).trans ?_
      refine (zq_ia hm (v := (σ 64 y1)) (pc' := 133) rfl lay_64 rfl rfl).trans (zite ?_ rfl)
      refine (zJ_n rfl).trans ?_
      refine (zq_aln hm (pc' := 134) rfl rfl rfl rfl).trans ?_
      refine (zq_gr hm (pc' := 137) rfl lay_57 rfl rfl).trans ?_
      refine (zJ_n rfl).trans ?_
      refine (zq_iln hm (pc' := 138) rfl rfl rfl rfl).trans ?_
      refine (zq_ia hm (v := (σ 65 y1)) (pc' := 139) rfl lay_65 rfl rfl).trans (zite ?_ rfl)
      refine (zJ_n rfl).trans ?_
      refine (zq_v1 hm (pc' := 142) rfl rfl rfl (cls_57_12) rfl rfl).trans (zCI_c rfl (fun r104 s103 => ?_))
      refine (zJ_n rfl).trans ?_
      refine (zq_zne hm (pc' := 145) rfl rfl).trans (zite ?_ ?_)
      · refine (zJ_n rfl).trans ?_
        refine (zq_goto hm rfl rfl).trans ?_
        refine (zq_iinc hm (ls' := [some (.inl (some 57)), none, some (.inr (.inl (zw (y1 + 1))))]) (pc' := 168) rfl rfl rfl rfl rfl rfl).trans ?_
        exact (zc_goto hm rfl rfl).trans rfl
      · refine (zJ_n rfl).trans ?_
        refine (zq_aln hm (pc' := 149) rfl rfl rfl rfl).trans ?_
        refine (zq_aln hm (pc' := 150) rfl rfl rfl rfl).trans ?_
        refine (zq_gr hm (pc' := 153) rfl lay_57 rfl rfl).trans ?_
        refine (zJ_n rfl).trans ?_
        refine (zq_iln hm (pc' := 154) rfl rfl rfl rfl).trans ?_
        refine (zq_ia hm (v := (s103 65 y1)) (pc' := 155) rfl lay_65 rfl rfl).trans (zite ?_ rfl)
        refine (zJ_n rfl).trans ?_
        refine (zq_aln hm (pc' := 156) rfl rfl rfl rfl).trans ?_
        refine (zq_gr hm (pc' := 159) rfl lay_57 rfl rfl).trans ?_
        refine (zJ_n rfl).trans ?_
        refine (zq_iln hm (pc' := 160) rfl rfl rfl rfl).trans ?_
        refine (zq_ia hm (v := (s103 66 y1)) (pc' := 161) rfl lay_66 rfl rfl).trans (zite ?_ rfl)
        refine (zJ_n rfl).trans ?_
        refine (zq_v1 hm (pc' := 164) rfl rfl rfl (cls_57_12) rfl rfl).trans (zCI_c rfl (fun r106 s105 => ?_))
        refine (zJ_n rfl).trans ?_
        exact zq_ri hm rfl rfl
    · refine (zJ_n rfl).trans ?_
      refine (zq_aln hm (pc' := 149) rfl rfl rfl rfl).trans ?_
      refine (zq_aln hm (pc' := 150) rfl rfl rfl rfl).trans ?_
      refine (zq_gr hm (pc' := 153) rfl lay_57 rfl rfl).trans ?_
      refine (zJ_n rfl).trans ?_
      refine (zq_iln hm (pc' := 154) rfl rfl rfl rfl).trans ?_
      refine (zq_ia hm (v := (σ 65 y1)) (pc' := 155) rfl lay_65 rfl rfl).trans (zite ?_ rfl)
      refine (zJ_n rfl).trans ?_
      refine (zq_aln hm (pc' := 156) rfl rfl rfl rfl).trans ?_
      refine (zq_gr hm (pc' := 159) rfl lay_57 rfl rfl).trans ?_
      refine (zJ_n rfl).trans ?_
      refine (zq_iln hm (pc' := 160) rfl rfl rfl rfl).trans ?_
      refine (zq_ia hm (v := (σ 66 y1)) (pc' := 161) rfl lay_66 rfl rfl).trans (zite ?_ rfl)
      refine (zJ_n rfl).trans ?_
      refine (zq_v1 hm (pc' := 164) rfl rfl rfl (cls_57_12) rfl rfl).trans (zCI_c rfl (fun r102 s101 => ?_))
      refine (zJ_n rfl).trans ?_
      exact zq_ri hm rfl rfl
  · refine (zJ_n rfl).trans ?_
    refine (zq_ic hm (pc' := 172) rfl rfl rfl rfl).trans ?_
    exact zq_ri hm rfl rfl
set_option maxRecDepth 100000 in
set_option maxHeartbeats 4000000 in
theorem e_X12_hoursOf (d : Nat) (x1 : Int) (σ : zF) : zx (d + 1) 192 [.inl (some 57), .inr (.inl x1)] σ = (
if (σ 57 9) = 0 then (
if 0 ≤ x1 ∧ x1 < 48 then (
if 0 ≤ zw (12 + x1) ∧ zw (12 + x1) < 48 then (
zri (zmax 1 (zmin 99 (zw ((σ 60 x1) - (σ 60 (zw (12 + x1))))))) σ) else (
none)) else (
none)) else (
zCI LAY (zx d 191 [.inl (some 57), .inr (.inl x1)] σ) fun r2 s1 =>
zri (zmax 1 (zmin 99 r2)) s1)) := by
  unfold zx
  have hm := zexec_m zX2 zMT d
  refine (zexec_eq mt_192 _ rfl (LAY, σ) 0).trans ?_
  show zrunL zX2 (zexec zX2 zMT d) K_X12_hoursOf U_X12_hoursOf 0 [some (.inl (some 57)), some (.inr (.inl x1)), none] [] (LAY, σ) = _
  refine (zq_aln hm (pc' := 1) rfl rfl rfl rfl).trans ?_
  refine (zq_gf hm (v := (σ 57 9)) (pc' := 4) rfl lay_57 rfl rfl rfl).trans ?_
  refine (zJ_n rfl).trans ?_
  refine (zq_zeq hm (pc' := 7) rfl rfl).trans (zite ?_ ?_)
  · refine (zJ_n rfl).trans ?_
    refine (zq_aln hm (pc' := 16) rfl rfl rfl rfl).trans ?_
    refine (zq_gr hm (pc' := 19) rfl lay_57 rfl rfl).trans ?_
    refine (zJ_n rfl).trans ?_
    refine (zq_iln hm (pc' := 20) rfl rfl rfl rfl).trans ?_
    refine (zq_ia hm (v := (σ 60 x1)) (pc' := 21) rfl lay_60 rfl rfl).trans (zite ?_ rfl)
    refine (zJ_n rfl).trans ?_
    refine (zq_aln hm (pc' := 22) rfl rfl rfl rfl).trans ?_
    refine (zq_gr hm (pc' := 25) rfl lay_57 rfl rfl).trans ?_
    refine (zJ_n rfl).trans ?_
    refine (zq_bi hm (pc' := 27) rfl rfl rfl rfl).trans ?_
    refine (zq_iln hm (pc' := 28) rfl rfl rfl rfl).trans ?_
    refine (zq_iadd hm (pc' := 29) rfl rfl rfl).trans ?_
    refine (zq_ia hm (v := (σ 60 (zw (12 + x1)))) (pc' := 30) rfl lay_60 rfl rfl).trans (zite ?_ rfl)
    refine (zJ_n rfl).trans ?_
    refine (zq_isub hm (pc' := 31) rfl rfl rfl).trans ?_
    refine (zq_isn hm (ls' := [some (.inl (some 57)), some (.inr (.inl x1)), some (.inr (.inl (zw ((σ 60 x1) - (σ 60 (zw (12 + x1)))))))]) (pc' := 32) rfl rfl rfl rfl).trans ?_
    refine (zq_ic hm (pc' := 33) rfl rfl rfl rfl).trans ?_
    refine (zq_bi hm (pc' := 35) rfl rfl rfl rfl).trans ?_
    refine (zq_iln hm (pc' := 36) rfl rfl rfl rfl).trans ?_
    refine (zq_min hm (pc' := 39) rfl rfl rfl rfl).trans ?_
    refine (zJ_n rfl).trans ?_
    refine (zq_max hm (pc' := 42) rfl rfl rfl rfl).trans ?_
    refine (zJ_n rfl).trans ?_
    exact zq_ri hm rfl rfl
  · refine (zJ_n rfl).trans ?_
    refine (zq_aln hm (pc' := 8) rfl rfl rfl rfl).trans ?_
    refine (zq_iln hm (pc' := 9) rfl rfl rfl rfl).trans ?_
    refine (zq_v1 hm (pc' := 12) rfl rfl rfl (cls_57_12) rfl rfl).trans (zCI_c rfl (fun r2 s1 => ?_))
    refine (zJ_n rfl).trans ?_
    refine (zq_goto hm rfl rfl).trans ?_
    refine (zq_isn hm (ls' := [some (.inl (some 57)), some (.inr (.inl x1)), some (.inr (.inl r2))]) (pc' := 32) rfl rfl rfl rfl).trans ?_
    refine (zq_ic hm (pc' := 33) rfl rfl rfl rfl).trans ?_
    refine (zq_bi hm (pc' := 35) rfl rfl rfl rfl).trans ?_
    refine (zq_iln hm (pc' := 36) rfl rfl rfl rfl).trans ?_
    refine (zq_min hm (pc' := 39) rfl rfl rfl rfl).trans ?_
    refine (zJ_n rfl).trans ?_
    refine (zq_max hm (pc' := 42) rfl rfl rfl rfl).trans ?_
    refine (zJ_n rfl).trans ?_
    exact zq_ri hm rfl rfl
noncomputable def P_X12_allHours_4 (d : Nat) (y1 : Int) (y2 : Int) (σ : zF) : Option zR := zrunL zX2 (zexec zX2 zMT d) K_X12_allHours U_X12_allHours 4 [some (.inl (some 57)), some (.inr (.inl y1)), some (.inr (.inl y2))] [] (LAY, σ)
set_option maxRecDepth 100000 in
set_option maxHeartbeats 4000000 in
theorem e_X12_allHours (d : Nat) (σ : zF) : zx (d + 1) 193 [.inl (some 57)] σ = (
P_X12_allHours_4 d 0 0 σ) := by
  unfold zx
  have hm := zexec_m zX2 zMT d
  refine (zexec_eq mt_193 _ rfl (LAY, σ) 0).trans ?_
  show zrunL zX2 (zexec zX2 zMT d) K_X12_allHours U_X12_allHours 0 [some (.inl (some 57)), none, none] [] (LAY, σ) = _
  refine (zq_ic hm (pc' := 1) rfl rfl rfl rfl).trans ?_
  refine (zq_isn hm (ls' := [some (.inl (some 57)), some (.inr (.inl 0)), none]) (pc' := 2) rfl rfl rfl rfl).trans ?_
  refine (zq_ic hm (pc' := 3) rfl rfl rfl rfl).trans ?_
  exact (zc_isn hm (ls' := [some (.inl (some 57)), some (.inr (.inl 0)), some (.inr (.inl 0))]) (pc' := 4) rfl rfl rfl rfl).trans rfl
set_option maxRecDepth 100000 in
set_option maxHeartbeats 4000000 in
theorem e_X12_allHours_4 (d : Nat) (y1 : Int) (y2 : Int) (σ : zF) : P_X12_allHours_4 d y1 y2 σ = (
if y2 < (σ 57 0) then (
zCI LAY (zx d 192 [.inl (some 57), .inr (.inl y2)] σ) fun r102 s101 =>
P_X12_allHours_4 d (zw (y1 + r102)) (zw (y2 + 1)) s101) else (
zri y1 σ)) := by
  have hm := zexec_m zX2 zMT d
  show zrunL zX2 (zexec zX2 zMT d) K_X12_allHours U_X12_allHours 4 [some (.inl (some 57)), some (.inr (.inl y1)), some (.inr (.inl y2))] [] (LAY, σ) = _
  refine (zq_iln hm (pc' := 5) rfl rfl rfl rfl).trans ?_
  refine (zq_aln hm (pc' := 6) rfl rfl rfl rfl).trans ?_
  refine (zq_gf hm (v := (σ 57 0)) (pc' := 9) rfl lay_57 rfl rfl rfl).trans ?_
  refine (zJ_n rfl).trans ?_
  refine (zq_ige hm (pc' := 12) rfl rfl).trans (zite ?_ ?_)
  · refine (zJ_n rfl).trans ?_
    refine (zq_iln hm (pc' := 13) rfl rfl rfl rfl).trans ?_
    refine (zq_aln hm (pc' := 14) rfl rfl rfl rfl).trans ?_
    refine (zq_iln hm (pc' := 15) rfl rfl rfl rfl).trans ?_
    refine (zq_v1 hm (pc' := 18) rfl rfl rfl (cls_57_12) rfl rfl).trans (zCI_c rfl (fun r102 s101 => ?_))
    refine (zJ_n rfl).trans ?_
    refine (zq_iadd hm (pc' := 19) rfl rfl rfl).trans ?_
    refine (zq_isn hm (ls' := [some (.inl (some 57)), some (.inr (.inl (zw (y1 + r102)))), some (.inr (.inl y2))]) (pc' := 20) rfl rfl rfl rfl).trans ?_
    refine (zq_iinc hm (ls' := [some (.inl (some 57)), some (.inr (.inl (zw (y1 + r102)))), some (.inr (.inl (zw (y2 + 1))))]) (pc' := 23) rfl rfl rfl rfl rfl rfl).trans ?_
    exact (zc_goto hm rfl rfl).trans rfl
  · refine (zJ_n rfl).trans ?_
    refine (zq_iln hm (pc' := 27) rfl rfl rfl rfl).trans ?_
    exact zq_ri hm rfl rfl
set_option maxRecDepth 100000 in
set_option maxHeartbeats 4000000 in
theorem e_X12_hours (d : Nat) (x1 : Int) (σ : zF) : zx (d + 1) 194 [.inl (some 57), .inr (.inl x1)] σ = (
if x1 = (-1) then (
zCI LAY (zx d 193 [.inl (some 57)] σ) fun r6 s5 =>
zri r6 s5) else (
zCI LAY (zx d 154 [.inl (some 57), .inr (.inl x1)] σ) fun r2 s1 =>
if r2 = 0 then (
zri (-1) s1) else (
zCI LAY (zx d 192 [.inl (some 57), .inr (.inl x1)] s1) fun r4 s3 =>
zri r4 s3))) := by
  unfold zx
  have hm := zexec_m zX2 zMT d
  refine (zexec_eq mt_194 _ rfl (LAY, σ) 0).trans ?_
  show zrunL zX2 (zexec zX2 zMT d) K_X12_hours U_X12_hours 0 [some (.inl (some 57)), some (.inr (.inl x1))] [] (LAY, σ) = _
  refine (zq_iln hm (pc' := 1) rfl rfl rfl rfl).trans ?_
  refine (zq_ic hm (pc' := 2) rfl rfl rfl rfl).trans ?_
  refine (zq_ine hm (pc' := 5) rfl rfl).trans (zite ?_ ?_)
  · refine (zJ_n rfl).trans ?_
    refine (zq_aln hm (pc' := 6) rfl rfl rfl rfl).trans ?_
    refine (zq_v1 hm (pc' := 9) rfl rfl rfl (cls_57_12) rfl rfl).trans (zCI_c rfl (fun r6 s5 => ?_))
    refine (zJ_n rfl).trans ?_
    refine (zq_goto hm rfl rfl).trans ?_
    exact zq_ri hm rfl rfl
  · refine (zJ_n rfl).trans ?_
    refine (zq_aln hm (pc' := 13) rfl rfl rfl rfl).trans ?_
    refine (zq_iln hm (pc' := 14) rfl rfl rfl rfl).trans ?_
    refine (zq_v1 hm (pc' := 17) rfl rfl rfl (cls_57_12) rfl rfl).trans (zCI_c rfl (fun r2 s1 => ?_))
    refine (zJ_n rfl).trans ?_
    refine (zq_zeq hm (pc' := 20) rfl rfl).trans (zite ?_ ?_)
    · refine (zJ_n rfl).trans ?_
      refine (zq_ic hm (pc' := 29) rfl rfl rfl rfl).trans ?_
      exact zq_ri hm rfl rfl
    · refine (zJ_n rfl).trans ?_
      refine (zq_aln hm (pc' := 21) rfl rfl rfl rfl).trans ?_
      refine (zq_iln hm (pc' := 22) rfl rfl rfl rfl).trans ?_
      refine (zq_v1 hm (pc' := 25) rfl rfl rfl (cls_57_12) rfl rfl).trans (zCI_c rfl (fun r4 s3 => ?_))
      refine (zJ_n rfl).trans ?_
      refine (zq_goto hm rfl rfl).trans ?_
      exact zq_ri hm rfl rfl
set_option maxRecDepth 100000 in
set_option maxHeartbeats 4000000 in
theorem e_X12_held (d : Nat) (x0 : Int) (σ : zF) : zx (d + 1) 195 [.inr (.inl x0)] σ = (
zri (zmax (-9) (zmin 9 x0)) σ) := by
  unfold zx
  have hm := zexec_m zX2 zMT d
  refine (zexec_eq mt_195 _ rfl (LAY, σ) 0).trans ?_
  show zrunL zX2 (zexec zX2 zMT d) K_X12_held U_X12_held 0 [some (.inr (.inl x0))] [] (LAY, σ) = _
  refine (zq_bi hm (pc' := 2) rfl rfl rfl rfl).trans ?_
  refine (zq_bi hm (pc' := 4) rfl rfl rfl rfl).trans ?_
  refine (zq_iln hm (pc' := 5) rfl rfl rfl rfl).trans ?_
  refine (zq_min hm (pc' := 8) rfl rfl rfl rfl).trans ?_
  refine (zJ_n rfl).trans ?_
  refine (zq_max hm (pc' := 11) rfl rfl rfl rfl).trans ?_
  refine (zJ_n rfl).trans ?_
  exact zq_ri hm rfl rfl
noncomputable def P_X12_word_30 (d : Nat) (y1 : Int) (y2 : Int) (σ : zF) : Option zR := zrunL zX2 (zexec zX2 zMT d) K_X12_word U_X12_word 30 [some (.inl (some 57)), some (.inr (.inl y1)), none, some (.inr (.inl y2))] [] (LAY, σ)
set_option maxRecDepth 100000 in
set_option maxHeartbeats 4000000 in
theorem e_X12_word (d : Nat) (x1 : Int) (x2 : Int) (σ : zF) : zx (d + 1) 196 [.inl (some 57), .inr (.inl x1), .inr (.inl x2)] σ = (
if x2 = 1 then (
if 0 ≤ zw (12 + x1) ∧ zw (12 + x1) < 48 then (
zCI LAY (zx d 195 [.inr (.inl (zw ((σ 60 (zw (12 + x1))) + 1)))] σ) fun r4 s3 =>
if 0 ≤ zw (12 + x1) ∧ zw (12 + x1) < 48 then (
P_X12_word_30 d x1 0 (zset s3 60 (zw (12 + x1)) r4)) else (
none)) else (
none)) else (
if x2 = 2 then (
if 0 ≤ zw (12 + x1) ∧ zw (12 + x1) < 48 then (
zCI LAY (zx d 195 [.inr (.inl (zw ((σ 60 (zw (12 + x1))) - 2)))] σ) fun r2 s1 =>
if 0 ≤ zw (12 + x1) ∧ zw (12 + x1) < 48 then (
zrv (zset s1 60 (zw (12 + x1)) r2)) else (
none)) else (
none)) else (
zrv σ))) := by
  unfold zx
  have hm := zexec_m zX2 zMT d
  refine (zexec_eq mt_196 _ rfl (LAY, σ) 0).trans ?_
  show zrunL zX2 (zexec zX2 zMT d) K_X12_word U_X12_word 0 [some (.inl (some 57)), some (.inr (.inl x1)), some (.inr (.inl x2)), none] [] (LAY, σ) = _
  refine (zq_iln hm (pc' := 1) rfl rfl rfl rfl).trans ?_
  refine (zq_ic hm (pc' := 2) rfl rfl rfl rfl).trans ?_
  refine (zq_ine hm (pc' := 5) rfl rfl).trans (zite ?_ ?_)
  · refine (zJ_n rfl).trans ?_
    refine (zq_aln hm (pc' := 6) rfl rfl rfl rfl).trans ?_
    refine (zq_gr hm (pc' := 9) rfl lay_57 rfl rfl).trans ?_
    refine (zJ_n rfl).trans ?_
    refine (zq_bi hm (pc' := 11) rfl rfl rfl rfl).trans ?_
    refine (zq_iln hm (pc' := 12) rfl rfl rfl rfl).trans ?_
    refine (zq_iadd hm (pc' := 13) rfl rfl rfl).trans ?_
    refine (zq_aln hm (pc' := 14) rfl rfl rfl rfl).trans ?_
    refine (zq_gr hm (pc' := 17) rfl lay_57 rfl rfl).trans ?_
    refine (zJ_n rfl).trans ?_
    refine (zq_bi hm (pc' := 19) rfl rfl rfl rfl).trans ?_
    refine (zq_iln hm (pc' := 20) rfl rfl rfl rfl).trans ?_
    refine (zq_iadd hm (pc' := 21) rfl rfl rfl).trans ?_
    refine (zq_ia hm (v := (σ 60 (zw (12 + x1)))) (pc' := 22) rfl lay_60 rfl rfl).trans (zite ?_ rfl)
    refine (zJ_n rfl).trans ?_
    refine (zq_ic hm (pc' := 23) rfl rfl rfl rfl).trans ?_
    refine (zq_iadd hm (pc' := 24) rfl rfl rfl).trans ?_
    refine (zq_s1 hm (pc' := 27) rfl rfl rfl rfl rfl rfl).trans (zCI_c rfl (fun r4 s3 => ?_))
    refine (zJ_n rfl).trans ?_
    refine (zq_ist hm (pc' := 28) rfl lay_60 rfl).trans (zite ?_ rfl)
    refine (zJ_n rfl).trans ?_
    refine (zq_ic hm (pc' := 29) rfl rfl rfl rfl).trans ?_
    exact (zc_isn hm (ls' := [some (.inl (some 57)), some (.inr (.inl x1)), some (.inr (.inl x2)), some (.inr (.inl 0))]) (pc' := 30) rfl rfl rfl rfl).trans rfl
  · refine (zJ_n rfl).trans ?_
    refine (zq_iln hm (pc' := 84) rfl rfl rfl rfl).trans ?_
    refine (zq_ic hm (pc' := 85) rfl rfl rfl rfl).trans ?_
    refine (zq_ine hm (pc' := 88) rfl rfl).trans (zite ?_ ?_)
    · refine (zJ_n rfl).trans ?_
      refine (zq_aln hm (pc' := 89) rfl rfl rfl rfl).trans ?_
      refine (zq_gr hm (pc' := 92) rfl lay_57 rfl rfl).trans ?_
      refine (zJ_n rfl).trans ?_
      refine (zq_bi hm (pc' := 94) rfl rfl rfl rfl).trans ?_
      refine (zq_iln hm (pc' := 95) rfl rfl rfl rfl).trans ?_
      refine (zq_iadd hm (pc' := 96) rfl rfl rfl).trans ?_
      refine (zq_aln hm (pc' := 97) rfl rfl rfl rfl).trans ?_
      refine (zq_gr hm (pc' := 100) rfl lay_57 rfl rfl).trans ?_
      refine (zJ_n rfl).trans ?_
      refine (zq_bi hm (pc' := 102) rfl rfl rfl rfl).trans ?_
      refine (zq_iln hm (pc' := 103) rfl rfl rfl rfl).trans ?_
      refine (zq_iadd hm (pc' := 104) rfl rfl rfl).trans ?_
      refine (zq_ia hm (v := (σ 60 (zw (12 + x1)))) (pc' := 105) rfl lay_60 rfl rfl).trans (zite ?_ rfl)
      refine (zJ_n rfl).trans ?_
      refine (zq_ic hm (pc' := 106) rfl rfl rfl rfl).trans ?_
      refine (zq_isub hm (pc' := 107) rfl rfl rfl).trans ?_
      refine (zq_s1 hm (pc' := 110) rfl rfl rfl rfl rfl rfl).trans (zCI_c rfl (fun r2 s1 => ?_))
      refine (zJ_n rfl).trans ?_
      refine (zq_ist hm (pc' := 111) rfl lay_60 rfl).trans (zite ?_ rfl)
      refine (zJ_n rfl).trans ?_
      exact zq_rv hm rfl
    · refine (zJ_n rfl).trans ?_
      exact zq_rv hm rfl
set_option maxRecDepth 100000 in
set_option maxHeartbeats 4000000 in
theorem e_X12_word_30 (d : Nat) (y1 : Int) (y2 : Int) (σ : zF) : P_X12_word_30 d y1 y2 σ = (
if y2 < (σ 57 0) then (
if 0 ≤ zw (24 + y2) ∧ zw (24 + y2) < 48 then (
if (σ 60 (zw (24 + y2))) = y1 then (
if 0 ≤ zw (12 + y2) ∧ zw (12 + y2) < 48 then (
zCI LAY (zx d 195 [.inr (.inl (zw ((σ 60 (zw (12 + y2))) - 1)))] σ) fun r102 s101 =>
if 0 ≤ zw (12 + y2) ∧ zw (12 + y2) < 48 then (
P_X12_word_30 d y1 (zw (y2 + 1)) (zset s101 60 (zw (12 + y2)) r102)) else (
none)) else (
none)) else (
P_X12_word_30 d y1 (zw (y2 + 1)) σ)) else (
none)) else (
zrv σ)) := by
  have hm := zexec_m zX2 zMT d
  show zrunL zX2 (zexec zX2 zMT d) K_X12_word U_X12_word 30 [some (.inl (some 57)), some (.inr (.inl y1)), none, some (.inr (.inl y2))] [] (LAY, σ) = _
  refine (zq_iln hm (pc' := 31) rfl rfl rfl rfl).trans ?_
  refine (zq_aln hm (pc' := 32) rfl rfl rfl rfl).trans ?_
  refine (zq_gf hm (v := (σ 57 0)) (pc' := 35) rfl lay_57 rfl rfl rfl).trans ?_
  refine (zJ_n rfl).trans ?_
  refine (zq_ige hm (pc' := 38) rfl rfl).trans (zite ?_ ?_)
  · refine (zJ_n rfl).trans ?_
    refine (zq_aln hm (pc' := 39) rfl rfl rfl rfl).trans ?_
    refine (zq_gr hm (pc' := 42) rfl lay_57 rfl rfl).trans ?_
    refine (zJ_n rfl).trans ?_
    refine (zq_bi hm (pc' := 44) rfl rfl rfl rfl).trans ?_
    refine (zq_iln hm (pc' := 45) rfl rfl rfl rfl).trans ?_
    refine (zq_iadd hm (pc' := 46) rfl rfl rfl).trans ?_
    refine (zq_ia hm (v := (σ 60 (zw (24 + y2)))) (pc' := 47) rfl lay_60 rfl rfl).trans (zite ?_ rfl)
    refine (zJ_n rfl).trans ?_
    refine (zq_iln hm (pc' := 48) rfl rfl rfl rfl).trans ?_
    refine (zq_ine hm (pc' := 51) rfl rfl).trans (zite ?_ ?_)
    · refine (zJ_n rfl).trans ?_
      refine (zq_aln hm (pc' := 52) rfl rfl rfl rfl).trans ?_
      refine (zq_gr hm (pc' := 55) rfl lay_57 rfl rfl).trans ?_
      refine (zJ_n rfl).trans ?_
      refine (zq_bi hm (pc' := 57) rfl rfl rfl rfl).trans ?_
      refine (zq_iln hm (pc' := 58) rfl rfl rfl rfl).trans ?_
      refine (zq_iadd hm (pc' := 59) rfl rfl rfl).trans ?_
      refine (zq_aln hm (pc' := 60) rfl rfl rfl rfl).trans ?_
      refine (zq_gr hm (pc' := 63) rfl lay_57 rfl rfl).trans ?_
      refine (zJ_n rfl).trans ?_
      refine (zq_bi hm (pc' := 65) rfl rfl rfl rfl).trans ?_
      refine (zq_iln hm (pc' := 66) rfl rfl rfl rfl).trans ?_
      refine (zq_iadd hm (pc' := 67) rfl rfl rfl).trans ?_
      refine (zq_ia hm (v := (σ 60 (zw (12 + y2)))) (pc' := 68) rfl lay_60 rfl rfl).trans (zite ?_ rfl)
      refine (zJ_n rfl).trans ?_
      refine (zq_ic hm (pc' := 69) rfl rfl rfl rfl).trans ?_
      refine (zq_isub hm (pc' := 70) rfl rfl rfl).trans ?_
      refine (zq_s1 hm (pc' := 73) rfl rfl rfl rfl rfl rfl).trans (zCI_c rfl (fun r102 s101 => ?_))
      refine (zJ_n rfl).trans ?_
      refine (zq_ist hm (pc' := 74) rfl lay_60 rfl).trans (zite ?_ rfl)
      refine (zJ_n rfl).trans ?_
      refine (zq_iinc hm (ls' := [some (.inl (some 57)), some (.inr (.inl y1)), none, some (.inr (.inl (zw (y2 + 1))))]) (pc' := 77) rfl rfl rfl rfl rfl rfl).trans ?_
      exact (zc_goto hm rfl rfl).trans rfl
    · refine (zJ_n rfl).trans ?_
      refine (zq_iinc hm (ls' := [some (.inl (some 57)), some (.inr (.inl y1)), none, some (.inr (.inl (zw (y2 + 1))))]) (pc' := 77) rfl rfl rfl rfl rfl rfl).trans ?_
      exact (zc_goto hm rfl rfl).trans rfl
  · refine (zJ_n rfl).trans ?_
    refine (zq_goto hm rfl rfl).trans ?_
    exact zq_rv hm rfl
noncomputable def P_X12_keeps_86_2 (d : Nat) (y2 : Int) (σ : zF) : Option zR := zrunL zX2 (zexec zX2 zMT d) K_X12_keeps U_X12_keeps 2 [some (.inl (some 57)), some (.inl (some 86)), some (.inr (.inl y2))] [] (LAY, σ)
set_option maxRecDepth 100000 in
set_option maxHeartbeats 4000000 in
theorem e_X12_keeps_86 (d : Nat) (σ : zF) : zx (d + 1) 197 [.inl (some 57), .inl (some 86)] σ = (
P_X12_keeps_86_2 d 0 σ) := by
  unfold zx
  have hm := zexec_m zX2 zMT d
  refine (zexec_eq mt_197 _ rfl (LAY, σ) 0).trans ?_
  show zrunL zX2 (zexec zX2 zMT d) K_X12_keeps U_X12_keeps 0 [some (.inl (some 57)), some (.inl (some 86)), none] [] (LAY, σ) = _
  refine (zq_ic hm (pc' := 1) rfl rfl rfl rfl).trans ?_
  exact (zc_isn hm (ls' := [some (.inl (some 57)), some (.inl (some 86)), some (.inr (.inl 0))]) (pc' := 2) rfl rfl rfl rfl).trans rfl
set_option maxRecDepth 100000 in
set_option maxHeartbeats 4000000 in
theorem e_X12_keeps_86_2 (d : Nat) (y2 : Int) (σ : zF) : P_X12_keeps_86_2 d y2 σ = (
if y2 < 12 then (
if 0 ≤ zw (12 + y2) ∧ zw (12 + y2) < 48 then (
if 0 ≤ y2 ∧ y2 < 12 then (
P_X12_keeps_86_2 d (zw (y2 + 1)) (zset σ 86 y2 (σ 60 (zw (12 + y2))))) else (
none)) else (
none)) else (
zrv σ)) := by
  have hm := zexec_m zX2 zMT d
  show zrunL zX2 (zexec zX2 zMT d) K_X12_keeps U_X12_keeps 2 [some (.inl (some 57)), some (.inl (some 86)), some (.inr (.inl y2))] [] (LAY, σ) = _
  refine (zq_iln hm (pc' := 3) rfl rfl rfl rfl).trans ?_
  refine (zq_bi hm (pc' := 5) rfl rfl rfl rfl).trans ?_
  refine (zq_ige hm (pc' := 8) rfl rfl).trans (zite ?_ ?_)
  · refine (zJ_n rfl).trans ?_
    refine (zq_aln hm (pc' := 9) rfl rfl rfl rfl).trans ?_
    refine (zq_iln hm (pc' := 10) rfl rfl rfl rfl).trans ?_
    refine (zq_aln hm (pc' := 11) rfl rfl rfl rfl).trans ?_
    refine (zq_gr hm (pc' := 14) rfl lay_57 rfl rfl).trans ?_
    refine (zJ_n rfl).trans ?_
    refine (zq_bi hm (pc' := 16) rfl rfl rfl rfl).trans ?_
    refine (zq_iln hm (pc' := 17) rfl rfl rfl rfl).trans ?_
    refine (zq_iadd hm (pc' := 18) rfl rfl rfl).trans ?_
    refine (zq_ia hm (v := (σ 60 (zw (12 + y2)))) (pc' := 19) rfl lay_60 rfl rfl).trans (zite ?_ rfl)
    refine (zJ_n rfl).trans ?_
    refine (zq_ist hm (pc' := 20) rfl lay_86 rfl).trans (zite ?_ rfl)
    refine (zJ_n rfl).trans ?_
    refine (zq_iinc hm (ls' := [some (.inl (some 57)), some (.inl (some 86)), some (.inr (.inl (zw (y2 + 1))))]) (pc' := 23) rfl rfl rfl rfl rfl rfl).trans ?_
    exact (zc_goto hm rfl rfl).trans rfl
  · refine (zJ_n rfl).trans ?_
    exact zq_rv hm rfl
noncomputable def P_X12_keeps_87_2 (d : Nat) (y2 : Int) (σ : zF) : Option zR := zrunL zX2 (zexec zX2 zMT d) K_X12_keeps U_X12_keeps 2 [some (.inl (some 57)), some (.inl (some 87)), some (.inr (.inl y2))] [] (LAY, σ)
set_option maxRecDepth 100000 in
set_option maxHeartbeats 4000000 in
theorem e_X12_keeps_87 (d : Nat) (σ : zF) : zx (d + 1) 197 [.inl (some 57), .inl (some 87)] σ = (
P_X12_keeps_87_2 d 0 σ) := by
  unfold zx
  have hm := zexec_m zX2 zMT d
  refine (zexec_eq mt_197 _ rfl (LAY, σ) 0).trans ?_
  show zrunL zX2 (zexec zX2 zMT d) K_X12_keeps U_X12_keeps 0 [some (.inl (some 57)), some (.inl (some 87)), none] [] (LAY, σ) = _
  refine (zq_ic hm (pc' := 1) rfl rfl rfl rfl).trans ?_
  exact (zc_isn hm (ls' := [some (.inl (some 57)), some (.inl (some 87)), some (.inr (.inl 0))]) (pc' := 2) rfl rfl rfl rfl).trans rfl
set_option maxRecDepth 100000 in
set_option maxHeartbeats 4000000 in
theorem e_X12_keeps_87_2 (d : Nat) (y2 : Int) (σ : zF) : P_X12_keeps_87_2 d y2 σ = (
if y2 < 12 then (
if 0 ≤ zw (12 + y2) ∧ zw (12 + y2) < 48 then (
if 0 ≤ y2 ∧ y2 < 12 then (
P_X12_keeps_87_2 d (zw (y2 + 1)) (zset σ 87 y2 (σ 60 (zw (12 + y2))))) else (
none)) else (
none)) else (
zrv σ)) := by
  have hm := zexec_m zX2 zMT d
  show zrunL zX2 (zexec zX2 zMT d) K_X12_keeps U_X12_keeps 2 [some (.inl (some 57)), some (.inl (some 87)), some (.inr (.inl y2))] [] (LAY, σ) = _
  refine (zq_iln hm (pc' := 3) rfl rfl rfl rfl).trans ?_
  refine (zq_bi hm (pc' := 5) rfl rfl rfl rfl).trans ?_
  refine (zq_ige hm (pc' := 8) rfl rfl).trans (zite ?_ ?_)
  · refine (zJ_n rfl).trans ?_
    refine (zq_aln hm (pc' := 9) rfl rfl rfl rfl).trans ?_
    refine (zq_iln hm (pc' := 10) rfl rfl rfl rfl).trans ?_
    refine (zq_aln hm (pc' := 11) rfl rfl rfl rfl).trans ?_
    refine (zq_gr hm (pc' := 14) rfl lay_57 rfl rfl).trans ?_
    refine (zJ_n rfl).trans ?_
    refine (zq_bi hm (pc' := 16) rfl rfl rfl rfl).trans ?_
    refine (zq_iln hm (pc' := 17) rfl rfl rfl rfl).trans ?_
    refine (zq_iadd hm (pc' := 18) rfl rfl rfl).trans ?_
    refine (zq_ia hm (v := (σ 60 (zw (12 + y2)))) (pc' := 19) rfl lay_60 rfl rfl).trans (zite ?_ rfl)
    refine (zJ_n rfl).trans ?_
    refine (zq_ist hm (pc' := 20) rfl lay_87 rfl).trans (zite ?_ rfl)
    refine (zJ_n rfl).trans ?_
    refine (zq_iinc hm (ls' := [some (.inl (some 57)), some (.inl (some 87)), some (.inr (.inl (zw (y2 + 1))))]) (pc' := 23) rfl rfl rfl rfl rfl rfl).trans ?_
    exact (zc_goto hm rfl rfl).trans rfl
  · refine (zJ_n rfl).trans ?_
    exact zq_rv hm rfl
noncomputable def P_X12_keeps_75_2 (d : Nat) (y2 : Int) (σ : zF) : Option zR := zrunL zX2 (zexec zX2 zMT d) K_X12_keeps U_X12_keeps 2 [some (.inl (some 57)), some (.inl (some 75)), some (.inr (.inl y2))] [] (LAY, σ)
set_option maxRecDepth 100000 in
set_option maxHeartbeats 4000000 in
theorem e_X12_keeps_75 (d : Nat) (σ : zF) : zx (d + 1) 197 [.inl (some 57), .inl (some 75)] σ = (
P_X12_keeps_75_2 d 0 σ) := by
  unfold zx
  have hm := zexec_m zX2 zMT d
  refine (zexec_eq mt_197 _ rfl (LAY, σ) 0).trans ?_
  show zrunL zX2 (zexec zX2 zMT d) K_X12_keeps U_X12_keeps 0 [some (.inl (some 57)), some (.inl (some 75)), none] [] (LAY, σ) = _
  refine (zq_ic hm (pc' := 1) rfl rfl rfl rfl).trans ?_
  exact (zc_isn hm (ls' := [some (.inl (some 57)), some (.inl (some 75)), some (.inr (.inl 0))]) (pc' := 2) rfl rfl rfl rfl).trans rfl
set_option maxRecDepth 100000 in
set_option maxHeartbeats 4000000 in
theorem e_X12_keeps_75_2 (d : Nat) (y2 : Int) (σ : zF) : P_X12_keeps_75_2 d y2 σ = (
if y2 < 12 then (
if 0 ≤ zw (12 + y2) ∧ zw (12 + y2) < 48 then (
if 0 ≤ y2 ∧ y2 < 12 then (
P_X12_keeps_75_2 d (zw (y2 + 1)) (zset σ 75 y2 (σ 60 (zw (12 + y2))))) else (
none)) else (
none)) else (
zrv σ)) := by
  have hm := zexec_m zX2 zMT d
  show zrunL zX2 (zexec zX2 zMT d) K_X12_keeps U_X12_keeps 2 [some (.inl (some 57)), some (.inl (some 75)), some (.inr (.inl y2))] [] (LAY, σ) = _
  refine (zq_iln hm (pc' := 3) rfl rfl rfl rfl).trans ?_
  refine (zq_bi hm (pc' := 5) rfl rfl rfl rfl).trans ?_
  refine (zq_ige hm (pc' := 8) rfl rfl).trans (zite ?_ ?_)
  · refine (zJ_n rfl).trans ?_
    refine (zq_aln hm (pc' := 9) rfl rfl rfl rfl).trans ?_
    refine (zq_iln hm (pc' := 10) rfl rfl rfl rfl).trans ?_
    refine (zq_aln hm (pc' := 11) rfl rfl rfl rfl).trans ?_
    refine (zq_gr hm (pc' := 14) rfl lay_57 rfl rfl).trans ?_
    refine (zJ_n rfl).trans ?_
    refine (zq_bi hm (pc' := 16) rfl rfl rfl rfl).trans ?_
    refine (zq_iln hm (pc' := 17) rfl rfl rfl rfl).trans ?_
    refine (zq_iadd hm (pc' := 18) rfl rfl rfl).trans ?_
    refine (zq_ia hm (v := (σ 60 (zw (12 + y2)))) (pc' := 19) rfl lay_60 rfl rfl).trans (zite ?_ rfl)
    refine (zJ_n rfl).trans ?_
    refine (zq_ist hm (pc' := 20) rfl lay_75 rfl).trans (zite ?_ rfl)
    refine (zJ_n rfl).trans ?_
    refine (zq_iinc hm (ls' := [some (.inl (some 57)), some (.inl (some 75)), some (.inr (.inl (zw (y2 + 1))))]) (pc' := 23) rfl rfl rfl rfl rfl rfl).trans ?_
    exact (zc_goto hm rfl rfl).trans rfl
  · refine (zJ_n rfl).trans ?_
    exact zq_rv hm rfl
noncomputable def P_X12_again_86_2 (d : Nat) (y2 : Int) (σ : zF) : Option zR := zrunL zX2 (zexec zX2 zMT d) K_X12_again U_X12_again 2 [some (.inl (some 57)), some (.inl (some 86)), some (.inr (.inl y2))] [] (LAY, σ)
set_option maxRecDepth 100000 in
set_option maxHeartbeats 4000000 in
theorem e_X12_again_86 (d : Nat) (σ : zF) : zx (d + 1) 198 [.inl (some 57), .inl (some 86)] σ = (
P_X12_again_86_2 d 0 σ) := by
  unfold zx
  have hm := zexec_m zX2 zMT d
  refine (zexec_eq mt_198 _ rfl (LAY, σ) 0).trans ?_
  show zrunL zX2 (zexec zX2 zMT d) K_X12_again U_X12_again 0 [some (.inl (some 57)), some (.inl (some 86)), none] [] (LAY, σ) = _
  refine (zq_ic hm (pc' := 1) rfl rfl rfl rfl).trans ?_
  exact (zc_isn hm (ls' := [some (.inl (some 57)), some (.inl (some 86)), some (.inr (.inl 0))]) (pc' := 2) rfl rfl rfl rfl).trans rfl
set_option maxRecDepth 100000 in
set_option maxHeartbeats 4000000 in
theorem e_X12_again_86_2 (d : Nat) (y2 : Int) (σ : zF) : P_X12_again_86_2 d y2 σ = (
if y2 < 12 then (
if 0 ≤ y2 ∧ y2 < 12 then (
if 0 ≤ zw (12 + y2) ∧ zw (12 + y2) < 48 then (
P_X12_again_86_2 d (zw (y2 + 1)) (zset σ 60 (zw (12 + y2)) (σ 86 y2))) else (
none)) else (
none)) else (
zrv σ)) := by
  have hm := zexec_m zX2 zMT d
  show zrunL zX2 (zexec zX2 zMT d) K_X12_again U_X12_again 2 [some (.inl (some 57)), some (.inl (some 86)), some (.inr (.inl y2))] [] (LAY, σ) = _
  refine (zq_iln hm (pc' := 3) rfl rfl rfl rfl).trans ?_
  refine (zq_bi hm (pc' := 5) rfl rfl rfl rfl).trans ?_
  refine (zq_ige hm (pc' := 8) rfl rfl).trans (zite ?_ ?_)
  · refine (zJ_n rfl).trans ?_
    refine (zq_aln hm (pc' := 9) rfl rfl rfl rfl).trans ?_
    refine (zq_gr hm (pc' := 12) rfl lay_57 rfl rfl).trans ?_
    refine (zJ_n rfl).trans ?_
    refine (zq_bi hm (pc' := 14) rfl rfl rfl rfl).trans ?_
    refine (zq_iln hm (pc' := 15) rfl rfl rfl rfl).trans ?_
    refine (zq_iadd hm (pc' := 16) rfl rfl rfl).trans ?_
    refine (zq_aln hm (pc' := 17) rfl rfl rfl rfl).trans ?_
    refine (zq_iln hm (pc' := 18) rfl rfl rfl rfl).trans ?_
    refine (zq_ia hm (v := (σ 86 y2)) (pc' := 19) rfl lay_86 rfl rfl).trans (zite ?_ rfl)
    refine (zJ_n rfl).trans ?_
    refine (zq_ist hm (pc' := 20) rfl lay_60 rfl).trans (zite ?_ rfl)
    refine (zJ_n rfl).trans ?_
    refine (zq_iinc hm (ls' := [some (.inl (some 57)), some (.inl (some 86)), some (.inr (.inl (zw (y2 + 1))))]) (pc' := 23) rfl rfl rfl rfl rfl rfl).trans ?_
    exact (zc_goto hm rfl rfl).trans rfl
  · refine (zJ_n rfl).trans ?_
    exact zq_rv hm rfl
noncomputable def P_X12_again_87_2 (d : Nat) (y2 : Int) (σ : zF) : Option zR := zrunL zX2 (zexec zX2 zMT d) K_X12_again U_X12_again 2 [some (.inl (some 57)), some (.inl (some 87)), some (.inr (.inl y2))] [] (LAY, σ)
set_option maxRecDepth 100000 in
set_option maxHeartbeats 4000000 in
theorem e_X12_again_87 (d : Nat) (σ : zF) : zx (d + 1) 198 [.inl (some 57), .inl (some 87)] σ = (
P_X12_again_87_2 d 0 σ) := by
  unfold zx
  have hm := zexec_m zX2 zMT d
  refine (zexec_eq mt_198 _ rfl (LAY, σ) 0).trans ?_
  show zrunL zX2 (zexec zX2 zMT d) K_X12_again U_X12_again 0 [some (.inl (some 57)), some (.inl (some 87)), none] [] (LAY, σ) = _
  refine (zq_ic hm (pc' := 1) rfl rfl rfl rfl).trans ?_
  exact (zc_isn hm (ls' := [some (.inl (some 57)), some (.inl (some 87)), some (.inr (.inl 0))]) (pc' := 2) rfl rfl rfl rfl).trans rfl
set_option maxRecDepth 100000 in
set_option maxHeartbeats 4000000 in
theorem e_X12_again_87_2 (d : Nat) (y2 : Int) (σ : zF) : P_X12_again_87_2 d y2 σ = (
if y2 < 12 then (
if 0 ≤ y2 ∧ y2 < 12 then (
if 0 ≤ zw (12 + y2) ∧ zw (12 + y2) < 48 then (
P_X12_again_87_2 d (zw (y2 + 1)) (zset σ 60 (zw (12 + y2)) (σ 87 y2))) else (
none)) else (
none)) else (
zrv σ)) := by
  have hm := zexec_m zX2 zMT d
  show zrunL zX2 (zexec zX2 zMT d) K_X12_again U_X12_again 2 [some (.inl (some 57)), some (.inl (some 87)), some (.inr (.inl y2))] [] (LAY, σ) = _
  refine (zq_iln hm (pc' := 3) rfl rfl rfl rfl).trans ?_
  refine (zq_bi hm (pc' := 5) rfl rfl rfl rfl).trans ?_
  refine (zq_ige hm (pc' := 8) rfl rfl).trans (zite ?_ ?_)
  · refine (zJ_n rfl).trans ?_
    refine (zq_aln hm (pc' := 9) rfl rfl rfl rfl).trans ?_
    refine (zq_gr hm (pc' := 12) rfl lay_57 rfl rfl).trans ?_
    refine (zJ_n rfl).trans ?_
    refine (zq_bi hm (pc' := 14) rfl rfl rfl rfl).trans ?_
    refine (zq_iln hm (pc' := 15) rfl rfl rfl rfl).trans ?_
    refine (zq_iadd hm (pc' := 16) rfl rfl rfl).trans ?_
    refine (zq_aln hm (pc' := 17) rfl rfl rfl rfl).trans ?_
    refine (zq_iln hm (pc' := 18) rfl rfl rfl rfl).trans ?_
    refine (zq_ia hm (v := (σ 87 y2)) (pc' := 19) rfl lay_87 rfl rfl).trans (zite ?_ rfl)
    refine (zJ_n rfl).trans ?_
    refine (zq_ist hm (pc' := 20) rfl lay_60 rfl).trans (zite ?_ rfl)
    refine (zJ_n rfl).trans ?_
    refine (zq_iinc hm (ls' := [some (.inl (some 57)), some (.inl (some 87)), some (.inr (.inl (zw (y2 + 1))))]) (pc' := 23) rfl rfl rfl rfl rfl rfl).trans ?_
    exact (zc_goto hm rfl rfl).trans rfl
  · refine (zJ_n rfl).trans ?_
    exact zq_rv hm rfl
noncomputable def P_X12_looks_2 (d : Nat) (y1 : Int) (y2 : Int) (σ : zF) : Option zR := zrunL zX2 (zexec zX2 zMT d) K_X12_looks U_X12_looks 2 [some (.inl (some 57)), some (.inr (.inl y1)), some (.inr (.inl y2)), none] [] (LAY, σ)
noncomputable def P_X12_looks_29 (d : Nat) (y1 : Int) (y2 : Int) (σ : zF) : Option zR := zrunL zX2 (zexec zX2 zMT d) K_X12_looks U_X12_looks 29 [some (.inl (some 57)), some (.inr (.inl y1)), some (.inr (.inl y2)), none] [] (LAY, σ)
noncomputable def P_X12_looks_61 (d : Nat) (y1 : Int) (σ : zF) : Option zR := zrunL zX2 (zexec zX2 zMT d) K_X12_looks U_X12_looks 61 [some (.inl (some 57)), none, some (.inr (.inl y1)), none] [] (LAY, σ)
noncomputable def P_X12_looks_69 (d : Nat) (y1 : Int) (y2 : Int) (σ : zF) : Option zR := zrunL zX2 (zexec zX2 zMT d) K_X12_looks U_X12_looks 69 [some (.inl (some 57)), none, some (.inr (.inl y1)), some (.inr (.inl y2))] [] (LAY, σ)
set_option maxRecDepth 100000 in
set_option maxHeartbeats 4000000 in
theorem e_X12_looks (d : Nat) (x1 : Int) (σ : zF) : zx (d + 1) 199 [.inl (some 57), .inr (.inl x1)] σ = (
P_X12_looks_2 d x1 0 σ) := by
  unfold zx
  have hm := zexec_m zX2 zMT d
  refine (zexec_eq mt_199 _ rfl (LAY, σ) 0).trans ?_
  show zrunL zX2 (zexec zX2 zMT d) K_X12_looks U_X12_looks 0 [some (.inl (some 57)), some (.inr (.inl x1)), none, none] [] (LAY, σ) = _
  refine (zq_ic hm (pc' := 1) rfl rfl rfl rfl).trans ?_
  exact (zc_isn hm (ls' := [some (.inl (some 57)), some (.inr (.inl x1)), some (.inr (.inl 0)), none]) (pc' := 2) rfl rfl rfl rfl).trans rfl
set_option maxRecDepth 100000 in
set_option maxHeartbeats 4000000 in
theorem e_X12_looks_2 (d : Nat) (y1 : Int) (y2 : Int) (σ : zF) : P_X12_looks_2 d y1 y2 σ = (
if y2 < (σ 57 0) then (
zCI LAY (zx d 192 [.inl (some 57), .inr (.inl y2)] σ) fun r102 s101 =>
if 0 ≤ y2 ∧ y2 < 12 then (
P_X12_looks_2 d y1 (zw (y2 + 1)) (zset s101 84 y2 r102)) else (
none)) else (
P_X12_looks_29 d y1 0 σ)) := by
  have hm := zexec_m zX2 zMT d
  show zrunL zX2 (zexec zX2 zMT d) K_X12_looks U_X12_looks 2 [some (.inl (some 57)), some (.inr (.inl y1)), some (.inr (.inl y2)), none] [] (LAY, σ) = _
  refine (zq_iln hm (pc' := 3) rfl rfl rfl rfl).trans ?_
  refine (zq_aln hm (pc' := 4) rfl rfl rfl rfl).trans ?_
  refine (zq_gf hm (v := (σ 57 0)) (pc' := 7) rfl lay_57 rfl rfl rfl).trans ?_
  refine (zJ_n rfl).trans ?_
  refine (zq_ige hm (pc' := 10) rfl rfl).trans (zite ?_ ?_)
  · refine (zJ_n rfl).trans ?_
    refine (zq_aln hm (pc' := 11) rfl rfl rfl rfl).trans ?_
    refine (zq_gr hm (pc' := 14) rfl lay_57 rfl rfl).trans ?_
    refine (zJ_n rfl).trans ?_
    refine (zq_iln hm (pc' := 15) rfl rfl rfl rfl).trans ?_
    refine (zq_aln hm (pc' := 16) rfl rfl rfl rfl).trans ?_
    refine (zq_iln hm (pc' := 17) rfl rfl rfl rfl).trans ?_
    refine (zq_v1 hm (pc' := 20) rfl rfl rfl (cls_57_12) rfl rfl).trans (zCI_c rfl (fun r102 s101 => ?_))
    refine (zJ_n rfl).trans ?_
    refine (zq_ist hm (pc' := 21) rfl lay_84 rfl).trans (zite ?_ rfl)
    refine (zJ_n rfl).trans ?_
    refine (zq_iinc hm (ls' := [some (.inl (some 57)), some (.inr (.inl y1)), some (.inr (.inl (zw (y2 + 1)))), none]) (pc' := 24) rfl rfl rfl rfl rfl rfl).trans ?_
    exact (zc_goto hm rfl rfl).trans rfl
  · refine (zJ_n rfl).trans ?_
    refine (zq_ic hm (pc' := 28) rfl rfl rfl rfl).trans ?_
    exact (zc_isn hm (ls' := [some (.inl (some 57)), some (.inr (.inl y1)), some (.inr (.inl 0)), none]) (pc' := 29) rfl rfl rfl rfl).trans rfl
set_option maxRecDepth 100000 in
set_option maxHeartbeats 4000000 in
theorem e_X12_looks_29 (d : Nat) (y1 : Int) (y2 : Int) (σ : zF) : P_X12_looks_29 d y1 y2 σ = (
if y2 < 8 then (
if y2 = y1 then (
if 0 ≤ y2 ∧ y2 < 8 then (
P_X12_looks_29 d y1 (zw (y2 + 1)) (zset σ 85 y2 0)) else (
none)) else (
if 0 ≤ y2 ∧ y2 < 8 then (
P_X12_looks_29 d y1 (zw (y2 + 1)) (zset σ 85 y2 9999)) else (
none))) else (
P_X12_looks_61 d 0 σ)) := by
  have hm := zexec_m zX2 zMT d
  show zrunL zX2 (zexec zX2 zMT d) K_X12_looks U_X12_looks 29 [some (.inl (some 57)), some (.inr (.inl y1)), some (.inr (.inl y2)), none] [] (LAY, σ) = _
  refine (zq_iln hm (pc' := 30) rfl rfl rfl rfl).trans ?_
  refine (zq_bi hm (pc' := 32) rfl rfl rfl rfl).trans ?_
  refine (zq_ige hm (pc' := 35) rfl rfl).trans (zite ?_ ?_)
  · refine (zJ_n rfl).trans ?_
    refine (zq_aln hm (pc' := 36) rfl rfl rfl rfl).trans ?_
    refine (zq_gr hm (pc' := 39) rfl lay_57 rfl rfl).trans ?_
    refine (zJ_n rfl).trans ?_
    refine (zq_iln hm (pc' := 40) rfl rfl rfl rfl).trans ?_
    refine (zq_iln hm (pc' := 41) rfl rfl rfl rfl).trans ?_
    refine (zq_iln hm (pc' := 42) rfl rfl rfl rfl).trans ?_
    refine (zq_ine hm (pc' := 45) rfl rfl).trans (zite ?_ ?_)
    · refine (zJ_n rfl).trans ?_
      refine (zq_ic hm (pc' := 46) rfl rfl rfl rfl).trans ?_
      refine (zq_goto hm rfl rfl).trans ?_
      refine (zq_ist hm (pc' := 53) rfl lay_85 rfl).trans (zite ?_ rfl)
      refine (zJ_n rfl).trans ?_
      refine (zq_iinc hm (ls' := [some (.inl (some 57)), some (.inr (.inl y1)), some (.inr (.inl (zw (y2 + 1)))), none]) (pc' := 56) rfl rfl rfl rfl rfl rfl).trans ?_
      exact (zc_goto hm rfl rfl).trans rfl
    · refine (zJ_n rfl).trans ?_
      refine (zq_si hm (pc' := 52) rfl rfl rfl rfl).trans ?_
      refine (zq_ist hm (pc' := 53) rfl lay_85 rfl).trans (zite ?_ rfl)
      refine (zJ_n rfl).trans ?_
      refine (zq_iinc hm (ls' := [some (.inl (some 57)), some (.inr (.inl y1)), some (.inr (.inl (zw (y2 + 1)))), none]) (pc' := 56) rfl rfl rfl rfl rfl rfl).trans ?_
      exact (zc_goto hm rfl rfl).trans rfl
  · refine (zJ_n rfl).trans ?_
    refine (zq_ic hm (pc' := 60) rfl rfl rfl rfl).trans ?_
    exact (zc_isn hm (ls' := [some (.inl (some 57)), some (.inr (.inl y1)), some (.inr (.inl 0)), none]) (pc' := 61) rfl rfl rfl rfl).trans rfl
set_option maxRecDepth 100000 in
set_option maxHeartbeats 4000000 in
theorem e_X12_looks_61 (d : Nat) (y1 : Int) (σ : zF) : P_X12_looks_61 d y1 σ = (
if y1 < 8 then (
P_X12_looks_69 d y1 0 σ) else (
zrv σ)) := by
  have hm := zexec_m zX2 zMT d
  show zrunL zX2 (zexec zX2 zMT d) K_X12_looks U_X12_looks 61 [some (.inl (some 57)), none, some (.inr (.inl y1)), none] [] (LAY, σ) = _
  refine (zq_iln hm (pc' := 62) rfl rfl rfl rfl).trans ?_
  refine (zq_bi hm (pc' := 64) rfl rfl rfl rfl).trans ?_
  refine (zq_ige hm (pc' := 67) rfl rfl).trans (zite ?_ ?_)
  · refine (zJ_n rfl).trans ?_
    refine (zq_ic hm (pc' := 68) rfl rfl rfl rfl).trans ?_
    exact (zc_isn hm (ls' := [some (.inl (some 57)), none, some (.inr (.inl y1)), some (.inr (.inl 0))]) (pc' := 69) rfl rfl rfl rfl).trans rfl
  · refine (zJ_n rfl).trans ?_
    exact zq_rv hm rfl
set_option maxRecDepth 100000 in
set_option maxHeartbeats 4000000 in
theorem e_X12_looks_69 (d : Nat) (y1 : Int) (y2 : Int) (σ : zF) : P_X12_looks_69 d y1 y2 σ = (
if y2 < (σ 57 0) then (
zCI LAY (zx d 188 [.inl (some 57), .inr (.inl y2)] σ) fun r102 s101 =>
if r102 = 0 then (
if 0 ≤ y2 ∧ y2 < 12 then (
if 0 ≤ y2 ∧ y2 < 12 then (
if 0 ≤ (s101 58 y2) ∧ (s101 58 y2) < 8 then (
if 0 ≤ y2 ∧ y2 < 12 then (
if 0 ≤ (s101 59 y2) ∧ (s101 59 y2) < 8 then (
if 0 ≤ y2 ∧ y2 < 12 then (
if 0 ≤ (s101 58 y2) ∧ (s101 58 y2) < 8 then (
if 0 ≤ y2 ∧ y2 < 12 then (
if 0 ≤ y2 ∧ y2 < 12 then (
if 0 ≤ (s101 59 y2) ∧ (s101 59 y2) < 8 then (
if 0 ≤ y2 ∧ y2 < 12 then (
if 0 ≤ (s101 58 y2) ∧ (s101 58 y2) < 8 then (
if 0 ≤ y2 ∧ y2 < 12 then (
if 0 ≤ (s101 59 y2) ∧ (s101 59 y2) < 8 then (
P_X12_looks_69 d y1 (zw (y2 + 1)) (zset (zset s101 85 (s101 58 y2) (zmin (s101 85 (s101 58 y2)) (zw ((s101 85 (s101 59 y2)) + (s101 84 y2))))) 85 (s101 59 y2) (zmin ((zset s101 85 (s101 58 y2) (zmin (s101 85 (s101 58 y2)) (zw ((s101 85 (s101 59 y2)) + (s101 84 y2))))) 85 (s101 59 y2)) (zw (((zset s101 85 (s101 58 y2) (zmin (s101 85 (s101 58 y2)) (zw ((s101 85 (s101 59 y2)) + (s101 84 y2))))) 85 (s101 58 y2)) + (s101 84 y2)))))) else (
none)) else (
none)) else (
none)) else (
none)) else (
none)) else (
none)) else (
none)) else (
none)) else (
none)) else (
none)) else (
none)) else (
none)) else (
none)) else (
none)) else (
P_X12_looks_69 d y1 (zw (y2 + 1)) s101)) else (
P_X12_looks_61 d (zw (y1 + 1)) σ)) := by
  have hm := zexec_m zX2 zMT d
  show zrunL zX2 (zexec zX2 zMT d) K_X12_looks U_X12_looks 69 [some (.inl (some 57)), none, some (.inr (.inl y1)), some (.inr (.inl y2))] [] (LAY, σ) = _
  refine (zq_iln hm (pc' := 70) rfl rfl rfl rfl).trans ?_
  refine (zq_aln hm (pc' := 71) rfl rfl rfl rfl).trans ?_
  refine (zq_gf hm (v := (σ 57 0)) (pc' := 74) rfl lay_57 rfl rfl rfl).trans ?_
  refine (zJ_n rfl).trans ?_
  refine (zq_ige hm (pc' := 77) rfl rfl).trans (zite ?_ ?_)
  · refine (zJ_n rfl).trans ?_
    refine (zq_aln hm (pc' := 78) rfl rfl rfl rfl).trans ?_
    refine (zq_iln hm (pc' := 79) rfl rfl rfl rfl).trans ?_
    refine (zq_v1 hm (pc' := 82) rfl rfl rfl (cls_57_12) rfl rfl).trans (zCI_c rfl (fun r102 s101 => ?_))
    refine (zJ_n rfl).trans ?_
    refine (zq_zeq hm (pc' := 85) rfl rfl).trans (zite ?_ ?_)
    · refine (zJ_n rfl).trans ?_
      refine (zq_aln hm (pc' := 89) rfl rfl rfl rfl).trans ?_
      refine (zq_gr hm (pc' := 92) rfl lay_57 rfl rfl).trans ?_
      refine (zJ_n rfl).trans ?_
      refine (zq_aln hm (pc' := 93) rfl rfl rfl rfl).trans ?_
      refine (zq_gr hm (pc' := 96) rfl lay_57 rfl rfl).trans ?_
      refine (zJ_n rfl).trans ?_
      refine (zq_iln hm (pc' := 97) rfl rfl rfl rfl).trans ?_
      refine (zq_ia hm (v := (s101 58 y2)) (pc' := 98) rfl lay_58 rfl rfl).trans (zite ?_ rfl)
      refine (zJ_n rfl).trans ?_
      refine (zq_aln hm (pc' := 99) rfl rfl rfl rfl).trans ?_
      refine (zq_gr hm (pc' := 102) rfl lay_57 rfl rfl).trans ?_
      refine (zJ_n rfl).trans ?_
      refine (zq_aln hm (pc' := 103) rfl rfl rfl rfl).trans ?_
      refine (zq_gr hm (pc' := 106) rfl lay_57 rfl rfl).trans ?_
      refine (zJ_n rfl).trans ?_
      refine (zq_iln hm (pc' := 107) rfl rfl rfl rfl).trans ?_
      refine (zq_ia hm (v := (s101 58 y2)) (pc' := 108) rfl lay_58 rfl rfl).trans (zite ?_ rfl)
      refine (zJ_n rfl).trans ?_
      refine (zq_ia hm (v := (s101 85 (s101 58 y2))) (pc' := 109) rfl lay_85 rfl rfl).trans (zite ?_ rfl)
      refine (zJ_n rfl).trans ?_
      refine (zq_aln hm (pc' := 110) rfl rfl rfl rfl).trans ?_
      refine (zq_gr hm (pc' := 113) rfl lay_57 rfl rfl).trans ?_
      refine (zJ_n rfl).trans ?_
      refine (zq_aln hm (pc' := 114) rfl rfl rfl rfl).trans ?_
      refine (zq_gr hm (pc' := 117) rfl lay_57 rfl rfl).trans ?_
      refine (zJ_n rfl).trans ?_
      refine (zq_iln hm (pc' := 118) rfl rfl rfl rfl).trans ?_
      refine (zq_ia hm (v := (s101 59 y2)) (pc' := 119) rfl lay_59 rfl rfl).trans (zite ?_ rfl)
      refine (zJ_n rfl).trans ?_
      refine (zq_ia hm (v := (s101 85 (s101 59 y2))) (pc' := 120) rfl lay_85 rfl rfl).trans (zite ?_ rfl)
      refine (zJ_n rfl).trans ?_
      refine (zq_aln hm (pc' := 121) rfl rfl rfl rfl).trans ?_
      refine (zq_gr hm (pc' := 124) rfl lay_57 rfl rfl).trans ?_
      refine (zJ_n rfl).trans ?_
      refine (zq_iln hm (pc' := 125) rfl rfl rfl rfl).trans ?_
      refine (zq_ia hm (v := (s101 84 y2)) (pc' := 126) rfl lay_84 rfl rfl).trans (zite ?_ rfl)
      refine (zJ_n rfl).trans ?_
      refine (zq_iadd hm (pc' := 127) rfl rfl rfl).trans ?_
      refine (zq_min hm (pc' := 130) rfl rfl rfl rfl).trans ?_
      refine (zJ_n rfl).trans ?_
      refine (zq_ist hm (pc' := 131) rfl lay_85 rfl).trans (zite ?_ rfl)
      refine (zJ_n rfl).trans ?_
      refine (zq_aln hm (pc' := 132) rfl rfl rfl rfl).trans ?_
      refine (zq_gr hm (pc' := 135) rfl lay_57 rfl rfl).trans ?_
      refine (zJ_n rfl).trans ?_
      refine (zq_aln hm (pc' := 136) rfl rfl rfl rfl).trans ?_
      refine (zq_gr hm (pc' := 139) rfl lay_57 rfl rfl).trans ?_
      refine (zJ_n rfl).trans ?_
      refine (zq_iln hm (pc' := 140) rfl rfl rfl rfl).trans ?_
      refine (zq_ia hm (v := (s101 59 y2)) (pc' := 141) rfl lay_59 (zsn rfl) rfl).trans (zite ?_ rfl)
      refine (zJ_n rfl).trans ?_
      refine (zq_aln hm (pc' := 142) rfl rfl rfl rfl).trans ?_
      refine (zq_gr hm (pc' := 145) rfl lay_57 rfl rfl).trans ?_
      refine (zJ_n rfl).trans ?_
      refine (zq_aln hm (pc' := 146) rfl rfl rfl rfl).trans ?_
      refine (zq_gr hm (pc' := 149) rfl lay_57 rfl rfl).trans ?_
      refine (zJ_n rfl).trans ?_
      refine (zq_iln hm (pc' := 150) rfl rfl rfl rfl).trans ?_
      refine (zq_ia hm (v := (s101 59 y2)) (pc' := 151) rfl lay_59 (zsn rfl) rfl).trans (zite ?_ rfl)
      refine (zJ_n rfl).trans ?_
      refine (zq_ia hm (v := ((zset s101 85 (s101 58 y2) (zmin (s101 85 (s101 58 y2)) (zw ((s101 85 (s101 59 y2)) + (s101 84 y2))))) 85 (s101 59 y2))) (pc' := 152) rfl lay_85 rfl rfl).trans (zite ?_ rfl)
      refine (zJ_n rfl).trans ?_
      refine (zq_aln hm (pc' := 153) rfl rfl rfl rfl).trans ?_
      refine (zq_gr hm (pc' := 156) rfl lay_57 rfl rfl).trans ?_
      refine (zJ_n rfl).trans ?_
      refine (zq_aln hm (pc' := 157) rfl rfl rfl rfl).trans ?_
      refine (zq_gr hm (pc' := 160) rfl lay_57 rfl rfl).trans ?_
      refine (zJ_n rfl).trans ?_
      refine (zq_iln hm (pc' := 161) rfl rfl rfl rfl).trans ?_
      refine (zq_ia hm (v := (s101 58 y2)) (pc' := 162) rfl lay_58 (zsn rfl) rfl).trans (zite ?_ rfl)
      refine (zJ_n rfl).trans ?_
      refine (zq_ia hm (v := ((zset s101 85 (s101 58 y2) (zmin (s101 85 (s101 58 y2)) (zw ((s101 85 (s101 59 y2)) + (s101 84 y2))))) 85 (s101 58 y2))) (pc' := 163) rfl lay_85 rfl rfl).trans (zite ?_ rfl)
      refine (zJ_n rfl).trans ?_
      refine (zq_aln hm (pc' := 164) rfl rfl rfl rfl).trans ?_
      refine (zq_gr hm (pc' := 167) rfl lay_57 rfl rfl).trans ?_
      refine (zJ_n rfl).trans ?_
      refine (zq_iln hm (pc' := 168) rfl rfl rfl rfl).trans ?_
      refine (zq_ia hm (v := (s101 84 y2)) (pc' := 169) rfl lay_84 (zsn rfl) rfl).trans (zite ?_ rfl)
      refine (zJ_n rfl).trans ?_
      refine (zq_iadd hm (pc' := 170) rfl rfl rfl).trans ?_
      refine (zq_min hm (pc' := 173) rfl rfl rfl rfl).trans ?_
      refine (zJ_n rfl).trans ?_
      refine (zq_ist hm (pc' := 174) rfl lay_85 rfl).trans (zite ?_ rfl)
      refine (zJ_n rfl).trans ?_
      refine (zq_iinc hm (ls' := [some (.inl (some 57)), none, some (.inr (.inl y1)), some (.inr (.inl (zw (y2 + 1))))]) (pc' := 177) rfl rfl rfl rfl rfl rfl).trans ?_
      exact (zc_goto hm rfl rfl).trans rfl
    · refine (zJ_n rfl).trans ?_
      refine (zq_goto hm rfl rfl).trans ?_
      refine (zq_iinc hm (ls' := [some (.inl (some 57)), none, some (.inr (.inl y1)), some (.inr (.inl (zw (y2 + 1))))]) (pc' := 177) rfl rfl rfl rfl rfl rfl).trans ?_
      exact (zc_goto hm rfl rfl).trans rfl
  · refine (zJ_n rfl).trans ?_
    refine (zq_iinc hm (ls' := [some (.inl (some 57)), none, some (.inr (.inl (zw (y1 + 1)))), some (.inr (.inl y2))]) (pc' := 183) rfl rfl rfl rfl rfl rfl).trans ?_
    exact (zc_goto hm rfl rfl).trans rfl
