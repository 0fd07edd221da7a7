/-! equations, 9 -/
noncomputable def P_X12_isPeace_2 (d : Nat) (y1 : Int) (y2 : Int) (σ : zF) : Option zR := zrunL zX2 (zexec zX2 zMT d) K_X12_isPeace U_X12_isPeace 2 [some (.inl (some 57)), some (.inr (.inl y1)), some (.inr (.inl y2))] [] (LAY, σ)
set_option maxRecDepth 100000 in
set_option maxHeartbeats 4000000 in
theorem e_X12_isPeace (d : Nat) (x1 : Int) (σ : zF) : zx (d + 1) 215 [.inl (some 57), .inr (.inl x1)] σ = (
P_X12_isPeace_2 d x1 0 σ) := by
  unfold zx
  have hm := zexec_m zX2 zMT d
  refine (zexec_eq mt_215 _ rfl (LAY, σ) 0).trans ?_
  show zrunL zX2 (zexec zX2 zMT d) K_X12_isPeace U_X12_isPeace 0 [some (.inl (some 57)), some (.inr (.inl x1)), none] [] (LAY, σ) = _
  refine (zq_ic hm (pc' := 1) rfl rfl rfl rfl).trans ?_
  exact (zc_isn hm (ls' := [some (.inl (some 57)), some (.inr (.inl x1)), some (.inr (.inl 0))]) (pc' := 2) rfl rfl rfl rfl).trans rfl
set_option maxRecDepth 100000 in
set_option maxHeartbeats 4000000 in
theorem e_X12_isPeace_2 (d : Nat) (y1 : Int) (y2 : Int) (σ : zF) : P_X12_isPeace_2 d y1 y2 σ = (
if y2 < (σ 57 0) then (
if zand (zshr y1 y2) 1 = 1 then (
if 0 ≤ zw (24 + y2) ∧ zw (24 + y2) < 48 then (
if (σ 60 (zw (24 + y2))) < 0 then (
P_X12_isPeace_2 d y1 (zw (y2 + 1)) σ) else (
if 0 ≤ zw (24 + y2) ∧ zw (24 + y2) < 48 then (
if zand (zshr y1 (σ 60 (zw (24 + y2)))) 1 = 1 then (
zri 0 σ) else (
P_X12_isPeace_2 d y1 (zw (y2 + 1)) σ)) else (
none))) else (
none)) else (
P_X12_isPeace_2 d y1 (zw (y2 + 1)) σ)) else (
zri 1 σ)) := by
  have hm := zexec_m zX2 zMT d
  show zrunL zX2 (zexec zX2 zMT d) K_X12_isPeace U_X12_isPeace 2 [some (.inl (some 57)), some (.inr (.inl y1)), some (.inr (.inl y2))] [] (LAY, σ) = _
  refine (zq_iln hm (pc' := 3) rfl rfl rfl rfl).trans ?_
  refine (zq_aln hm (pc' := 4) rfl rfl rfl rfl).trans ?_
  refine (zq_gf hm (v := (σ 57 0)) (pc' := 7) rfl lay_57 rfl rfl rfl).trans ?_
  refine (zJ_n rfl).trans ?_
  refine (zq_ige hm (pc' := 10) rfl rfl).trans (zite ?_ ?_)
  · refine (zJ_n rfl).trans ?_
    refine (zq_iln hm (pc' := 11) rfl rfl rfl rfl).trans ?_
    refine (zq_iln hm (pc' := 12) rfl rfl rfl rfl).trans ?_
    refine (zq_ishr hm (pc' := 13) rfl rfl rfl).trans ?_
    refine (zq_ic hm (pc' := 14) rfl rfl rfl rfl).trans ?_
    refine (zq_iand hm (pc' := 15) rfl rfl rfl).trans ?_
    refine (zq_ic hm (pc' := 16) rfl rfl rfl rfl).trans ?_
    refine (zq_ine hm (pc' := 19) rfl rfl).trans (zite ?_ ?_)
    · refine (zJ_n rfl).trans ?_
      refine (zq_aln hm (pc' := 20) rfl rfl rfl rfl).trans ?_
      refine (zq_gr hm (pc' := 23) rfl lay_57 rfl rfl).trans ?_
      refine (zJ_n rfl).trans ?_
      refine (zq_bi hm (pc' := 25) rfl rfl rfl rfl).trans ?_
      refine (zq_iln hm (pc' := 26) rfl rfl rfl rfl).trans ?_
      refine (zq_iadd hm (pc' := 27) rfl rfl rfl).trans ?_
      refine (zq_ia hm (v := (σ 60 (zw (24 + y2)))) (pc' := 28) rfl lay_60 rfl rfl).trans (zite ?_ rfl)
      refine (zJ_n rfl).trans ?_
      refine (zq_zlt hm (pc' := 31) rfl rfl).trans (zite ?_ ?_)
      · refine (zJ_n rfl).trans ?_
        refine (zq_iinc hm (ls' := [some (.inl (some 57)), some (.inr (.inl y1)), some (.inr (.inl (zw (y2 + 1))))]) (pc' := 53) rfl rfl rfl rfl rfl rfl).trans ?_
        exact (zc_goto hm rfl rfl).trans rfl
      · refine (zJ_n rfl).trans ?_
        refine (zq_iln hm (pc' := 32) rfl rfl rfl rfl).trans ?_
        refine (zq_aln hm (pc' := 33) rfl rfl rfl rfl).trans ?_
        refine (zq_gr hm (pc' := 36) rfl lay_57 rfl rfl).trans ?_
        refine (zJ_n rfl).trans ?_
        refine (zq_bi hm (pc' := 38) rfl rfl rfl rfl).trans ?_
        refine (zq_iln hm (pc' := 39) rfl rfl rfl rfl).trans ?_
        refine (zq_iadd hm (pc' := 40) rfl rfl rfl).trans ?_
        refine (zq_ia hm (v := (σ 60 (zw (24 + y2)))) (pc' := 41) rfl lay_60 rfl rfl).trans (zite ?_ rfl)
        refine (zJ_n rfl).trans ?_
        refine (zq_ishr hm (pc' := 42) rfl rfl rfl).trans ?_
        refine (zq_ic hm (pc' := 43) rfl rfl rfl rfl).trans ?_
        refine (zq_iand hm (pc' := 44) rfl rfl rfl).trans ?_
        refine (zq_ic hm (pc' := 45) rfl rfl rfl rfl).trans ?_
        refine (zq_ine hm (pc' := 48) rfl rfl).trans (zite ?_ ?_)
        · refine (zJ_n rfl).trans ?_
          refine (zq_ic hm (pc' := 49) rfl rfl rfl rfl).trans ?_
          exact (zq_rb hm rfl rfl).trans (zif1 (by decide))
        · refine (zJ_n rfl).trans ?_
          refine (zq_iinc hm (ls' := [some (.inl (some 57)), some (.inr (.inl y1)), some (.inr (.inl (zw (y2 + 1))))]) (pc' := 53) rfl rfl rfl rfl rfl rfl).trans ?_
          exact (zc_goto hm rfl rfl).trans rfl
    · refine (zJ_n rfl).trans ?_
      refine (zq_iinc hm (ls' := [some (.inl (some 57)), some (.inr (.inl y1)), some (.inr (.inl (zw (y2 + 1))))]) (pc' := 53) rfl rfl rfl rfl rfl rfl).trans ?_
      exact (zc_goto hm rfl rfl).trans rfl
  · refine (zJ_n rfl).trans ?_
    refine (zq_ic hm (pc' := 57) rfl rfl rfl rfl).trans ?_
    exact (zq_rb hm rfl rfl).trans (zif1 (by decide))
noncomputable def P_X12_peace_15 (d : Nat) (y1 : Int) (y2 : Int) (y3 : Int) (σ : zF) : Option zR := zrunL zX2 (zexec zX2 zMT d) K_X12_peace U_X12_peace 15 [some (.inl (some 57)), some (.inr (.inl y1)), some (.inr (.inl y2)), some (.inr (.inl y3))] [] (LAY, σ)
set_option maxRecDepth 100000 in
set_option maxHeartbeats 4000000 in
theorem e_X12_peace (d : Nat) (x1 : Int) (σ : zF) : zx (d + 1) 216 [.inl (some 57), .inr (.inl x1)] σ = (
zCI LAY (zx d 153 [.inr (.inl x1), .inr (.inl 0), .inr (.inl 1)] σ) fun r2 s1 =>
if r2 = 0 then (
zri (-1) s1) else (
P_X12_peace_15 d x1 0 0 s1)) := by
  unfold zx
  have hm := zexec_m zX2 zMT d
  refine (zexec_eq mt_216 _ rfl (LAY, σ) 0).trans ?_
  show zrunL zX2 (zexec zX2 zMT d) K_X12_peace U_X12_peace 0 [some (.inl (some 57)), some (.inr (.inl x1)), none, none] [] (LAY, σ) = _
  refine (zq_iln hm (pc' := 1) rfl rfl rfl rfl).trans ?_
  refine (zq_ic hm (pc' := 2) rfl rfl rfl rfl).trans ?_
  refine (zq_ic hm (pc' := 3) rfl rfl rfl rfl).trans ?_
  refine (zq_s1 hm (pc' := 6) rfl rfl rfl rfl rfl rfl).trans (zCI_c rfl (fun r2 s1 => ?_))
  refine (zJ_n rfl).trans ?_
  refine (zq_zne hm (pc' := 9) rfl rfl).trans (zite ?_ ?_)
  · refine (zJ_n rfl).trans ?_
    refine (zq_ic hm (pc' := 10) rfl rfl rfl rfl).trans ?_
    exact zq_ri hm rfl rfl
  · refine (zJ_n rfl).trans ?_
    refine (zq_ic hm (pc' := 12) rfl rfl rfl rfl).trans ?_
    refine (zq_isn hm (ls' := [some (.inl (some 57)), some (.inr (.inl x1)), some (.inr (.inl 0)), none]) (pc' := 13) rfl rfl rfl rfl).trans ?_
    refine (zq_ic hm (pc' := 14) rfl rfl rfl rfl).trans ?_
    exact (zc_isn hm (ls' := [some (.inl (some 57)), some (.inr (.inl x1)), some (.inr (.inl 0)), some (.inr (.inl 0))]) (pc' := 15) rfl rfl rfl rfl).trans rfl
set_option maxRecDepth 100000 in
set_option maxHeartbeats 4000000 in
theorem e_X12_peace_15 (d : Nat) (y1 : Int) (y2 : Int) (y3 : Int) (σ : zF) : P_X12_peace_15 d y1 y2 y3 σ = (
if y3 < zshl 1 (σ 57 0) then (
zCI LAY (zx d 253 [.inr (.inl y3)] σ) fun r104 s103 =>
zCI LAY (zx d 253 [.inr (.inl y2)] s103) fun r106 s105 =>
if r106 < r104 then (
zCI LAY (zx d 215 [.inl (some 57), .inr (.inl y3)] s105) fun r108 s107 =>
if r108 = 0 then (
P_X12_peace_15 d y1 y2 (zw (y3 + 1)) s107) else (
P_X12_peace_15 d y1 y3 (zw (y3 + 1)) s107)) else (
P_X12_peace_15 d y1 y2 (zw (y3 + 1)) s105)) else (
if y1 = 1 then (
zri y2 σ) else (
zCI LAY (zx d 253 [.inr (.inl y2)] σ) fun r102 s101 =>
zri r102 s101))) := by
  have hm := zexec_m zX2 zMT d
  show zrunL zX2 (zexec zX2 zMT d) K_X12_peace U_X12_peace 15 [some (.inl (some 57)), some (.inr (.inl y1)), some (.inr (.inl y2)), some (.inr (.inl y3))] [] (LAY, σ) = _
  refine (zq_iln hm (pc' := 16) rfl rfl rfl rfl).trans ?_
  refine (zq_ic hm (pc' := 17) rfl rfl rfl rfl).trans ?_
  refine (zq_aln hm (pc' := 18) rfl rfl rfl rfl).trans ?_
  refine (zq_gf hm (v := (σ 57 0)) (pc' := 21) rfl lay_57 rfl rfl rfl).trans ?_
  refine (zJ_n rfl).trans ?_
  refine (zq_ishl hm (pc' := 22) rfl rfl rfl).trans ?_
  refine (zq_ige hm (pc' := 25) rfl rfl).trans (zite ?_ ?_)
  · refine (zJ_n rfl).trans ?_
    refine (zq_iln hm (pc' := 26) rfl rfl rfl rfl).trans ?_
    refine (zq_s1 hm (pc' := 29) rfl rfl rfl rfl rfl rfl).trans (zCI_c rfl (fun r104 s103 => ?_))
    refine (zJ_n rfl).trans ?_
    refine (zq_iln hm (pc' := 30) rfl rfl rfl rfl).trans ?_
    refine (zq_s1 hm (pc' := 33) rfl rfl rfl rfl rfl rfl).trans (zCI_c rfl (fun r106 s105 => ?_))
    refine (zJ_n rfl).trans ?_
    refine (zq_ile hm (pc' := 36) rfl rfl).trans (zite ?_ ?_)
    · refine (zJ_n rfl).trans ?_
      refine (zq_aln hm (pc' := 37) rfl rfl rfl rfl).trans ?_
      refine (zq_iln hm (pc' := 38) rfl rfl rfl rfl).trans ?_
      refine (zq_v1 hm (pc' := 41) rfl rfl rfl (cls_57_12) rfl rfl).trans (zCI_c rfl (fun r108 s107 => ?_))
      refine (zJ_n rfl).trans ?_
      refine (zq_zeq hm (pc' := 44) rfl rfl).trans (zite ?_ ?_)
      · refine (zJ_n rfl).trans ?_
        refine (zq_iinc hm (ls' := [some (.inl (some 57)), some (.inr (.inl y1)), some (.inr (.inl y2)), some (.inr (.inl (zw (y3 + 1))))]) (pc' := 49) rfl rfl rfl rfl rfl rfl).trans ?_
        exact (zc_goto hm rfl rfl).trans rfl
      · refine (zJ_n rfl).trans ?_
        refine (zq_iln hm (pc' := 45) rfl rfl rfl rfl).trans ?_
        refine (zq_isn hm (ls' := [some (.inl (some 57)), some (.inr (.inl y1)), some (.inr (.inl y3)), some (.inr (.inl y3))]) (pc' := 46) rfl rfl rfl rfl).trans ?_
        refine (zq_iinc hm (ls' := [some (.inl (some 57)), some (.inr (.inl y1)), some (.inr (.inl y3)), some (.inr (.inl (zw (y3 + 1))))]) (pc' := 49) rfl rfl rfl rfl rfl rfl).trans ?_
        exact (zc_goto hm rfl rfl).trans rfl
    · refine (zJ_n rfl).trans ?_
      refine (zq_iinc hm (ls' := [some (.inl (some 57)), some (.inr (.inl y1)), some (.inr (.inl y2)), some (.inr (.inl (zw (y3 + 1))))]) (pc' := 49) rfl rfl rfl rfl rfl rfl).trans ?_
      exact (zc_goto hm rfl rfl).trans rfl
  · refine (zJ_n rfl).trans ?_
    refine (zq_iln hm (pc' := 53) rfl rfl rfl rfl).trans ?_
    refine (zq_ic hm (pc' := 54) rfl rfl rfl rfl).trans ?_
    refine (zq_ine hm (pc' := 57) rfl rfl).trans (zite ?_ ?_)
    · refine (zJ_n rfl).trans ?_
      refine (zq_iln hm (pc' := 58) rfl rfl rfl rfl).trans ?_
      refine (zq_goto hm rfl rfl).trans ?_
      exact zq_ri hm rfl rfl
    · refine (zJ_n rfl).trans ?_
      refine (zq_iln hm (pc' := 62) rfl rfl rfl rfl).trans ?_
      refine (zq_s1 hm (pc' := 65) rfl rfl rfl rfl rfl rfl).trans (zCI_c rfl (fun r102 s101 => ?_))
      refine (zJ_n rfl).trans ?_
      exact zq_ri hm rfl rfl
noncomputable def P_X12_ring_37 (d : Nat) (y1 : Int) (y2 : Int) (y3 : Int) (y4 : Int) (y5 : Int) (σ : zF) : Option zR := zrunL zX2 (zexec zX2 zMT d) K_X12_ring U_X12_ring 37 [some (.inl (some 57)), some (.inr (.inl y1)), some (.inr (.inl y2)), some (.inr (.inl y3)), some (.inr (.inl y4)), some (.inr (.inl y5))] [] (LAY, σ)
set_option maxRecDepth 100000 in
set_option maxHeartbeats 4000000 in
theorem e_X12_ring (d : Nat) (x1 : Int) (x2 : Int) (σ : zF) : zx (d + 1) 217 [.inl (some 57), .inr (.inl x1), .inr (.inl x2)] σ = (
zCI LAY (zx d 154 [.inl (some 57), .inr (.inl x1)] σ) fun r2 s1 =>
if r2 = 0 then (
zri (-1) s1) else (
zCI LAY (zx d 153 [.inr (.inl x2), .inr (.inl 0), .inr (.inl 1)] s1) fun r4 s3 =>
if r4 = 0 then (
zri (-1) s3) else (
if 0 ≤ zw (24 + x1) ∧ zw (24 + x1) < 48 then (
P_X12_ring_37 d x1 x2 (zshl 1 x1) (s3 60 (zw (24 + x1))) 0 s3) else (
none)))) := by
  unfold zx
  have hm := zexec_m zX2 zMT d
  refine (zexec_eq mt_217 _ rfl (LAY, σ) 0).trans ?_
  show zrunL zX2 (zexec zX2 zMT d) K_X12_ring U_X12_ring 0 [some (.inl (some 57)), some (.inr (.inl x1)), some (.inr (.inl x2)), none, none, none] [] (LAY, σ) = _
  refine (zq_aln hm (pc' := 1) rfl rfl rfl rfl).trans ?_
  refine (zq_iln hm (pc' := 2) rfl rfl rfl rfl).trans ?_
  refine (zq_v1 hm (pc' := 5) rfl rfl rfl (cls_57_12) rfl rfl).trans (zCI_c rfl (fun r2 s1 => ?_))
  refine (zJ_n rfl).trans ?_
  refine (zq_zeq hm (pc' := 8) rfl rfl).trans (zite ?_ ?_)
  · refine (zJ_n rfl).trans ?_
    refine (zq_ic hm (pc' := 18) rfl rfl rfl rfl).trans ?_
    exact zq_ri hm rfl rfl
  · refine (zJ_n rfl).trans ?_
    refine (zq_iln hm (pc' := 9) rfl rfl rfl rfl).trans ?_
    refine (zq_ic hm (pc' := 10) rfl rfl rfl rfl).trans ?_
    refine (zq_ic hm (pc' := 11) rfl rfl rfl rfl).trans ?_
    refine (zq_s1 hm (pc' := 14) rfl rfl rfl rfl rfl rfl).trans (zCI_c rfl (fun r4 s3 => ?_))
    refine (zJ_n rfl).trans ?_
    refine (zq_zne hm (pc' := 17) rfl rfl).trans (zite ?_ ?_)
    · refine (zJ_n rfl).trans ?_
      refine (zq_ic hm (pc' := 18) rfl rfl rfl rfl).trans ?_
      exact zq_ri hm rfl rfl
    · refine (zJ_n rfl).trans ?_
      refine (zq_ic hm (pc' := 20) rfl rfl rfl rfl).trans ?_
      refine (zq_iln hm (pc' := 21) rfl rfl rfl rfl).trans ?_
      refine (zq_ishl hm (pc' := 22) rfl rfl rfl).trans ?_
      refine (zq_isn hm (ls' := [some (.inl (some 57)), some (.inr (.inl x1)), some (.inr (.inl x2)), some (.inr (.inl (zshl 1 x1))), none, none]) (pc' := 23) rfl rfl rfl rfl).trans ?_
      refine (zq_aln hm (pc' := 24) rfl rfl rfl rfl).trans ?_
      refine (zq_gr hm (pc' := 27) rfl lay_57 rfl rfl).trans ?_
      refine (zJ_n rfl).trans ?_
      refine (zq_bi hm (pc' := 29) rfl rfl rfl rfl).trans ?_
      refine (zq_iln hm (pc' := 30) rfl rfl rfl rfl).trans ?_
      refine (zq_iadd hm (pc' := 31) rfl rfl rfl).trans ?_
      refine (zq_ia hm (v := (s3 60 (zw (24 + x1)))) (pc' := 32) rfl lay_60 rfl rfl).trans (zite ?_ rfl)
      refine (zJ_n rfl).trans ?_
      refine (zq_is hm (ls' := [some (.inl (some 57)), some (.inr (.inl x1)), some (.inr (.inl x2)), some (.inr (.inl (zshl 1 x1))), some (.inr (.inl (s3 60 (zw (24 + x1))))), none]) (pc' := 34) rfl rfl rfl rfl).trans ?_
      refine (zq_ic hm (pc' := 35) rfl rfl rfl rfl).trans ?_
      exact (zc_is hm (ls' := [some (.inl (some 57)), some (.inr (.inl x1)), some (.inr (.inl x2)), some (.inr (.inl (zshl 1 x1))), some (.inr (.inl (s3 60 (zw (24 + x1))))), some (.inr (.inl 0))]) (pc' := 37) rfl rfl rfl rfl).trans rfl
set_option maxRecDepth 100000 in
set_option maxHeartbeats 4000000 in
theorem e_X12_ring_37 (d : Nat) (y1 : Int) (y2 : Int) (y3 : Int) (y4 : Int) (y5 : Int) (σ : zF) : P_X12_ring_37 d y1 y2 y3 y4 y5 σ = (
if y4 < 0 then (
if y2 = 1 then (
zri y5 σ) else (
if y4 = y1 then (
zri (zw (y5 + 1)) σ) else (
zri (-2) σ))) else (
if zand (zshr y3 y4) 1 = 0 then (
if 0 ≤ zw (24 + y4) ∧ zw (24 + y4) < 48 then (
P_X12_ring_37 d y1 y2 (zor y3 (zshl 1 y4)) (σ 60 (zw (24 + y4))) (zw (y5 + 1)) σ) else (
none)) else (
if y2 = 1 then (
zri y5 σ) else (
if y4 = y1 then (
zri (zw (y5 + 1)) σ) else (
zri (-2) σ))))) := by
  have hm := zexec_m zX2 zMT d
  show zrunL zX2 (zexec zX2 zMT d) K_X12_ring U_X12_ring 37 [some (.inl (some 57)), some (.inr (.inl y1)), some (.inr (.inl y2)), some (.inr (.inl y3)), some (.inr (.inl y4)), some (.inr (.inl y5))] [] (LAY, σ) = _
  refine (zq_il hm (pc' := 39) rfl rfl rfl rfl).trans ?_
  refine (zq_zlt hm (pc' := 42) rfl rfl).trans (zite ?_ ?_)
  · refine (zJ_n rfl).trans ?_
    refine (zq_iln hm (pc' := 77) rfl rfl rfl rfl).trans ?_
    refine (zq_ic hm (pc' := 78) rfl rfl rfl rfl).trans ?_
    refine (zq_ine hm (pc' := 81) rfl rfl).trans (zite ?_ ?_)
    · refine (zJ_n rfl).trans ?_
      refine (zq_il hm (pc' := 83) rfl rfl rfl rfl).trans ?_
      refine (zq_goto hm rfl rfl).trans ?_
      exact zq_ri hm rfl rfl
    · refine (zJ_n rfl).trans ?_
      refine (zq_il hm (pc' := 88) rfl rfl rfl rfl).trans ?_
      refine (zq_iln hm (pc' := 89) rfl rfl rfl rfl).trans ?_
      refine (zq_ine hm (pc' := 92) rfl rfl).trans (zite ?_ ?_)
      · refine (zJ_n rfl).trans ?_
        refine (zq_il hm (pc' := 94) rfl rfl rfl rfl).trans ?_
        refine (zq_ic hm (pc' := 95) rfl rfl rfl rfl).trans ?_
        refine (zq_iadd hm (pc' := 96) rfl rfl rfl).trans ?_
        refine (zq_goto hm rfl rfl).trans ?_
        exact zq_ri hm rfl rfl
      · refine (zJ_n rfl).trans ?_
        refine (zq_bi hm (pc' := 101) rfl rfl rfl rfl).trans ?_
        exact zq_ri hm rfl rfl
  · refine (zJ_n rfl).trans ?_
    refine (zq_iln hm (pc' := 43) rfl rfl rfl rfl).trans ?_
    refine (zq_il hm (pc' := 45) rfl rfl rfl rfl).trans ?_
    refine (zq_ishr hm (pc' := 46) rfl rfl rfl).trans ?_
    refine (zq_ic hm (pc' := 47) rfl rfl rfl rfl).trans ?_
    refine (zq_iand hm (pc' := 48) rfl rfl rfl).trans ?_
    refine (zq_zne hm (pc' := 51) rfl rfl).trans (zite ?_ ?_)
    · refine (zJ_n rfl).trans ?_
      refine (zq_iln hm (pc' := 52) rfl rfl rfl rfl).trans ?_
      refine (zq_ic hm (pc' := 53) rfl rfl rfl rfl).trans ?_
      refine (zq_il hm (pc' := 55) rfl rfl rfl rfl).trans ?_
      refine (zq_ishl hm (pc' := 56) rfl rfl rfl).trans ?_
      refine (zq_ior hm (pc' := 57) rfl rfl rfl).trans ?_
      refine (zq_isn hm (ls' := [some (.inl (some 57)), some (.inr (.inl y1)), some (.inr (.inl y2)), some (.inr (.inl (zor y3 (zshl 1 y4)))), some (.inr (.inl y4)), some (.inr (.inl y5))]) (pc' := 58) rfl rfl rfl rfl).trans ?_
      refine (zq_iinc hm (ls' := [some (.inl (some 57)), some (.inr (.inl y1)), some (.inr (.inl y2)), some (.inr (.inl (zor y3 (zshl 1 y4)))), some (.inr (.inl y4)), some (.inr (.inl (zw (y5 + 1))))]) (pc' := 61) rfl rfl rfl rfl rfl rfl).trans ?_
      refine (zq_aln hm (pc' := 62) rfl rfl rfl rfl).trans ?_
      refine (zq_gr hm (pc' := 65) rfl lay_57 rfl rfl).trans ?_
      refine (zJ_n rfl).trans ?_
      refine (zq_bi hm (pc' := 67) rfl rfl rfl rfl).trans ?_
      refine (zq_il hm (pc' := 69) rfl rfl rfl rfl).trans ?_
      refine (zq_iadd hm (pc' := 70) rfl rfl rfl).trans ?_
      refine (zq_ia hm (v := (σ 60 (zw (24 + y4)))) (pc' := 71) rfl lay_60 rfl rfl).trans (zite ?_ rfl)
      refine (zJ_n rfl).trans ?_
      refine (zq_is hm (ls' := [some (.inl (some 57)), some (.inr (.inl y1)), some (.inr (.inl y2)), some (.inr (.inl (zor y3 (zshl 1 y4)))), some (.inr (.inl (σ 60 (zw (24 + y4))))), some (.inr (.inl (zw (y5 + 1))))]) (pc' := 73) rfl rfl rfl rfl).trans ?_
      exact (zc_goto hm rfl rfl).trans rfl
    · refine (zJ_n rfl).trans ?_
      refine (zq_iln hm (pc' := 77) rfl rfl rfl rfl).trans ?_
      refine (zq_ic hm (pc' := 78) rfl rfl rfl rfl).trans ?_
      refine (zq_ine hm (pc' := 81) rfl rfl).trans (zite ?_ ?_)
      · refine (zJ_n rfl).trans ?_
        refine (zq_il hm (pc' := 83) rfl rfl rfl rfl).trans ?_
        refine (zq_goto hm rfl rfl).trans ?_
        exact zq_ri hm rfl rfl
      · refine (zJ_n rfl).trans ?_
        refine (zq_il hm (pc' := 88) rfl rfl rfl rfl).trans ?_
        refine (zq_iln hm (pc' := 89) rfl rfl rfl rfl).trans ?_
        refine (zq_ine hm (pc' := 92) rfl rfl).trans (zite ?_ ?_)
        · refine (zJ_n rfl).trans ?_
          refine (zq_il hm (pc' := 94) rfl rfl rfl rfl).trans ?_
          refine (zq_ic hm (pc' := 95) rfl rfl rfl rfl).trans ?_
          refine (zq_iadd hm (pc' := 96) rfl rfl rfl).trans ?_
          refine (zq_goto hm rfl rfl).trans ?_
          exact zq_ri hm rfl rfl
        · refine (zJ_n rfl).trans ?_
          refine (zq_bi hm (pc' := 101) rfl rfl rfl rfl).trans ?_
          exact zq_ri hm rfl rfl
set_option maxRecDepth 100000 in
set_option maxHeartbeats 4000000 in
theorem e_X12_noSunday (d : Nat) (x1 : Int) (σ : zF) : zx (d + 1) 218 [.inl (some 57), .inr (.inl x1)] σ = (
if 0 ≤ x1 ∧ x1 < 6 then (
if (σ 81 x1) = (-1) then (
zri (-11) σ) else (
if 0 ≤ x1 ∧ x1 < 6 then (
if (σ 81 x1) = 1 then (
zri 0 σ) else (
zri (-12) σ)) else (
none))) else (
none)) := by
  unfold zx
  have hm := zexec_m zX2 zMT d
  refine (zexec_eq mt_218 _ rfl (LAY, σ) 0).trans ?_
  show zrunL zX2 (zexec zX2 zMT d) K_X12_noSunday U_X12_noSunday 0 [some (.inl (some 57)), some (.inr (.inl x1))] [] (LAY, σ) = _
  refine (zq_aln hm (pc' := 1) rfl rfl rfl rfl).trans ?_
  refine (zq_gr hm (pc' := 4) rfl lay_57 rfl rfl).trans ?_
  refine (zJ_n rfl).trans ?_
  refine (zq_iln hm (pc' := 5) rfl rfl rfl rfl).trans ?_
  refine (zq_ia hm (v := (σ 81 x1)) (pc' := 6) rfl lay_81 rfl rfl).trans (zite ?_ rfl)
  refine (zJ_n rfl).trans ?_
  refine (zq_ic hm (pc' := 7) rfl rfl rfl rfl).trans ?_
  refine (zq_ine hm (pc' := 10) rfl rfl).trans (zite ?_ ?_)
  · refine (zJ_n rfl).trans ?_
    refine (zq_bi hm (pc' := 12) rfl rfl rfl rfl).trans ?_
    refine (zq_goto hm rfl rfl).trans ?_
    exact zq_ri hm rfl rfl
  · refine (zJ_n rfl).trans ?_
    refine (zq_aln hm (pc' := 16) rfl rfl rfl rfl).trans ?_
    refine (zq_gr hm (pc' := 19) rfl lay_57 rfl rfl).trans ?_
    refine (zJ_n rfl).trans ?_
    refine (zq_iln hm (pc' := 20) rfl rfl rfl rfl).trans ?_
    refine (zq_ia hm (v := (σ 81 x1)) (pc' := 21) rfl lay_81 rfl rfl).trans (zite ?_ rfl)
    refine (zJ_n rfl).trans ?_
    refine (zq_ic hm (pc' := 22) rfl rfl rfl rfl).trans ?_
    refine (zq_ieq hm (pc' := 25) rfl rfl).trans (zite ?_ ?_)
    · refine (zJ_n rfl).trans ?_
      refine (zq_ic hm (pc' := 31) rfl rfl rfl rfl).trans ?_
      exact zq_ri hm rfl rfl
    · refine (zJ_n rfl).trans ?_
      refine (zq_bi hm (pc' := 27) rfl rfl rfl rfl).trans ?_
      refine (zq_goto hm rfl rfl).trans ?_
      exact zq_ri hm rfl rfl
noncomputable def P_X12_unlike_2 (d : Nat) (y1 : Int) (y2 : Int) (σ : zF) : Option zR := zrunL zX2 (zexec zX2 zMT d) K_X12_unlike U_X12_unlike 2 [some (.inl (some 57)), some (.inr (.inl y1)), some (.inr (.inl y2))] [] (LAY, σ)
set_option maxRecDepth 100000 in
set_option maxHeartbeats 4000000 in
theorem e_X12_unlike (d : Nat) (x1 : Int) (σ : zF) : zx (d + 1) 219 [.inl (some 57), .inr (.inl x1)] σ = (
P_X12_unlike_2 d x1 0 σ) := by
  unfold zx
  have hm := zexec_m zX2 zMT d
  refine (zexec_eq mt_219 _ rfl (LAY, σ) 0).trans ?_
  show zrunL zX2 (zexec zX2 zMT d) K_X12_unlike U_X12_unlike 0 [some (.inl (some 57)), some (.inr (.inl x1)), none] [] (LAY, σ) = _
  refine (zq_ic hm (pc' := 1) rfl rfl rfl rfl).trans ?_
  exact (zc_isn hm (ls' := [some (.inl (some 57)), some (.inr (.inl x1)), some (.inr (.inl 0))]) (pc' := 2) rfl rfl rfl rfl).trans rfl
set_option maxRecDepth 100000 in
set_option maxHeartbeats 4000000 in
theorem e_X12_unlike_2 (d : Nat) (y1 : Int) (y2 : Int) (σ : zF) : P_X12_unlike_2 d y1 y2 σ = (
if 0 ≤ y1 ∧ y1 < 6 then (
if y2 < (σ 82 y1) then (
if y2 < (σ 57 0) then (
zCI LAY (zx d 192 [.inl (some 57), .inr (.inl y2)] σ) fun r102 s101 =>
zCI LAY (zx d 162 [.inl (some 57), .inr (.inl y1), .inr (.inl y2)] s101) fun r104 s103 =>
if r102 = r104 then (
P_X12_unlike_2 d y1 (zw (y2 + 1)) s103) else (
zri y2 s103)) else (
zri y2 σ)) else (
zri (-2) σ)) else (
none)) := by
  have hm := zexec_m zX2 zMT d
  show zrunL zX2 (zexec zX2 zMT d) K_X12_unlike U_X12_unlike 2 [some (.inl (some 57)), some (.inr (.inl y1)), some (.inr (.inl y2))] [] (LAY, σ) = _
  refine (zq_iln hm (pc' := 3) rfl rfl rfl rfl).trans ?_
  refine (zq_aln hm (pc' := 4) rfl rfl rfl rfl).trans ?_
  refine (zq_gr hm (pc' := 7) rfl lay_57 rfl rfl).trans ?_
  refine (zJ_n rfl).trans ?_
  refine (zq_iln hm (pc' := 8) rfl rfl rfl rfl).trans ?_
  refine (zq_ia hm (v := (σ 82 y1)) (pc' := 9) rfl lay_82 rfl rfl).trans (zite ?_ rfl)
  refine (zJ_n rfl).trans ?_
  refine (zq_ige hm (pc' := 12) rfl rfl).trans (zite ?_ ?_)
  · refine (zJ_n rfl).trans ?_
    refine (zq_iln hm (pc' := 13) rfl rfl rfl rfl).trans ?_
    refine (zq_aln hm (pc' := 14) rfl rfl rfl rfl).trans ?_
    refine (zq_gf hm (v := (σ 57 0)) (pc' := 17) rfl lay_57 rfl rfl rfl).trans ?_
    refine (zJ_n rfl).trans ?_
    refine (zq_ige hm (pc' := 20) rfl rfl).trans (zite ?_ ?_)
    · refine (zJ_n rfl).trans ?_
      refine (zq_aln hm (pc' := 21) rfl rfl rfl rfl).trans ?_
      refine (zq_iln hm (pc' := 22) rfl rfl rfl rfl).trans ?_
      refine (zq_v1 hm (pc' := 25) rfl rfl rfl (cls_57_12) rfl rfl).trans (zCI_c rfl (fun r102 s101 => ?_))
      refine (zJ_n rfl).trans ?_
      refine (zq_aln hm (pc' := 26) rfl rfl rfl rfl).trans ?_
      refine (zq_iln hm (pc' := 27) rfl rfl rfl rfl).trans ?_
      refine (zq_iln hm (pc' := 28) rfl rfl rfl rfl).trans ?_
      refine (zq_v1 hm (pc' := 31) rfl rfl rfl (cls_57_12) rfl rfl).trans (zCI_c rfl (fun r104 s103 => ?_))
      refine (zJ_n rfl).trans ?_
      refine (zq_ieq hm (pc' := 34) rfl rfl).trans (zite ?_ ?_)
      · refine (zJ_n rfl).trans ?_
        refine (zq_iinc hm (ls' := [some (.inl (some 57)), some (.inr (.inl y1)), some (.inr (.inl (zw (y2 + 1))))]) (pc' := 39) rfl rfl rfl rfl rfl rfl).trans ?_
        exact (zc_goto hm rfl rfl).trans rfl
      · refine (zJ_n rfl).trans ?_
        refine (zq_iln hm (pc' := 35) rfl rfl rfl rfl).trans ?_
        exact zq_ri hm rfl rfl
    · refine (zJ_n rfl).trans ?_
      refine (zq_iln hm (pc' := 35) rfl rfl rfl rfl).trans ?_
      exact zq_ri hm rfl rfl
  · refine (zJ_n rfl).trans ?_
    refine (zq_bi hm (pc' := 44) rfl rfl rfl rfl).trans ?_
    exact zq_ri hm rfl rfl
set_option maxRecDepth 100000 in
set_option maxHeartbeats 4000000 in
theorem e_X12_judge (d : Nat) (x1 : Int) (σ : zF) : zx (d + 1) 220 [.inl (some 57), .inr (.inl x1)] σ = (
zCI LAY (zx d 158 [.inr (.inl x1)] σ) fun r2 s1 =>
if r2 = 0 then (
zri (-1) s1) else (
zCI LAY (zx d 218 [.inl (some 57), .inr (.inl x1)] s1) fun r4 s3 =>
if r4 < 0 then (
zri r4 s3) else (
zCI LAY (zx d 219 [.inl (some 57), .inr (.inl x1)] s3) fun r6 s5 =>
zri r6 s5))) := by
  unfold zx
  have hm := zexec_m zX2 zMT d
  refine (zexec_eq mt_220 _ rfl (LAY, σ) 0).trans ?_
  show zrunL zX2 (zexec zX2 zMT d) K_X12_judge U_X12_judge 0 [some (.inl (some 57)), some (.inr (.inl x1)), none] [] (LAY, σ) = _
  refine (zq_iln hm (pc' := 1) rfl rfl rfl rfl).trans ?_
  refine (zq_s1 hm (pc' := 4) rfl rfl rfl rfl rfl rfl).trans (zCI_c rfl (fun r2 s1 => ?_))
  refine (zJ_n rfl).trans ?_
  refine (zq_zne hm (pc' := 7) rfl rfl).trans (zite ?_ ?_)
  · refine (zJ_n rfl).trans ?_
    refine (zq_ic hm (pc' := 8) rfl rfl rfl rfl).trans ?_
    exact zq_ri hm rfl rfl
  · refine (zJ_n rfl).trans ?_
    refine (zq_aln hm (pc' := 10) rfl rfl rfl rfl).trans ?_
    refine (zq_iln hm (pc' := 11) rfl rfl rfl rfl).trans ?_
    refine (zq_v1 hm (pc' := 14) rfl rfl rfl (cls_57_12) rfl rfl).trans (zCI_c rfl (fun r4 s3 => ?_))
    refine (zJ_n rfl).trans ?_
    refine (zq_isn hm (ls' := [some (.inl (some 57)), some (.inr (.inl x1)), some (.inr (.inl r4))]) (pc' := 15) rfl rfl rfl rfl).trans ?_
    refine (zq_iln hm (pc' := 16) rfl rfl rfl rfl).trans ?_
    refine (zq_zge hm (pc' := 19) rfl rfl).trans (zite ?_ ?_)
    · refine (zJ_n rfl).trans ?_
      refine (zq_iln hm (pc' := 20) rfl rfl rfl rfl).trans ?_
      refine (zq_goto hm rfl rfl).trans ?_
      exact zq_ri hm rfl rfl
    · refine (zJ_n rfl).trans ?_
      refine (zq_aln hm (pc' := 24) rfl rfl rfl rfl).trans ?_
      refine (zq_iln hm (pc' := 25) rfl rfl rfl rfl).trans ?_
      refine (zq_v1 hm (pc' := 28) rfl rfl rfl (cls_57_12) rfl rfl).trans (zCI_c rfl (fun r6 s5 => ?_))
      refine (zJ_n rfl).trans ?_
      exact zq_ri hm rfl rfl
set_option maxRecDepth 100000 in
set_option maxHeartbeats 4000000 in
theorem e_X12_deed (d : Nat) (x1 : Int) (σ : zF) : zx (d + 1) 221 [.inl (some 57), .inr (.inl x1)] σ = (
if x1 < 0 then (
zrv σ) else (
if (3 : Int) = 0 then none else (
if (3 : Int) = 0 then none else (
zCV LAY (zx d 196 [.inl (some 57), .inr (.inl (zdiv x1 3)), .inr (.inl (zrem x1 3))] σ) fun s1 =>
zrv s1)))) := by
  unfold zx
  have hm := zexec_m zX2 zMT d
  refine (zexec_eq mt_221 _ rfl (LAY, σ) 0).trans ?_
  show zrunL zX2 (zexec zX2 zMT d) K_X12_deed U_X12_deed 0 [some (.inl (some 57)), some (.inr (.inl x1))] [] (LAY, σ) = _
  refine (zq_iln hm (pc' := 1) rfl rfl rfl rfl).trans ?_
  refine (zq_zlt hm (pc' := 4) rfl rfl).trans (zite ?_ ?_)
  · refine (zJ_n rfl).trans ?_
    exact zq_rv hm rfl
  · refine (zJ_n rfl).trans ?_
    refine (zq_aln hm (pc' := 5) rfl rfl rfl rfl).trans ?_
    refine (zq_iln hm (pc' := 6) rfl rfl rfl rfl).trans ?_
    refine (zq_ic hm (pc' := 7) rfl rfl rfl rfl).trans ?_
    refine (zq_idiv hm (pc' := 8) rfl rfl).trans (zite rfl ?_)
    refine (zJ_n rfl).trans ?_
    refine (zq_iln hm (pc' := 9) rfl rfl rfl rfl).trans ?_
    refine (zq_ic hm (pc' := 10) rfl rfl rfl rfl).trans ?_
    refine (zq_irem hm (pc' := 11) rfl rfl).trans (zite rfl ?_)
    refine (zJ_n rfl).trans ?_
    refine (zq_v0 hm (pc' := 14) rfl rfl rfl (cls_57_12) rfl rfl).trans (zCV_c rfl (fun s1 => ?_))
    refine (zJ_n rfl).trans ?_
    exact zq_rv hm rfl
set_option maxRecDepth 100000 in
set_option maxHeartbeats 4000000 in
theorem e_X12_isDeed (d : Nat) (x1 : Int) (σ : zF) : zx (d + 1) 222 [.inl (some 57), .inr (.inl x1)] σ = (
if x1 < 0 then (
zri 0 σ) else (
if x1 < zw (3 * (σ 57 0)) then (
if (3 : Int) = 0 then none else (
if (0 : Int) < zrem x1 3 then (
zri 1 σ) else (
zri 0 σ))) else (
zri 0 σ))) := by
  unfold zx
  have hm := zexec_m zX2 zMT d
  refine (zexec_eq mt_222 _ rfl (LAY, σ) 0).trans ?_
  show zrunL zX2 (zexec zX2 zMT d) K_X12_isDeed U_X12_isDeed 0 [some (.inl (some 57)), some (.inr (.inl x1))] [] (LAY, σ) = _
  refine (zq_iln hm (pc' := 1) rfl rfl rfl rfl).trans ?_
  refine (zq_zlt hm (pc' := 4) rfl rfl).trans (zite ?_ ?_)
  · refine (zJ_n rfl).trans ?_
    refine (zq_ic hm (pc' := 25) rfl rfl rfl rfl).trans ?_
    exact (zq_rb hm rfl rfl).trans (zif1 (by decide))
  · refine (zJ_n rfl).trans ?_
    refine (zq_iln hm (pc' := 5) rfl rfl rfl rfl).trans ?_
    refine (zq_ic hm (pc' := 6) rfl rfl rfl rfl).trans ?_
    refine (zq_aln hm (pc' := 7) rfl rfl rfl rfl).trans ?_
    refine (zq_gf hm (v := (σ 57 0)) (pc' := 10) rfl lay_57 rfl rfl rfl).trans ?_
    refine (zJ_n rfl).trans ?_
    refine (zq_imul hm (pc' := 11) rfl rfl rfl).trans ?_
    refine (zq_ige hm (pc' := 14) rfl rfl).trans (zite ?_ ?_)
    · refine (zJ_n rfl).trans ?_
      refine (zq_iln hm (pc' := 15) rfl rfl rfl rfl).trans ?_
      refine (zq_ic hm (pc' := 16) rfl rfl rfl rfl).trans ?_
      refine (zq_irem hm (pc' := 17) rfl rfl).trans (zite rfl ?_)
      refine (zJ_n rfl).trans ?_
      refine (zq_zle hm (pc' := 20) rfl rfl).trans (zite ?_ ?_)
      · refine (zJ_n rfl).trans ?_
        refine (zq_ic hm (pc' := 21) rfl rfl rfl rfl).trans ?_
        refine (zq_goto hm rfl rfl).trans ?_
        exact (zq_rb hm rfl rfl).trans (zif1 (by decide))
      · refine (zJ_n rfl).trans ?_
        refine (zq_ic hm (pc' := 25) rfl rfl rfl rfl).trans ?_
        exact (zq_rb hm rfl rfl).trans (zif1 (by decide))
    · refine (zJ_n rfl).trans ?_
      refine (zq_ic hm (pc' := 25) rfl rfl rfl rfl).trans ?_
      exact (zq_rb hm rfl rfl).trans (zif1 (by decide))
noncomputable def P_X12_byOne_24 (d : Nat) (y1 : Int) (y2 : Int) (y3 : Int) (y4 : Int) (y5 : Int) (σ : zF) : Option zR := zrunL zX2 (zexec zX2 zMT d) K_X12_byOne U_X12_byOne 24 [some (.inl (some 57)), some (.inr (.inl y1)), some (.inr (.inl y2)), some (.inr (.inl y3)), some (.inr (.inl y4)), some (.inr (.inl y5))] [] (LAY, σ)
set_option maxRecDepth 100000 in
set_option maxHeartbeats 4000000 in
theorem e_X12_byOne (d : Nat) (x1 : Int) (x2 : Int) (σ : zF) : zx (d + 1) 223 [.inl (some 57), .inr (.inl x1), .inr (.inl x2)] σ = (
zCV LAY (zx d 197 [.inl (some 57), .inl (some 86)] σ) fun s1 =>
P_X12_byOne_24 d x1 x2 0 (-9) (zw ((zw (3 * (s1 57 0))) - 1)) s1) := by
  unfold zx
  have hm := zexec_m zX2 zMT d
  refine (zexec_eq mt_223 _ rfl (LAY, σ) 0).trans ?_
  show zrunL zX2 (zexec zX2 zMT d) K_X12_byOne U_X12_byOne 0 [some (.inl (some 57)), some (.inr (.inl x1)), some (.inr (.inl x2)), none, none, none] [] (LAY, σ) = _
  refine (zq_aln hm (pc' := 1) rfl rfl rfl rfl).trans ?_
  refine (zq_aln hm (pc' := 2) rfl rfl rfl rfl).trans ?_
  refine (zq_gr hm (pc' := 5) rfl lay_57 rfl rfl).trans ?_
  refine (zJ_n rfl).trans ?_
  refine (zq_v0 hm (pc' := 8) rfl rfl rfl (cls_57_12) rfl rfl).trans (zCV_c rfl (fun s1 => ?_))
  refine (zJ_n rfl).trans ?_
  refine (zq_ic hm (pc' := 9) rfl rfl rfl rfl).trans ?_
  refine (zq_isn hm (ls' := [some (.inl (some 57)), some (.inr (.inl x1)), some (.inr (.inl x2)), some (.inr (.inl 0)), none, none]) (pc' := 10) rfl rfl rfl rfl).trans ?_
  refine (zq_bi hm (pc' := 12) rfl rfl rfl rfl).trans ?_
  refine (zq_is hm (ls' := [some (.inl (some 57)), some (.inr (.inl x1)), some (.inr (.inl x2)), some (.inr (.inl 0)), some (.inr (.inl (-9))), none]) (pc' := 14) rfl rfl rfl rfl).trans ?_
  refine (zq_ic hm (pc' := 15) rfl rfl rfl rfl).trans ?_
  refine (zq_aln hm (pc' := 16) rfl rfl rfl rfl).trans ?_
  refine (zq_gf hm (v := (s1 57 0)) (pc' := 19) rfl lay_57 rfl rfl rfl).trans ?_
  refine (zJ_n rfl).trans ?_
  refine (zq_imul hm (pc' := 20) rfl rfl rfl).trans ?_
  refine (zq_ic hm (pc' := 21) rfl rfl rfl rfl).trans ?_
  refine (zq_isub hm (pc' := 22) rfl rfl rfl).trans ?_
  exact (zc_is hm (ls' := [some (.inl (some 57)), some (.inr (.inl x1)), some (.inr (.inl x2)), some (.inr (.inl 0)), some (.inr (.inl (-9))), some (.inr (.inl (zw ((zw (3 * (s1 57 0))) - 1))))]) (pc' := 24) rfl rfl rfl rfl).trans rfl
set_option maxRecDepth 100000 in
set_option maxHeartbeats 4000000 in
theorem e_X12_byOne_24 (d : Nat) (y1 : Int) (y2 : Int) (y3 : Int) (y4 : Int) (y5 : Int) (σ : zF) : P_X12_byOne_24 d y1 y2 y3 y4 y5 σ = (
if y5 < (-1) then (
if y2 = 0 then (
zri y3 σ) else (
zri y4 σ)) else (
if y5 < 0 then (
zCV LAY (zx d 221 [.inl (some 57), .inr (.inl y5)] σ) fun s101 =>
zCI LAY (zx d 219 [.inl (some 57), .inr (.inl y1)] s101) fun r103 s102 =>
if r103 = (-2) then (
zCV LAY (zx d 198 [.inl (some 57), .inl (some 86)] s102) fun s105 =>
P_X12_byOne_24 d y1 y2 (zw (y3 + 1)) y5 (zw (y5 + (-1))) s105) else (
zCV LAY (zx d 198 [.inl (some 57), .inl (some 86)] s102) fun s104 =>
P_X12_byOne_24 d y1 y2 y3 y4 (zw (y5 + (-1))) s104)) else (
zCI LAY (zx d 222 [.inl (some 57), .inr (.inl y5)] σ) fun r107 s106 =>
if r107 = 0 then (
P_X12_byOne_24 d y1 y2 y3 y4 (zw (y5 + (-1))) s106) else (
zCV LAY (zx d 221 [.inl (some 57), .inr (.inl y5)] s106) fun s108 =>
zCI LAY (zx d 219 [.inl (some 57), .inr (.inl y1)] s108) fun r110 s109 =>
if r110 = (-2) then (
zCV LAY (zx d 198 [.inl (some 57), .inl (some 86)] s109) fun s112 =>
P_X12_byOne_24 d y1 y2 (zw (y3 + 1)) y5 (zw (y5 + (-1))) s112) else (
zCV LAY (zx d 198 [.inl (some 57), .inl (some 86)] s109) fun s111 =>
P_X12_byOne_24 d y1 y2 y3 y4 (zw (y5 + (-1))) s111))))) := by
  have hm := zexec_m zX2 zMT d
  show zrunL zX2 (zexec zX2 zMT d) K_X12_byOne U_X12_byOne 24 [some (.inl (some 57)), some (.inr (.inl y1)), some (.inr (.inl y2)), some (.inr (.inl y3)), some (.inr (.inl y4)), some (.inr (.inl y5))] [] (LAY, σ) = _
  refine (zq_il hm (pc' := 26) rfl rfl rfl rfl).trans ?_
  refine (zq_ic hm (pc' := 27) rfl rfl rfl rfl).trans ?_
  refine (zq_ilt hm (pc' := 30) rfl rfl).trans (zite ?_ ?_)
  · refine (zJ_n rfl).trans ?_
    refine (zq_iln hm (pc' := 85) rfl rfl rfl rfl).trans ?_
    refine (zq_zne hm (pc' := 88) rfl rfl).trans (zite ?_ ?_)
    · refine (zJ_n rfl).trans ?_
      refine (zq_iln hm (pc' := 89) rfl rfl rfl rfl).trans ?_
      refine (zq_goto hm rfl rfl).trans ?_
      exact zq_ri hm rfl rfl
    · refine (zJ_n rfl).trans ?_
      refine (zq_il hm (pc' := 94) rfl rfl rfl rfl).trans ?_
      exact zq_ri hm rfl rfl
  · refine (zJ_n rfl).trans ?_
    refine (zq_il hm (pc' := 32) rfl rfl rfl rfl).trans ?_
    refine (zq_zlt hm (pc' := 35) rfl rfl).trans (zite ?_ ?_)
    · refine (zJ_n rfl).trans ?_
      refine (zq_aln hm (pc' := 48) rfl rfl rfl rfl).trans ?_
      refine (zq_il hm (pc' := 50) rfl rfl rfl rfl).trans ?_
      refine (zq_v0 hm (pc' := 53) rfl rfl rfl (cls_57_12) rfl rfl).trans (zCV_c rfl (fun s101 => ?_))
      refine (zJ_n rfl).trans ?_
      refine (zq_aln hm (pc' := 54) rfl rfl rfl rfl).trans ?_
      refine (zq_iln hm (pc' := 55) rfl rfl rfl rfl).trans ?_
      refine (zq_v1 hm (pc' := 58) rfl rfl rfl (cls_57_12) rfl rfl).trans (zCI_c rfl (fun r103 s102 => ?_))
      refine (zJ_n rfl).trans ?_
      refine (zq_bi hm (pc' := 60) rfl rfl rfl rfl).trans ?_
      refine (zq_ine hm (pc' := 63) rfl rfl).trans (zite ?_ ?_)
      · refine (zJ_n rfl).trans ?_
        refine (zq_iinc hm (ls' := [some (.inl (some 57)), some (.inr (.inl y1)), some (.inr (.inl y2)), some (.inr (.inl (zw (y3 + 1)))), some (.inr (.inl y4)), some (.inr (.inl y5))]) (pc' := 66) rfl rfl rfl rfl rfl rfl).trans ?_
        refine (zq_il hm (pc' := 68) rfl rfl rfl rfl).trans ?_
        refine (zq_is hm (ls' := [some (.inl (some 57)), some (.inr (.inl y1)), some (.inr (.inl y2)), some (.inr (.inl (zw (y3 + 1)))), some (.inr (.inl y5)), some (.inr (.inl y5))]) (pc' := 70) rfl rfl rfl rfl).trans ?_
        refine (zq_aln hm (pc' := 71) rfl rfl rfl rfl).trans ?_
        refine (zq_aln hm (pc' := 72) rfl rfl rfl rfl).trans ?_
        refine (zq_gr hm (pc' := 75) rfl lay_57 rfl rfl).trans ?_
        refine (zJ_n rfl).trans ?_
        refine (zq_v0 hm (pc' := 78) rfl rfl rfl (cls_57_12) rfl rfl).trans (zCV_c rfl (fun s105 => ?_))
        refine (zJ_n rfl).trans ?_
        refine (zq_iinc hm (ls' := [some (.inl (some 57)), some (.inr (.inl y1)), some (.inr (.inl y2)), some (.inr (.inl (zw (y3 + 1)))), some (.inr (.inl y5)), some (.inr (.inl (zw (y5 + (-1)))))]) (pc' := 81) rfl rfl rfl rfl rfl rfl).trans ?_
        exact (zc_goto hm rfl rfl).trans rfl
      · refine (zJ_n rfl).trans ?_
        refine (zq_aln hm (pc' := 71) rfl rfl rfl rfl).trans ?_
        refine (zq_aln hm (pc' := 72) rfl rfl rfl rfl).trans ?_
        refine (zq_gr hm (pc' := 75) rfl lay_57 rfl rfl).trans ?_
        refine (zJ_n rfl).trans ?_
        refine (zq_v0 hm (pc' := 78) rfl rfl rfl (cls_57_12) rfl rfl).trans (zCV_c rfl (fun s104 => ?_))
        refine (zJ_n rfl).trans ?_
        refine (zq_iinc hm (ls' := [some (.inl (some 57)), some (.inr (.inl y1)), some (.inr (.inl y2)), some (.inr (.inl y3)), some (.inr (.inl y4)), some (.inr (.inl (zw (y5 + (-1)))))]) (pc' := 81) rfl rfl rfl rfl rfl rfl).trans ?_
        exact (zc_goto hm rfl rfl).trans rfl
    · refine (zJ_n rfl).trans ?_
      refine (zq_aln hm (pc' := 36) rfl rfl rfl rfl).trans ?_
      refine (zq_il hm (pc' := 38) rfl rfl rfl rfl).trans ?_
      refine (zq_v1 hm (pc' := 41) rfl rfl rfl (cls_57_12) rfl rfl).trans (zCI_c rfl (fun r107 s106 => ?_))
      refine (zJ_n rfl).trans ?_
      refine (zq_zne hm (pc' := 44) rfl rfl).trans (zite ?_ ?_)
      · refine (zJ_n rfl).trans ?_
        refine (zq_goto hm rfl rfl).trans ?_
        refine (zq_iinc hm (ls' := [some (.inl (some 57)), some (.inr (.inl y1)), some (.inr (.inl y2)), some (.inr (.inl y3)), some (.inr (.inl y4)), some (.inr (.inl (zw (y5 + (-1)))))]) (pc' := 81) rfl rfl rfl rfl rfl rfl).trans ?_
        exact (zc_goto hm rfl rfl).trans rfl
      · refine (zJ_n rfl).trans ?_
        refine (zq_aln hm (pc' := 48) rfl rfl rfl rfl).trans ?_
        refine (zq_il hm (pc' := 50) rfl rfl rfl rfl).trans ?_
        refine (zq_v0 hm (pc' := 53) rfl rfl rfl (cls_57_12) rfl rfl).trans (zCV_c rfl (fun s108 => ?_))
        refine (zJ_n rfl).trans ?_
        refine (zq_aln hm (pc' := 54) rfl rfl rfl rfl).trans ?_
        refine (zq_iln hm (pc' := 55) rfl rfl rfl rfl).trans ?_
        refine (zq_v1 hm (pc' := 58) rfl rfl rfl (cls_57_12) rfl rfl).trans (zCI_c rfl (fun r110 s109 => ?_))
        refine (zJ_n rfl).trans ?_
        refine (zq_bi hm (pc' := 60) rfl rfl rfl rfl).trans ?_
        refine (zq_ine hm (pc' := 63) rfl rfl).trans (zite ?_ ?_)
        · refine (zJ_n rfl).trans ?_
          refine (zq_iinc hm (ls' := [some (.inl (some 57)), some (.inr (.inl y1)), some (.inr (.inl y2)), some (.inr (.inl (zw (y3 + 1)))), some (.inr (.inl y4)), some (.inr (.inl y5))]) (pc' := 66) rfl rfl rfl rfl rfl rfl).trans ?_
          refine (zq_il hm (pc' := 68) rfl rfl rfl rfl).trans ?_
          refine (zq_is hm (ls' := [some (.inl (some 57)), some (.inr (.inl y1)), some (.inr (.inl y2)), some (.inr (.inl (zw (y3 + 1)))), some (.inr (.inl y5)), some (.inr (.inl y5))]) (pc' := 70) rfl rfl rfl rfl).trans ?_
          refine (zq_aln hm (pc' := 71) rfl rfl rfl rfl).trans ?_
          refine (zq_aln hm (pc' := 72) rfl rfl rfl rfl).trans ?_
          refine (zq_gr hm (pc' := 75) rfl lay_57 rfl rfl).trans ?_
          refine (zJ_n rfl).trans ?_
          refine (zq_v0 hm (pc' := 78) rfl rfl rfl (cls_57_12) rfl rfl).trans (zCV_c rfl (fun s112 => ?_))
          refine (zJ_n rfl).trans ?_
          refine (zq_iinc hm (ls' := [some (.inl (some 57)), some (.inr (.inl y1)), some (.inr (.inl y2)), some (.inr (.inl (zw (y3 + 1)))), some (.inr (.inl y5)), some (.inr (.inl (zw (y5 + (-1)))))]) (pc' := 81) rfl rfl rfl rfl rfl rfl).trans ?_
          exact (zc_goto hm rfl rfl).trans rfl
        · refine (zJ_n rfl).trans ?_
          refine (zq_aln hm (pc' := 71) rfl rfl rfl rfl).trans ?_
          refine (zq_aln hm (pc' := 72) rfl rfl rfl rfl).trans ?_
          refine (zq_gr hm (pc' := 75) rfl lay_57 rfl rfl).trans ?_
          refine (zJ_n rfl).trans ?_
          refine (zq_v0 hm (pc' := 78) rfl rfl rfl (cls_57_12) rfl rfl).trans (zCV_c rfl (fun s111 => ?_))
          refine (zJ_n rfl).trans ?_
          refine (zq_iinc hm (ls' := [some (.inl (some 57)), some (.inr (.inl y1)), some (.inr (.inl y2)), some (.inr (.inl y3)), some (.inr (.inl y4)), some (.inr (.inl (zw (y5 + (-1)))))]) (pc' := 81) rfl rfl rfl rfl rfl rfl).trans ?_
          exact (zc_goto hm rfl rfl).trans rfl
noncomputable def P_X12_byTwo_12 (d : Nat) (y1 : Int) (y2 : Int) (y3 : Int) (σ : zF) : Option zR := zrunL zX2 (zexec zX2 zMT d) K_X12_byTwo U_X12_byTwo 12 [some (.inl (some 57)), some (.inr (.inl y1)), some (.inr (.inl y2)), some (.inr (.inl y3)), none] [] (LAY, σ)
noncomputable def P_X12_byTwo_25 (d : Nat) (y1 : Int) (y2 : Int) (y3 : Int) (y4 : Int) (σ : zF) : Option zR := zrunL zX2 (zexec zX2 zMT d) K_X12_byTwo U_X12_byTwo 25 [some (.inl (some 57)), some (.inr (.inl y1)), some (.inr (.inl y2)), some (.inr (.inl y3)), some (.inr (.inl y4))] [] (LAY, σ)
set_option maxRecDepth 100000 in
set_option maxHeartbeats 4000000 in
theorem e_X12_byTwo (d : Nat) (x1 : Int) (σ : zF) : zx (d + 1) 224 [.inl (some 57), .inr (.inl x1)] σ = (
zCV LAY (zx d 197 [.inl (some 57), .inl (some 86)] σ) fun s1 =>
P_X12_byTwo_12 d x1 0 0 s1) := by
  unfold zx
  have hm := zexec_m zX2 zMT d
  refine (zexec_eq mt_224 _ rfl (LAY, σ) 0).trans ?_
  show zrunL zX2 (zexec zX2 zMT d) K_X12_byTwo U_X12_byTwo 0 [some (.inl (some 57)), some (.inr (.inl x1)), none, none, none] [] (LAY, σ) = _
  refine (zq_aln hm (pc' := 1) rfl rfl rfl rfl).trans ?_
  refine (zq_aln hm (pc' := 2) rfl rfl rfl rfl).trans ?_
  refine (zq_gr hm (pc' := 5) rfl lay_57 rfl rfl).trans ?_
  refine (zJ_n rfl).trans ?_
  refine (zq_v0 hm (pc' := 8) rfl rfl rfl (cls_57_12) rfl rfl).trans (zCV_c rfl (fun s1 => ?_))
  refine (zJ_n rfl).trans ?_
  refine (zq_ic hm (pc' := 9) rfl rfl rfl rfl).trans ?_
  refine (zq_isn hm (ls' := [some (.inl (some 57)), some (.inr (.inl x1)), some (.inr (.inl 0)), none, none]) (pc' := 10) rfl rfl rfl rfl).trans ?_
  refine (zq_ic hm (pc' := 11) rfl rfl rfl rfl).trans ?_
  exact (zc_isn hm (ls' := [some (.inl (some 57)), some (.inr (.inl x1)), some (.inr (.inl 0)), some (.inr (.inl 0)), none]) (pc' := 12) rfl rfl rfl rfl).trans rfl
set_option maxRecDepth 100000 in
set_option maxHeartbeats 4000000 in
theorem e_X12_byTwo_12 (d : Nat) (y1 : Int) (y2 : Int) (y3 : Int) (σ : zF) : P_X12_byTwo_12 d y1 y2 y3 σ = (
if y3 < zw (3 * (σ 57 0)) then (
P_X12_byTwo_25 d y1 y2 y3 0 σ) else (
zri y2 σ)) := by
  have hm := zexec_m zX2 zMT d
  show zrunL zX2 (zexec zX2 zMT d) K_X12_byTwo U_X12_byTwo 12 [some (.inl (some 57)), some (.inr (.inl y1)), some (.inr (.inl y2)), some (.inr (.inl y3)), none] [] (LAY, σ) = _
  refine (zq_iln hm (pc' := 13) rfl rfl rfl rfl).trans ?_
  refine (zq_ic hm (pc' := 14) rfl rfl rfl rfl).trans ?_
  refine (zq_aln hm (pc' := 15) rfl rfl rfl rfl).trans ?_
  refine (zq_gf hm (v := (σ 57 0)) (pc' := 18) rfl lay_57 rfl rfl rfl).trans ?_
  refine (zJ_n rfl).trans ?_
  refine (zq_imul hm (pc' := 19) rfl rfl rfl).trans ?_
  refine (zq_ige hm (pc' := 22) rfl rfl).trans (zite ?_ ?_)
  · refine (zJ_n rfl).trans ?_
    refine (zq_ic hm (pc' := 23) rfl rfl rfl rfl).trans ?_
    exact (zc_is hm (ls' := [some (.inl (some 57)), some (.inr (.inl y1)), some (.inr (.inl y2)), some (.inr (.inl y3)), some (.inr (.inl 0))]) (pc' := 25) rfl rfl rfl rfl).trans rfl
  · refine (zJ_n rfl).trans ?_
    refine (zq_iln hm (pc' := 101) rfl rfl rfl rfl).trans ?_
    exact zq_ri hm rfl rfl
set_option maxRecDepth 100000 in
set_option maxHeartbeats 4000000 in
theorem e_X12_byTwo_25 (d : Nat) (y1 : Int) (y2 : Int) (y3 : Int) (y4 : Int) (σ : zF) : P_X12_byTwo_25 d y1 y2 y3 y4 σ = (
if y4 < zw (3 * (σ 57 0)) then (
zCI LAY (zx d 222 [.inl (some 57), .inr (.inl y3)] σ) fun r102 s101 =>
if r102 = 0 then (
P_X12_byTwo_25 d y1 y2 y3 (zw (y4 + 1)) s101) else (
zCI LAY (zx d 222 [.inl (some 57), .inr (.inl y4)] s101) fun r104 s103 =>
if r104 = 0 then (
P_X12_byTwo_25 d y1 y2 y3 (zw (y4 + 1)) s103) else (
zCV LAY (zx d 221 [.inl (some 57), .inr (.inl y3)] s103) fun s105 =>
zCV LAY (zx d 221 [.inl (some 57), .inr (.inl y4)] s105) fun s106 =>
zCI LAY (zx d 219 [.inl (some 57), .inr (.inl y1)] s106) fun r108 s107 =>
if r108 = (-2) then (
zCV LAY (zx d 198 [.inl (some 57), .inl (some 86)] s107) fun s110 =>
P_X12_byTwo_25 d y1 (zw (y2 + 1)) y3 (zw (y4 + 1)) s110) else (
zCV LAY (zx d 198 [.inl (some 57), .inl (some 86)] s107) fun s109 =>
P_X12_byTwo_25 d y1 y2 y3 (zw (y4 + 1)) s109)))) else (
P_X12_byTwo_12 d y1 y2 (zw (y3 + 1)) σ)) := by
  have hm := zexec_m zX2 zMT d
  show zrunL zX2 (zexec zX2 zMT d) K_X12_byTwo U_X12_byTwo 25 [some (.inl (some 57)), some (.inr (.inl y1)), some (.inr (.inl y2)), some (.inr (.inl y3)), some (.inr (.inl y4))] [] (LAY, σ) = _
  refine (zq_il hm (pc' := 27) rfl rfl rfl rfl).trans ?_
  refine (zq_ic hm (pc' := 28) rfl rfl rfl rfl).trans ?_
  refine (zq_aln hm (pc' := 29) rfl rfl rfl rfl).trans ?_
  refine (zq_gf hm (v := (σ 57 0)) (pc' := 32) rfl lay_57 rfl rfl rfl).trans ?_
  refine (zJ_n rfl).trans ?_
  refine (zq_imul hm (pc' := 33) rfl rfl rfl).trans ?_
  refine (zq_ige hm (pc' := 36) rfl rfl).trans (zite ?_ ?_)
  · refine (zJ_n rfl).trans ?_
    refine (zq_aln hm (pc' := 37) rfl rfl rfl rfl).trans ?_
    refine (zq_iln hm (pc' := 38) rfl rfl rfl rfl).trans ?_
    refine (zq_v1 hm (pc' := 41) rfl rfl rfl (cls_57_12) rfl rfl).trans (zCI_c rfl (fun r102 s101 => ?_))
    refine (zJ_n rfl).trans ?_
    refine (zq_zeq hm (pc' := 44) rfl rfl).trans (zite ?_ ?_)
    · refine (zJ_n rfl).trans ?_
      refine (zq_iinc hm (ls' := [some (.inl (some 57)), some (.inr (.inl y1)), some (.inr (.inl y2)), some (.inr (.inl y3)), some (.inr (.inl (zw (y4 + 1))))]) (pc' := 91) rfl rfl rfl rfl rfl rfl).trans ?_
      exact (zc_goto hm rfl rfl).trans rfl
    · refine (zJ_n rfl).trans ?_
      refine (zq_aln hm (pc' := 45) rfl rfl rfl rfl).trans ?_
      refine (zq_il hm (pc' := 47) rfl rfl rfl rfl).trans ?_
      refine (zq_v1 hm (pc' := 50) rfl rfl rfl (cls_57_12) rfl rfl).trans (zCI_c rfl (fun r104 s103 => ?_))
      refine (zJ_n rfl).trans ?_
      refine (zq_zne hm (pc' := 53) rfl rfl).trans (zite ?_ ?_)
      · refine (zJ_n rfl).trans ?_
        refine (zq_goto hm rfl rfl).trans ?_
        refine (zq_iinc hm (ls' := [some (.inl (some 57)), some (.inr (.inl y1)), some (.inr (.inl y2)), some (.inr (.inl y3)), some (.inr (.inl (zw (y4 + 1))))]) (pc' := 91) rfl rfl rfl rfl rfl rfl).trans ?_
        exact (zc_goto hm rfl rfl).trans rfl
      · refine (zJ_n rfl).trans ?_
        refine (zq_aln hm (pc' := 57) rfl rfl rfl rfl).trans ?_
        refine (zq_iln hm (pc' := 58) rfl rfl rfl rfl).trans ?_
        refine (zq_v0 hm (pc' := 61) rfl rfl rfl (cls_57_12) rfl rfl).trans (zCV_c rfl (fun s105 => ?_))
        refine (zJ_n rfl).trans ?_
        refine (zq_aln hm (pc' := 62) rfl rfl rfl rfl).trans ?_
        refine (zq_il hm (pc' := 64) rfl rfl rfl rfl).trans ?_
        refine (zq_v0 hm (pc' := 67) rfl rfl rfl (cls_57_12) rfl rfl).trans (zCV_c rfl (fun s106 => ?_))
        refine (zJ_n rfl).trans ?_
        refine (zq_aln hm (pc' := 68) rfl rfl rfl rfl).trans ?_
        refine (zq_iln hm (pc' := 69) rfl rfl rfl rfl).trans ?_
        refine (zq_v1 hm (pc' := 72) rfl rfl rfl (cls_57_12) rfl rfl).trans (zCI_c rfl (fun r108 s107 => ?_))
        refine (zJ_n rfl).trans ?_
        refine (zq_bi hm (pc' := 74) rfl rfl rfl rfl).trans ?_
        refine (zq_ine hm (pc' := 77) rfl rfl).trans (zite ?_ ?_)
        · refine (zJ_n rfl).trans ?_
          refine (zq_iinc hm (ls' := [some (.inl (some 57)), some (.inr (.inl y1)), some (.inr (.inl (zw (y2 + 1)))), some (.inr (.inl y3)), some (.inr (.inl y4))]) (pc' := 80) rfl rfl rfl rfl rfl rfl).trans ?_
          refine (zq_aln hm (pc' := 81) rfl rfl rfl rfl).trans ?_
          refine (zq_aln hm (pc' := 82) rfl rfl rfl rfl).trans ?_
          refine (zq_gr hm (pc' := 85) rfl lay_57 rfl rfl).trans ?_
          refine (zJ_n rfl).trans ?_
          refine (zq_v0 hm (pc' := 88) rfl rfl rfl (cls_57_12) rfl rfl).trans (zCV_c rfl (fun s110 => ?_))
          refine (zJ_n rfl).trans ?_
          refine (zq_iinc hm (ls' := [some (.inl (some 57)), some (.inr (.inl y1)), some (.inr (.inl (zw (y2 + 1)))), some (.inr (.inl y3)), some (.inr (.inl (zw (y4 + 1))))]) (pc' := 91) rfl rfl rfl rfl rfl rfl).trans ?_
          exact (zc_goto hm rfl rfl).trans rfl
        · refine (zJ_n rfl).trans ?_
          refine (zq_aln hm (pc' := 81) rfl rfl rfl rfl).trans ?_
          refine (zq_aln hm (pc' := 82) rfl rfl rfl rfl).trans ?_
          refine (zq_gr hm (pc' := 85) rfl lay_57 rfl rfl).trans ?_
          refine (zJ_n rfl).trans ?_
          refine (zq_v0 hm (pc' := 88) rfl rfl rfl (cls_57_12) rfl rfl).trans (zCV_c rfl (fun s109 => ?_))
          refine (zJ_n rfl).trans ?_
          refine (zq_iinc hm (ls' := [some (.inl (some 57)), some (.inr (.inl y1)), some (.inr (.inl y2)), some (.inr (.inl y3)), some (.inr (.inl (zw (y4 + 1))))]) (pc' := 91) rfl rfl rfl rfl rfl rfl).trans ?_
          exact (zc_goto hm rfl rfl).trans rfl
  · refine (zJ_n rfl).trans ?_
    refine (zq_iinc hm (ls' := [some (.inl (some 57)), some (.inr (.inl y1)), some (.inr (.inl y2)), some (.inr (.inl (zw (y3 + 1)))), some (.inr (.inl y4))]) (pc' := 97) rfl rfl rfl rfl rfl rfl).trans ?_
    exact (zc_goto hm rfl rfl).trans rfl
set_option maxRecDepth 100000 in
set_option maxHeartbeats 4000000 in
theorem e_X12_sunday (d : Nat) (x1 : Int) (x2 : Int) (σ : zF) : zx (d + 1) 225 [.inl (some 57), .inr (.inl x1), .inr (.inl x2)] σ = (
zCI LAY (zx d 158 [.inr (.inl x1)] σ) fun r2 s1 =>
if r2 = 0 then (
zri (-1) s1) else (
zCI LAY (zx d 153 [.inr (.inl x2), .inr (.inl 0), .inr (.inl 2)] s1) fun r4 s3 =>
if r4 = 0 then (
zri (-1) s3) else (
zCI LAY (zx d 218 [.inl (some 57), .inr (.inl x1)] s3) fun r6 s5 =>
if r6 < 0 then (
zri r6 s5) else (
if x2 = 2 then (
zCI LAY (zx d 224 [.inl (some 57), .inr (.inl x1)] s5) fun r10 s9 =>
zri r10 s9) else (
zCI LAY (zx d 223 [.inl (some 57), .inr (.inl x1), .inr (.inl x2)] s5) fun r8 s7 =>
zri r8 s7))))) := by
  unfold zx
  have hm := zexec_m zX2 zMT d
  refine (zexec_eq mt_225 _ rfl (LAY, σ) 0).trans ?_
  show zrunL zX2 (zexec zX2 zMT d) K_X12_sunday U_X12_sunday 0 [some (.inl (some 57)), some (.inr (.inl x1)), some (.inr (.inl x2)), none] [] (LAY, σ) = _
  refine (zq_iln hm (pc' := 1) rfl rfl rfl rfl).trans ?_
  refine (zq_s1 hm (pc' := 4) rfl rfl rfl rfl rfl rfl).trans (zCI_c rfl (fun r2 s1 => ?_))
  refine (zJ_n rfl).trans ?_
  refine (zq_zeq hm (pc' := 7) rfl rfl).trans (zite ?_ ?_)
  · refine (zJ_n rfl).trans ?_
    refine (zq_ic hm (pc' := 17) rfl rfl rfl rfl).trans ?_
    exact zq_ri hm rfl rfl
  · refine (zJ_n rfl).trans ?_
    refine (zq_iln hm (pc' := 8) rfl rfl rfl rfl).trans ?_
    refine (zq_ic hm (pc' := 9) rfl rfl rfl rfl).trans ?_
    refine (zq_ic hm (pc' := 10) rfl rfl rfl rfl).trans ?_
    refine (zq_s1 hm (pc' := 13) rfl rfl rfl rfl rfl rfl).trans (zCI_c rfl (fun r4 s3 => ?_))
    refine (zJ_n rfl).trans ?_
    refine (zq_zne hm (pc' := 16) rfl rfl).trans (zite ?_ ?_)
    · refine (zJ_n rfl).trans ?_
      refine (zq_ic hm (pc' := 17) rfl rfl rfl rfl).trans ?_
      exact zq_ri hm rfl rfl
    · refine (zJ_n rfl).trans ?_
      refine (zq_aln hm (pc' := 19) rfl rfl rfl rfl).trans ?_
      refine (zq_iln hm (pc' := 20) rfl rfl rfl rfl).trans ?_
      refine (zq_v1 hm (pc' := 23) rfl rfl rfl (cls_57_12) rfl rfl).trans (zCI_c rfl (fun r6 s5 => ?_))
      refine (zJ_n rfl).trans ?_
      refine (zq_isn hm (ls' := [some (.inl (some 57)), some (.inr (.inl x1)), some (.inr (.inl x2)), some (.inr (.inl r6))]) (pc' := 24) rfl rfl rfl rfl).trans ?_
      refine (zq_iln hm (pc' := 25) rfl rfl rfl rfl).trans ?_
      refine (zq_zge hm (pc' := 28) rfl rfl).trans (zite ?_ ?_)
      · refine (zJ_n rfl).trans ?_
        refine (zq_iln hm (pc' := 29) rfl rfl rfl rfl).trans ?_
        exact zq_ri hm rfl rfl
      · refine (zJ_n rfl).trans ?_
        refine (zq_iln hm (pc' := 31) rfl rfl rfl rfl).trans ?_
        refine (zq_ic hm (pc' := 32) rfl rfl rfl rfl).trans ?_
        refine (zq_ine hm (pc' := 35) rfl rfl).trans (zite ?_ ?_)
        · refine (zJ_n rfl).trans ?_
          refine (zq_aln hm (pc' := 36) rfl rfl rfl rfl).trans ?_
          refine (zq_iln hm (pc' := 37) rfl rfl rfl rfl).trans ?_
          refine (zq_v1 hm (pc' := 40) rfl rfl rfl (cls_57_12) rfl rfl).trans (zCI_c rfl (fun r10 s9 => ?_))
          refine (zJ_n rfl).trans ?_
          refine (zq_goto hm rfl rfl).trans ?_
          exact zq_ri hm rfl rfl
        · refine (zJ_n rfl).trans ?_
          refine (zq_aln hm (pc' := 44) rfl rfl rfl rfl).trans ?_
          refine (zq_iln hm (pc' := 45) rfl rfl rfl rfl).trans ?_
          refine (zq_iln hm (pc' := 46) rfl rfl rfl rfl).trans ?_
          refine (zq_v1 hm (pc' := 49) rfl rfl rfl (cls_57_12) rfl rfl).trans (zCI_c rfl (fun r8 s7 => ?_))
          refine (zJ_n rfl).trans ?_
          exact zq_ri hm rfl rfl
set_option maxRecDepth 100000 in
set_option maxHeartbeats 4000000 in
theorem e_X12_wanted (d : Nat) (x1 : Int) (σ : zF) : zx (d + 1) 226 [.inl (some 57), .inr (.inl x1)] σ = (
zCI LAY (zx d 200 [.inl (some 57), .inr (.inl x1)] σ) fun r2 s1 =>
if r2 = (-2) then (
zri 999 s1) else (
zri r2 s1)) := by
  unfold zx
  have hm := zexec_m zX2 zMT d
  refine (zexec_eq mt_226 _ rfl (LAY, σ) 0).trans ?_
  show zrunL zX2 (zexec zX2 zMT d) K_X12_wanted U_X12_wanted 0 [some (.inl (some 57)), some (.inr (.inl x1)), none] [] (LAY, σ) = _
  refine (zq_aln hm (pc' := 1) rfl rfl rfl rfl).trans ?_
  refine (zq_iln hm (pc' := 2) rfl rfl rfl rfl).trans ?_
  refine (zq_v1 hm (pc' := 5) rfl rfl rfl (cls_57_12) rfl rfl).trans (zCI_c rfl (fun r2 s1 => ?_))
  refine (zJ_n rfl).trans ?_
  refine (zq_isn hm (ls' := [some (.inl (some 57)), some (.inr (.inl x1)), some (.inr (.inl r2))]) (pc' := 6) rfl rfl rfl rfl).trans ?_
  refine (zq_iln hm (pc' := 7) rfl rfl rfl rfl).trans ?_
  refine (zq_bi hm (pc' := 9) rfl rfl rfl rfl).trans ?_
  refine (zq_ine hm (pc' := 12) rfl rfl).trans (zite ?_ ?_)
  · refine (zJ_n rfl).trans ?_
    refine (zq_si hm (pc' := 15) rfl rfl rfl rfl).trans ?_
    refine (zq_goto hm rfl rfl).trans ?_
    exact zq_ri hm rfl rfl
  · refine (zJ_n rfl).trans ?_
    refine (zq_iln hm (pc' := 19) rfl rfl rfl rfl).trans ?_
    exact zq_ri hm rfl rfl
noncomputable def P_X12_answered_16 (d : Nat) (y1 : Int) (y2 : Int) (y3 : Int) (σ : zF) : Option zR := zrunL zX2 (zexec zX2 zMT d) K_X12_answered U_X12_answered 16 [some (.inl (some 57)), some (.inr (.inl y1)), some (.inr (.inl y2)), some (.inr (.inl y3))] [] (LAY, σ)
set_option maxRecDepth 100000 in
set_option maxHeartbeats 4000000 in
theorem e_X12_answered (d : Nat) (x1 : Int) (σ : zF) : zx (d + 1) 227 [.inl (some 57), .inr (.inl x1)] σ = (
zCV LAY (zx d 197 [.inl (some 57), .inl (some 87)] σ) fun s1 =>
zCI LAY (zx d 226 [.inl (some 57), .inr (.inl x1)] s1) fun r3 s2 =>
P_X12_answered_16 d x1 r3 0 s2) := by
  unfold zx
  have hm := zexec_m zX2 zMT d
  refine (zexec_eq mt_227 _ rfl (LAY, σ) 0).trans ?_
  show zrunL zX2 (zexec zX2 zMT d) K_X12_answered U_X12_answered 0 [some (.inl (some 57)), some (.inr (.inl x1)), none, none] [] (LAY, σ) = _
  refine (zq_aln hm (pc' := 1) rfl rfl rfl rfl).trans ?_
  refine (zq_aln hm (pc' := 2) rfl rfl rfl rfl).trans ?_
  refine (zq_gr hm (pc' := 5) rfl lay_57 rfl rfl).trans ?_
  refine (zJ_n rfl).trans ?_
  refine (zq_v0 hm (pc' := 8) rfl rfl rfl (cls_57_12) rfl rfl).trans (zCV_c rfl (fun s1 => ?_))
  refine (zJ_n rfl).trans ?_
  refine (zq_aln hm (pc' := 9) rfl rfl rfl rfl).trans ?_
  refine (zq_iln hm (pc' := 10) rfl rfl rfl rfl).trans ?_
  refine (zq_v1 hm (pc' := 13) rfl rfl rfl (cls_57_12) rfl rfl).trans (zCI_c rfl (fun r3 s2 => ?_))
  refine (zJ_n rfl).trans ?_
  refine (zq_isn hm (ls' := [some (.inl (some 57)), some (.inr (.inl x1)), some (.inr (.inl r3)), none]) (pc' := 14) rfl rfl rfl rfl).trans ?_
  refine (zq_ic hm (pc' := 15) rfl rfl rfl rfl).trans ?_
  exact (zc_isn hm (ls' := [some (.inl (some 57)), some (.inr (.inl x1)), some (.inr (.inl r3)), some (.inr (.inl 0))]) (pc' := 16) rfl rfl rfl rfl).trans rfl
set_option maxRecDepth 100000 in
set_option maxHeartbeats 4000000 in
theorem e_X12_answered_16 (d : Nat) (y1 : Int) (y2 : Int) (y3 : Int) (σ : zF) : P_X12_answered_16 d y1 y2 y3 σ = (
if y3 < zw (3 * (σ 57 0)) then (
zCI LAY (zx d 222 [.inl (some 57), .inr (.inl y3)] σ) fun r102 s101 =>
if r102 = 0 then (
P_X12_answered_16 d y1 y2 (zw (y3 + 1)) s101) else (
zCV LAY (zx d 221 [.inl (some 57), .inr (.inl y3)] s101) fun s103 =>
zCI LAY (zx d 226 [.inl (some 57), .inr (.inl y1)] s103) fun r105 s104 =>
zCV LAY (zx d 198 [.inl (some 57), .inl (some 87)] s104) fun s106 =>
P_X12_answered_16 d y1 (zmax y2 r105) (zw (y3 + 1)) s106)) else (
zri y2 σ)) := by
  have hm := zexec_m zX2 zMT d
  show zrunL zX2 (zexec zX2 zMT d) K_X12_answered U_X12_answered 16 [some (.inl (some 57)), some (.inr (.inl y1)), some (.inr (.inl y2)), some (.inr (.inl y3))] [] (LAY, σ) = _
  refine (zq_iln hm (pc' := 17) rfl rfl rfl rfl).trans ?_
  refine (zq_ic hm (pc' := 18) rfl rfl rfl rfl).trans ?_
  refine (zq_aln hm (pc' := 19) rfl rfl rfl rfl).trans ?_
  refine (zq_gf hm (v := (σ 57 0)) (pc' := 22) rfl lay_57 rfl rfl rfl).trans ?_
  refine (zJ_n rfl).trans ?_
  refine (zq_imul hm (pc' := 23) rfl rfl rfl).trans ?_
  refine (zq_ige hm (pc' := 26) rfl rfl).trans (zite ?_ ?_)
  · refine (zJ_n rfl).trans ?_
    refine (zq_aln hm (pc' := 27) rfl rfl rfl rfl).trans ?_
    refine (zq_iln hm (pc' := 28) rfl rfl rfl rfl).trans ?_
    refine (zq_v1 hm (pc' := 31) rfl rfl rfl (cls_57_12) rfl rfl).trans (zCI_c rfl (fun r102 s101 => ?_))
    refine (zJ_n rfl).trans ?_
    refine (zq_zne hm (pc' := 34) rfl rfl).trans (zite ?_ ?_)
    · refine (zJ_n rfl).trans ?_
      refine (zq_goto hm rfl rfl).trans ?_
      refine (zq_iinc hm (ls' := [some (.inl (some 57)), some (.inr (.inl y1)), some (.inr (.inl y2)), some (.inr (.inl (zw (y3 + 1))))]) (pc' := 63) rfl rfl rfl rfl rfl rfl).trans ?_
      exact (zc_goto hm rfl rfl).trans rfl
    · refine (zJ_n rfl).trans ?_
      refine (zq_aln hm (pc' := 38) rfl rfl rfl rfl).trans ?_
      refine (zq_iln hm (pc' := 39) rfl rfl rfl rfl).trans ?_
      refine (zq_v0 hm (pc' := 42) rfl rfl rfl (cls_57_12) rfl rfl).trans (zCV_c rfl (fun s103 => ?_))
      refine (zJ_n rfl).trans ?_
      refine (zq_iln hm (pc' := 43) rfl rfl rfl rfl).trans ?_
      refine (zq_aln hm (pc' := 44) rfl rfl rfl rfl).trans ?_
      refine (zq_iln hm (pc' := 45) rfl rfl rfl rfl).trans ?_
      refine (zq_v1 hm (pc' := 48) rfl rfl rfl (cls_57_12) rfl rfl).trans (zCI_c rfl (fun r105 s104 => ?_))
      refine (zJ_n rfl).trans ?_
      refine (zq_max hm (pc' := 51) rfl rfl rfl rfl).trans ?_
      refine (zJ_n rfl).trans ?_
      refine (zq_isn hm (ls' := [some (.inl (some 57)), some (.inr (.inl y1)), some (.inr (.inl (zmax y2 r105))), some (.inr (.inl y3))]) (pc' := 52) rfl rfl rfl rfl).trans ?_
      refine (zq_aln hm (pc' := 53) rfl rfl rfl rfl).trans ?_
      refine (zq_aln hm (pc' := 54) rfl rfl rfl rfl).trans ?_
      refine (zq_gr hm (pc' := 57) rfl lay_57 rfl rfl).trans ?_
      refine (zJ_n rfl).trans ?_
      refine (zq_v0 hm (pc' := 60) rfl rfl rfl (cls_57_12) rfl rfl).trans (zCV_c rfl (fun s106 => ?_))
      refine (zJ_n rfl).trans ?_
      refine (zq_iinc hm (ls' := [some (.inl (some 57)), some (.inr (.inl y1)), some (.inr (.inl (zmax y2 r105))), some (.inr (.inl (zw (y3 + 1))))]) (pc' := 63) rfl rfl rfl rfl rfl rfl).trans ?_
      exact (zc_goto hm rfl rfl).trans rfl
  · refine (zJ_n rfl).trans ?_
    refine (zq_iln hm (pc' := 67) rfl rfl rfl rfl).trans ?_
    exact zq_ri hm rfl rfl
noncomputable def P_X12_byTurns_62 (d : Nat) (y1 : Int) (y2 : Int) (y3 : Int) (y4 : Int) (y5 : Int) (y6 : Int) (σ : zF) : Option zR := zrunL zX2 (zexec zX2 zMT d) K_X12_byTurns U_X12_byTurns 62 [some (.inl (some 57)), some (.inr (.inl y1)), some (.inr (.inl y2)), some (.inr (.inl y3)), some (.inr (.inl y4)), some (.inr (.inl y5)), some (.inr (.inl y6)), none] [] (LAY, σ)
set_option maxRecDepth 100000 in
set_option maxHeartbeats 4000000 in
theorem e_X12_byTurns (d : Nat) (x1 : Int) (x2 : Int) (x3 : Int) (σ : zF) : zx (d + 1) 228 [.inl (some 57), .inr (.inl x1), .inr (.inl x2), .inr (.inl x3)] σ = (
zCI LAY (zx d 157 [.inr (.inl x1)] σ) fun r2 s1 =>
if r2 = 0 then (
zri (-1) s1) else (
zCI LAY (zx d 153 [.inr (.inl x2), .inr (.inl 1), .inr (.inl 2)] s1) fun r4 s3 =>
if r4 = 0 then (
zri (-1) s3) else (
zCI LAY (zx d 153 [.inr (.inl x3), .inr (.inl 0), .inr (.inl 1)] s3) fun r6 s5 =>
if r6 = 0 then (
zri (-1) s5) else (
zCV LAY (zx d 197 [.inl (some 57), .inl (some 86)] s5) fun s7 =>
if x2 = 1 then (
zCI LAY (zx d 226 [.inl (some 57), .inr (.inl x1)] s7) fun r11 s10 =>
P_X12_byTurns_62 d x1 x2 x3 r11 99 0 s10) else (
zCI LAY (zx d 227 [.inl (some 57), .inr (.inl x1)] s7) fun r9 s8 =>
P_X12_byTurns_62 d x1 x2 x3 r9 99 0 s8))))) := by
  unfold zx
  have hm := zexec_m zX2 zMT d
  refine (zexec_eq mt_228 _ rfl (LAY, σ) 0).trans ?_
  show zrunL zX2 (zexec zX2 zMT d) K_X12_byTurns U_X12_byTurns 0 [some (.inl (some 57)), some (.inr (.inl x1)), some (.inr (.inl x2)), some (.inr (.inl x3)), none, none, none, none] [] (LAY, σ) = _
  refine (zq_iln hm (pc' := 1) rfl rfl rfl rfl).trans ?_
  refine (zq_s1 hm (pc' := 4) rfl rfl rfl rfl rfl rfl).trans (zCI_c rfl (fun r2 s1 => ?_))
  refine (zJ_n rfl).trans ?_
  refine (zq_zeq hm (pc' := 7) rfl rfl).trans (zite ?_ ?_)
  · refine (zJ_n rfl).trans ?_
    refine (zq_ic hm (pc' := 26) rfl rfl rfl rfl).trans ?_
    exact zq_ri hm rfl rfl
  · refine (zJ_n rfl).trans ?_
    refine (zq_iln hm (pc' := 8) rfl rfl rfl rfl).trans ?_
    refine (zq_ic hm (pc' := 9) rfl rfl rfl rfl).trans ?_
    refine (zq_ic hm (pc' := 10) rfl rfl rfl rfl).trans ?_
    refine (zq_s1 hm (pc' := 13) rfl rfl rfl rfl rfl rfl).trans (zCI_c rfl (fun r4 s3 => ?_))
    refine (zJ_n rfl).trans ?_
    refine (zq_zeq hm (pc' := 16) rfl rfl).trans (zite ?_ ?_)
    · refine (zJ_n rfl).trans ?_
      refine (zq_ic hm (pc' := 26) rfl rfl rfl rfl).trans ?_
      exact zq_ri hm rfl rfl
    · refine (zJ_n rfl).trans ?_
      refine (zq_iln hm (pc' := 17) rfl rfl rfl rfl).trans ?_
      refine (zq_ic hm (pc' := 18) rfl rfl rfl rfl).trans ?_
      refine (zq_ic hm (pc' := 19) rfl rfl rfl rfl).trans ?_
      refine (zq_s1 hm (pc' := 22) rfl rfl rfl rfl rfl rfl).trans (zCI_c rfl (fun r6 s5 => ?_))
      refine (zJ_n rfl).trans ?_
      refine (zq_zne hm (pc' := 25) rfl rfl).trans (zite ?_ ?_)
      · refine (zJ_n rfl).trans ?_
        refine (zq_ic hm (pc' := 26) rfl rfl rfl rfl).trans ?_
        exact zq_ri hm rfl rfl
      · refine (zJ_n rfl).trans ?_
        refine (zq_aln hm (pc' := 28) rfl rfl rfl rfl).trans ?_
        refine (zq_aln hm (pc' := 29) rfl rfl rfl rfl).trans ?_
        refine (zq_gr hm (pc' := 32) rfl lay_57 rfl rfl).trans ?_
        refine (zJ_n rfl).trans ?_
        refine (zq_v0 hm (pc' := 35) rfl rfl rfl (cls_57_12) rfl rfl).trans (zCV_c rfl (fun s7 => ?_))
        refine (zJ_n rfl).trans ?_
        refine (zq_iln hm (pc' := 36) rfl rfl rfl rfl).trans ?_
        refine (zq_ic hm (pc' := 37) rfl rfl rfl rfl).trans ?_
        refine (zq_ine hm (pc' := 40) rfl rfl).trans (zite ?_ ?_)
        · refine (zJ_n rfl).trans ?_
          refine (zq_aln hm (pc' := 41) rfl rfl rfl rfl).trans ?_
          refine (zq_iln hm (pc' := 42) rfl rfl rfl rfl).trans ?_
          refine (zq_v1 hm (pc' := 45) rfl rfl rfl (cls_57_12) rfl rfl).trans (zCI_c rfl (fun r11 s10 => ?_))
          refine (zJ_n rfl).trans ?_
          refine (zq_goto hm rfl rfl).trans ?_
          refine (zq_is hm (ls' := [some (.inl (some 57)), some (.inr (.inl x1)), some (.inr (.inl x2)), some (.inr (.inl x3)), some (.inr (.inl r11)), none, none, none]) (pc' := 55) rfl rfl rfl rfl).trans ?_
          refine (zq_bi hm (pc' := 57) rfl rfl rfl rfl).trans ?_
          refine (zq_is hm (ls' := [some (.inl (some 57)), some (.inr (.inl x1)), some (.inr (.inl x2)), some (.inr (.inl x3)), some (.inr (.inl r11)), some (.inr (.inl 99)), none, none]) (pc' := 59) rfl rfl rfl rfl).trans ?_
          refine (zq_ic hm (pc' := 60) rfl rfl rfl rfl).trans ?_
          exact (zc_is hm (ls' := [some (.inl (some 57)), some (.inr (.inl x1)), some (.inr (.inl x2)), some (.inr (.inl x3)), some (.inr (.inl r11)), some (.inr (.inl 99)), some (.inr (.inl 0)), none]) (pc' := 62) rfl rfl rfl rfl).trans rfl
        · refine (zJ_n rfl).trans ?_
          refine (zq_aln hm (pc' := 49) rfl rfl rfl rfl).trans ?_
          refine (zq_iln hm (pc' := 50) rfl rfl rfl rfl).trans ?_
          refine (zq_v1 hm (pc' := 53) rfl rfl rfl (cls_57_12) rfl rfl).trans (zCI_c rfl (fun r9 s8 => ?_))
          refine (zJ_n rfl).trans ?_
          refine (zq_is hm (ls' := [some (.inl (some 57)), some (.inr (.inl x1)), some (.inr (.inl x2)), some (.inr (.inl x3)), some (.inr (.inl r9)), none, none, none]) (pc' := 55) rfl rfl rfl rfl).trans ?_
          refine (zq_bi hm (pc' := 57) rfl rfl rfl rfl).trans ?_
          refine (zq_is hm (ls' := [some (.inl (some 57)), some (.inr (.inl x1)), some (.inr (.inl x2)), some (.inr (.inl x3)), some (.inr (.inl r9)), some (.inr (.inl 99)), none, none]) (pc' := 59) rfl rfl rfl rfl).trans ?_
          refine (zq_ic hm (pc' := 60) rfl rfl rfl rfl).trans ?_
          exact (zc_is hm (ls' := [some (.inl (some 57)), some (.inr (.inl x1)), some (.inr (.inl x2)), some (.inr (.inl x3)), some (.inr (.inl r9)), some (.inr (.inl 99)), some (.inr (.inl 0)), none]) (pc' := 62) rfl rfl rfl rfl).trans rfl
set_option maxRecDepth 100000 in
set_option maxHeartbeats 4000000 in
theorem e_X12_byTurns_62 (d : Nat) (y1 : Int) (y2 : Int) (y3 : Int) (y4 : Int) (y5 : Int) (y6 : Int) (σ : zF) : P_X12_byTurns_62 d y1 y2 y3 y4 y5 y6 σ = (
if y6 < zw (3 * (σ 57 0)) then (
zCI LAY (zx d 222 [.inl (some 57), .inr (.inl y6)] σ) fun r102 s101 =>
if r102 = 0 then (
P_X12_byTurns_62 d y1 y2 y3 y4 y5 (zw (y6 + 1)) s101) else (
zCV LAY (zx d 221 [.inl (some 57), .inr (.inl y6)] s101) fun s103 =>
if y2 = 1 then (
zCI LAY (zx d 226 [.inl (some 57), .inr (.inl y1)] s103) fun r108 s107 =>
zCV LAY (zx d 198 [.inl (some 57), .inl (some 86)] s107) fun s109 =>
if r108 < y4 then (
P_X12_byTurns_62 d y1 y2 y3 r108 y6 (zw (y6 + 1)) s109) else (
P_X12_byTurns_62 d y1 y2 y3 y4 y5 (zw (y6 + 1)) s109)) else (
zCI LAY (zx d 227 [.inl (some 57), .inr (.inl y1)] s103) fun r105 s104 =>
zCV LAY (zx d 198 [.inl (some 57), .inl (some 86)] s104) fun s106 =>
if r105 < y4 then (
P_X12_byTurns_62 d y1 y2 y3 r105 y6 (zw (y6 + 1)) s106) else (
P_X12_byTurns_62 d y1 y2 y3 y4 y5 (zw (y6 + 1)) s106)))) else (
if y3 = 0 then (
zri y4 σ) else (
zri y5 σ))) := by
  have hm := zexec_m zX2 zMT d
  show zrunL zX2 (zexec zX2 zMT d) K_X12_byTurns U_X12_byTurns 62 [some (.inl (some 57)), some (.inr (.inl y1)), some (.inr (.inl y2)), some (.inr (.inl y3)), some (.inr (.inl y4)), some (.inr (.inl y5)), some (.inr (.inl y6)), none] [] (LAY, σ) = _
  refine (zq_il hm (pc' := 64) rfl rfl rfl rfl).trans ?_
  refine (zq_ic hm (pc' := 65) rfl rfl rfl rfl).trans ?_
  refine (zq_aln hm (pc' := 66) rfl rfl rfl rfl).trans ?_
  refine (zq_gf hm (v := (σ 57 0)) (pc' := 69) rfl lay_57 rfl rfl rfl).trans ?_
  refine (zJ_n rfl).trans ?_
  refine (zq_imul hm (pc' := 70) rfl rfl rfl).trans ?_
  refine (zq_ige hm (pc' := 73) rfl rfl).trans (zite ?_ ?_)
  · refine (zJ_n rfl).trans ?_
    refine (zq_aln hm (pc' := 74) rfl rfl rfl rfl).trans ?_
    refine (zq_il hm (pc' := 76) rfl rfl rfl rfl).trans ?_
    refine (zq_v1 hm (pc' := 79) rfl rfl rfl (cls_57_12) rfl rfl).trans (zCI_c rfl (fun r102 s101 => ?_))
    refine (zJ_n rfl).trans ?_
    refine (zq_zne hm (pc' := 82) rfl rfl).trans (zite ?_ ?_)
    · refine (zJ_n rfl).trans ?_
      refine (zq_goto hm rfl rfl).trans ?_
      refine (zq_iinc hm (ls' := [some (.inl (some 57)), some (.inr (.inl y1)), some (.inr (.inl y2)), some (.inr (.inl y3)), some (.inr (.inl y4)), some (.inr (.inl y5)), some (.inr (.inl (zw (y6 + 1)))), none]) (pc' := 140) rfl rfl rfl rfl rfl rfl).trans ?_
      exact (zc_goto hm rfl rfl).trans rfl
    · refine (zJ_n rfl).trans ?_
      refine (zq_aln hm (pc' := 86) rfl rfl rfl rfl).trans ?_
      refine (zq_il hm (pc' := 88) rfl rfl rfl rfl).trans ?_
      refine (zq_v0 hm (pc' := 91) rfl rfl rfl (cls_57_12) rfl rfl).trans (zCV_c rfl (fun s103 => ?_))
      refine (zJ_n rfl).trans ?_
      refine (zq_iln hm (pc' := 92) rfl rfl rfl rfl).trans ?_
      refine (zq_ic hm (pc' := 93) rfl rfl rfl rfl).trans ?_
      refine (zq_ine hm (pc' := 96) rfl rfl).trans (zite ?_ ?_)
      · refine (zJ_n rfl).trans ?_
        refine (zq_aln hm (pc' := 97) rfl rfl rfl rfl).trans ?_
        refine (zq_iln hm (pc' := 98) rfl rfl rfl rfl).trans ?_
        refine (zq_v1 hm (pc' := 101) rfl rfl rfl (cls_57_12) rfl rfl).trans (zCI_c rfl (fun r108 s107 => ?_))
        refine (zJ_n rfl).trans ?_
        refine (zq_goto hm rfl rfl).trans ?_
        refine (zq_is hm (ls' := [some (.inl (some 57)), some (.inr (.inl y1)), some (.inr (.inl y2)), some (.inr (.inl y3)), some (.inr (.inl y4)), some (.inr (.inl y5)), some (.inr (.inl y6)), some (.inr (.inl r108))]) (pc' := 111) rfl rfl rfl rfl).trans ?_
        refine (zq_aln hm (pc' := 112) rfl rfl rfl rfl).trans ?_
        refine (zq_aln hm (pc' := 113) rfl rfl rfl rfl).trans ?_
        refine (zq_gr hm (pc' := 116) rfl lay_57 rfl rfl).trans ?_
        refine (zJ_n rfl).trans ?_
        refine (zq_v0 hm (pc' := 119) rfl rfl rfl (cls_57_12) rfl rfl).trans (zCV_c rfl (fun s109 => ?_))
        refine (zJ_n rfl).trans ?_
        refine (zq_il hm (pc' := 121) rfl rfl rfl rfl).trans ?_
        refine (zq_il hm (pc' := 123) rfl rfl rfl rfl).trans ?_
        refine (zq_ilt hm (pc' := 126) rfl rfl).trans (zite ?_ ?_)
        · refine (zJ_n rfl).trans ?_
          refine (zq_il hm (pc' := 131) rfl rfl rfl rfl).trans ?_
          refine (zq_is hm (ls' := [some (.inl (some 57)), some (.inr (.inl y1)), some (.inr (.inl y2)), some (.inr (.inl y3)), some (.inr (.inl r108)), some (.inr (.inl y5)), some (.inr (.inl y6)), some (.inr (.inl r108))]) (pc' := 133) rfl rfl rfl rfl).trans ?_
          refine (zq_il hm (pc' := 135) rfl rfl rfl rfl).trans ?_
          refine (zq_is hm (ls' := [some (.inl (some 57)), some (.inr (.inl y1)), some (.inr (.inl y2)), some (.inr (.inl y3)), some (.inr (.inl r108)), some (.inr (.inl y6)), some (.inr (.inl y6)), some (.inr (.inl r108))]) (pc' := 137) rfl rfl rfl rfl).trans ?_
          refine (zq_iinc hm (ls' := [some (.inl (some 57)), some (.inr (.inl y1)), some (.inr (.inl y2)), some (.inr (.inl y3)), some (.inr (.inl r108)), some (.inr (.inl y6)), some (.inr (.inl (zw (y6 + 1)))), some (.inr (.inl r108))]) (pc' := 140) rfl rfl rfl rfl rfl rfl).trans ?_
          exact (zc_goto hm rfl rfl).trans rfl
        · refine (zJ_n rfl).trans ?_
          refine (zq_goto hm rfl rfl).trans ?_
          refine (zq_iinc hm (ls' := [some (.inl (some 57)), some (.inr (.inl y1)), some (.inr (.inl y2)), some (.inr (.inl y3)), some (.inr (.inl y4)), some (.inr (.inl y5)), some (.inr (.inl (zw (y6 + 1)))), some (.inr (.inl r108))]) (pc' := 140) rfl rfl rfl rfl rfl rfl).trans ?_
          exact (zc_goto hm rfl rfl).trans rfl
      · refine (zJ_n rfl).trans ?_
        refine (zq_aln hm (pc' := 105) rfl rfl rfl rfl).trans ?_
        refine (zq_iln hm (pc' := 106) rfl rfl rfl rfl).trans ?_
        refine (zq_v1 hm (pc' := 109) rfl rfl rfl (cls_57_12) rfl rfl).trans (zCI_c rfl (fun r105 s104 => ?_))
        refine (zJ_n rfl).trans ?_
        refine (zq_is hm (ls' := [some (.inl (some 57)), some (.inr (.inl y1)), some (.inr (.inl y2)), some (.inr (.inl y3)), some (.inr (.inl y4)), some (.inr (.inl y5)), some (.inr (.inl y6)), some (.inr (.inl r105))]) (pc' := 111) rfl rfl rfl rfl).trans ?_
        refine (zq_aln hm (pc' := 112) rfl rfl rfl rfl).trans ?_
        refine (zq_aln hm (pc' := 113) rfl rfl rfl rfl).trans ?_
        refine (zq_gr hm (pc' := 116) rfl lay_57 rfl rfl).trans ?_
        refine (zJ_n rfl).trans ?_
        refine (zq_v0 hm (pc' := 119) rfl rfl rfl (cls_57_12) rfl rfl).trans (zCV_c rfl (fun s106 => ?_))
        refine (zJ_n rfl).trans ?_
        refine (zq_il hm (pc' := 121) rfl rfl rfl rfl).trans ?_
        refine (zq_il hm (pc' := 123) rfl rfl rfl rfl).trans ?_
        refine (zq_ilt hm (pc' := 126) rfl rfl).trans (zite ?_ ?_)
        · refine (zJ_n rfl).trans ?_
          refine (zq_il hm (pc' := 131) rfl rfl rfl rfl).trans ?_
          refine (zq_is hm (ls' := [some (.inl (some 57)), some (.inr (.inl y1)), some (.inr (.inl y2)), some (.inr (.inl y3)), some (.inr (.inl r105)), some (.inr (.inl y5)), some (.inr (.inl y6)), some (.inr (.inl r105))]) (pc' := 133) rfl rfl rfl rfl).trans ?_
          refine (zq_il hm (pc' := 135) rfl rfl rfl rfl).trans ?_
          refine (zq_is hm (ls' := [some (.inl (some 57)), some (.inr (.inl y1)), some (.inr (.inl y2)), some (.inr (.inl y3)), some (.inr (.inl r105)), some (.inr (.inl y6)), some (.inr (.inl y6)), some (.inr (.inl r105))]) (pc' := 137) rfl rfl rfl rfl).trans ?_
          refine (zq_iinc hm (ls' := [some (.inl (some 57)), some (.inr (.inl y1)), some (.inr (.inl y2)), some (.inr (.inl y3)), some (.inr (.inl r105)), some (.inr (.inl y6)), some (.inr (.inl (zw (y6 + 1)))), some (.inr (.inl r105))]) (pc' := 140) rfl rfl rfl rfl rfl rfl).trans ?_
          exact (zc_goto hm rfl rfl).trans rfl
        · refine (zJ_n rfl).trans ?_
          refine (zq_goto hm rfl rfl).trans ?_
          refine (zq_iinc hm (ls' := [some (.inl (some 57)), some (.inr (.inl y1)), some (.inr (.inl y2)), some (.inr (.inl y3)), some (.inr (.inl y4)), some (.inr (.inl y5)), some (.inr (.inl (zw (y6 + 1)))), some (.inr (.inl r105))]) (pc' := 140) rfl rfl rfl rfl rfl rfl).trans ?_
          exact (zc_goto hm rfl rfl).trans rfl
  · refine (zJ_n rfl).trans ?_
    refine (zq_iln hm (pc' := 144) rfl rfl rfl rfl).trans ?_
    refine (zq_zne hm (pc' := 147) rfl rfl).trans (zite ?_ ?_)
    · refine (zJ_n rfl).trans ?_
      refine (zq_il hm (pc' := 149) rfl rfl rfl rfl).trans ?_
      refine (zq_goto hm rfl rfl).trans ?_
      exact zq_ri hm rfl rfl
    · refine (zJ_n rfl).trans ?_
      refine (zq_il hm (pc' := 154) rfl rfl rfl rfl).trans ?_
      exact zq_ri hm rfl rfl
noncomputable def P_X12_drawn_85 (d : Nat) (y1 : Int) (y2 : Int) (y3 : Int) (y4 : Int) (y5 : Int) (σ : zF) : Option zR := zrunL zX2 (zexec zX2 zMT d) K_X12_drawn U_X12_drawn 85 [some (.inl (some 57)), none, some (.inr (.inl y1)), some (.inr (.inl y2)), some (.inr (.inl y3)), some (.inr (.inl y4)), some (.inr (.inl y5)), none] [] (LAY, σ)
noncomputable def P_X12_drawn_98 (d : Nat) (y1 : Int) (y2 : Int) (y3 : Int) (y4 : Int) (y5 : Int) (y6 : Int) (σ : zF) : Option zR := zrunL zX2 (zexec zX2 zMT d) K_X12_drawn U_X12_drawn 98 [some (.inl (some 57)), none, some (.inr (.inl y1)), some (.inr (.inl y2)), some (.inr (.inl y3)), some (.inr (.inl y4)), some (.inr (.inl y5)), some (.inr (.inl y6))] [] (LAY, σ)
set_option maxRecDepth 100000 in
set_option maxHeartbeats 4000000 in
theorem e_X12_drawn (d : Nat) (x1 : Int) (x2 : Int) (x3 : Int) (σ : zF) : zx (d + 1) 229 [.inl (some 57), .inr (.inl x1), .inr (.inl x2), .inr (.inl x3)] σ = (
if x2 < 0 then (
zri (-2000000000) σ) else (
if (10000 : Int) = 0 then none else (
zCI LAY (zx d 153 [.inr (.inl (zdiv x2 10000)), .inr (.inl 1), .inr (.inl 30)] σ) fun r2 s1 =>
if r2 = 0 then (
zri (-2000000000) s1) else (
if (100 : Int) = 0 then none else (
if (100 : Int) = 0 then none else (
zCI LAY (zx d 153 [.inr (.inl (zrem (zdiv x2 100) 100)), .inr (.inl 1), .inr (.inl 40)] s1) fun r4 s3 =>
if r4 = 0 then (
zri (-2000000000) s3) else (
if (100 : Int) = 0 then none else (
if (12 : Int) < zrem x2 100 then (
zri (-2000000000) s3) else (
if x3 = (-1) then (
if (s3 57 0) = 0 then (
zri 0 s3) else (
zCV LAY (zx d 197 [.inl (some 57), .inl (some 86)] s3) fun s5 =>
P_X12_drawn_85 d x2 x3 x1 0 0 s5)) else (
zCI LAY (zx d 154 [.inl (some 57), .inr (.inl x3)] s3) fun r7 s6 =>
if r7 = 0 then (
zri (-2000000000) s6) else (
if (s6 57 0) = 0 then (
zri 0 s6) else (
zCV LAY (zx d 197 [.inl (some 57), .inl (some 86)] s6) fun s8 =>
P_X12_drawn_85 d x2 x3 x1 0 0 s8)))))))))))) := by
  unfold zx
  have hm := zexec_m zX2 zMT d
  refine (zexec_eq mt_229 _ rfl (LAY, σ) 0).trans ?_
  show zrunL zX2 (zexec zX2 zMT d) K_X12_drawn U_X12_drawn 0 [some (.inl (some 57)), some (.inr (.inl x1)), some (.inr (.inl x2)), some (.inr (.inl x3)), none, none, none, none] [] (LAY, σ) = _
  refine (zq_iln hm (pc' := 1) rfl rfl rfl rfl).trans ?_
  refine (zq_zlt hm (pc' := 4) rfl rfl).trans (zite ?_ ?_)
  · refine (zJ_n rfl).trans ?_
    refine (zq_ld hm (pc' := 58) rfl rfl rfl rfl).trans ?_
    exact zq_ri hm rfl rfl
  · refine (zJ_n rfl).trans ?_
    refine (zq_iln hm (pc' := 5) rfl rfl rfl rfl).trans ?_
    refine (zq_si hm (pc' := 8) rfl rfl rfl rfl).trans ?_
    refine (zq_idiv hm (pc' := 9) rfl rfl).trans (zite rfl ?_)
    refine (zJ_n rfl).trans ?_
    refine (zq_ic hm (pc' := 10) rfl rfl rfl rfl).trans ?_
    refine (zq_bi hm (pc' := 12) rfl rfl rfl rfl).trans ?_
    refine (zq_s1 hm (pc' := 15) rfl rfl rfl rfl rfl rfl).trans (zCI_c rfl (fun r2 s1 => ?_))
    refine (zJ_n rfl).trans ?_
    refine (zq_zeq hm (pc' := 18) rfl rfl).trans (zite ?_ ?_)
    · refine (zJ_n rfl).trans ?_
      refine (zq_ld hm (pc' := 58) rfl rfl rfl rfl).trans ?_
      exact zq_ri hm rfl rfl
    · refine (zJ_n rfl).trans ?_
      refine (zq_iln hm (pc' := 19) rfl rfl rfl rfl).trans ?_
      refine (zq_bi hm (pc' := 21) rfl rfl rfl rfl).trans ?_
      refine (zq_idiv hm (pc' := 22) rfl rfl).trans (zite rfl ?_)
      refine (zJ_n rfl).trans ?_
      refine (zq_bi hm (pc' := 24) rfl rfl rfl rfl).trans ?_
      refine (zq_irem hm (pc' := 25) rfl rfl).trans (zite rfl ?_)
      refine (zJ_n rfl).trans ?_
      refine (zq_ic hm (pc' := 26) rfl rfl rfl rfl).trans ?_
      refine (zq_bi hm (pc' := 28) rfl rfl rfl rfl).trans ?_
      refine (zq_s1 hm (pc' := 31) rfl rfl rfl rfl rfl rfl).trans (zCI_c rfl (fun r4 s3 => ?_))
      refine (zJ_n rfl).trans ?_
      refine (zq_zeq hm (pc' := 34) rfl rfl).trans (zite ?_ ?_)
      · refine (zJ_n rfl).trans ?_
        refine (zq_ld hm (pc' := 58) rfl rfl rfl rfl).trans ?_
        exact zq_ri hm rfl rfl
      · refine (zJ_n rfl).trans ?_
        refine (zq_iln hm (pc' := 35) rfl rfl rfl rfl).trans ?_
        refine (zq_bi hm (pc' := 37) rfl rfl rfl rfl).trans ?_
        refine (zq_irem hm (pc' := 38) rfl rfl).trans (zite rfl ?_)
        refine (zJ_n rfl).trans ?_
        refine (zq_bi hm (pc' := 40) rfl rfl rfl rfl).trans ?_
        refine (zq_igt hm (pc' := 43) rfl rfl).trans (zite ?_ ?_)
        · refine (zJ_n rfl).trans ?_
          refine (zq_ld hm (pc' := 58) rfl rfl rfl rfl).trans ?_
          exact zq_ri hm rfl rfl
        · refine (zJ_n rfl).trans ?_
          refine (zq_iln hm (pc' := 44) rfl rfl rfl rfl).trans ?_
          refine (zq_ic hm (pc' := 45) rfl rfl rfl rfl).trans ?_
          refine (zq_ieq hm (pc' := 48) rfl rfl).trans (zite ?_ ?_)
          · refine (zJ_n rfl).trans ?_
            refine (zq_aln hm (pc' := 60) rfl rfl rfl rfl).trans ?_
            refine (zq_gf hm (v := (s3 57 0)) (pc' := 63) rfl lay_57 rfl rfl rfl).trans ?_
            refine (zJ_n rfl).trans ?_
            refine (zq_zne hm (pc' := 66) rfl rfl).trans (zite ?_ ?_)
            · refine (zJ_n rfl).trans ?_
              refine (zq_ic hm (pc' := 67) rfl rfl rfl rfl).trans ?_
              exact zq_ri hm rfl rfl
            · refine (zJ_n rfl).trans ?_
              refine (zq_aln hm (pc' := 69) rfl rfl rfl rfl).trans ?_
              refine (zq_aln hm (pc' := 70) rfl rfl rfl rfl).trans ?_
              refine (zq_gr hm (pc' := 73) rfl lay_57 rfl rfl).trans ?_
              refine (zJ_n rfl).trans ?_
              refine (zq_v0 hm (pc' := 76) rfl rfl rfl (cls_57_12) rfl rfl).trans (zCV_c rfl (fun s5 => ?_))
              refine (zJ_n rfl).trans ?_
              refine (zq_iln hm (pc' := 77) rfl rfl rfl rfl).trans ?_
              refine (zq_is hm (ls' := [some (.inl (some 57)), some (.inr (.inl x1)), some (.inr (.inl x2)), some (.inr (.inl x3)), some (.inr (.inl x1)), none, none, none]) (pc' := 79) rfl rfl rfl rfl).trans ?_
              refine (zq_ic hm (pc' := 80) rfl rfl rfl rfl).trans ?_
              refine (zq_is hm (ls' := [some (.inl (some 57)), some (.inr (.inl x1)), some (.inr (.inl x2)), some (.inr (.inl x3)), some (.inr (.inl x1)), some (.inr (.inl 0)), none, none]) (pc' := 82) rfl rfl rfl rfl).trans ?_
              refine (zq_ic hm (pc' := 83) rfl rfl rfl rfl).trans ?_
              exact (zc_is hm (ls' := [some (.inl (some 57)), some (.inr (.inl x1)), some (.inr (.inl x2)), some (.inr (.inl x3)), some (.inr (.inl x1)), some (.inr (.inl 0)), some (.inr (.inl 0)), none]) (pc' := 85) rfl rfl rfl rfl).trans rfl
          · refine (zJ_n rfl).trans ?_
            refine (zq_aln hm (pc' := 49) rfl rfl rfl rfl).trans ?_
            refine (zq_iln hm (pc' := 50) rfl rfl rfl rfl).trans ?_
            refine (zq_v1 hm (pc' := 53) rfl rfl rfl (cls_57_12) rfl rfl).trans (zCI_c rfl (fun r7 s6 => ?_))
            refine (zJ_n rfl).trans ?_
            refine (zq_zne hm (pc' := 56) rfl rfl).trans (zite ?_ ?_)
            · refine (zJ_n rfl).trans ?_
              refine (zq_ld hm (pc' := 58) rfl rfl rfl rfl).trans ?_
              exact zq_ri hm rfl rfl
            · refine (zJ_n rfl).trans ?_
              refine (zq_aln hm (pc' := 60) rfl rfl rfl rfl).trans ?_
              refine (zq_gf hm (v := (s6 57 0)) (pc' := 63) rfl lay_57 rfl rfl rfl).trans ?_
              refine (zJ_n rfl).trans ?_
              refine (zq_zne hm (pc' := 66) rfl rfl).trans (zite ?_ ?_)
              · refine (zJ_n rfl).trans ?_
                refine (zq_ic hm (pc' := 67) rfl rfl rfl rfl).trans ?_
                exact zq_ri hm rfl rfl
              · refine (zJ_n rfl).trans ?_
                refine (zq_aln hm (pc' := 69) rfl rfl rfl rfl).trans ?_
                refine (zq_aln hm (pc' := 70) rfl rfl rfl rfl).trans ?_
                refine (zq_gr hm (pc' := 73) rfl lay_57 rfl rfl).trans ?_
                refine (zJ_n rfl).trans ?_
                refine (zq_v0 hm (pc' := 76) rfl rfl rfl (cls_57_12) rfl rfl).trans (zCV_c rfl (fun s8 => ?_))
                refine (zJ_n rfl).trans ?_
                refine (zq_iln hm (pc' := 77) rfl rfl rfl rfl).trans ?_
                refine (zq_is hm (ls' := [some (.inl (some 57)), some (.inr (.inl x1)), some (.inr (.inl x2)), some (.inr (.inl x3)), some (.inr (.inl x1)), none, none, none]) (pc' := 79) rfl rfl rfl rfl).trans ?_
                refine (zq_ic hm (pc' := 80) rfl rfl rfl rfl).trans ?_
                refine (zq_is hm (ls' := [some (.inl (some 57)), some (.inr (.inl x1)), some (.inr (.inl x2)), some (.inr (.inl x3)), some (.inr (.inl x1)), some (.inr (.inl 0)), none, none]) (pc' := 82) rfl rfl rfl rfl).trans ?_
                refine (zq_ic hm (pc' := 83) rfl rfl rfl rfl).trans ?_
                exact (zc_is hm (ls' := [some (.inl (some 57)), some (.inr (.inl x1)), some (.inr (.inl x2)), some (.inr (.inl x3)), some (.inr (.inl x1)), some (.inr (.inl 0)), some (.inr (.inl 0)), none]) (pc' := 85) rfl rfl rfl rfl).trans rfl
set_option maxRecDepth 100000 in
set_option maxHeartbeats 4000000 in
theorem e_X12_drawn_85 (d : Nat) (y1 : Int) (y2 : Int) (y3 : Int) (y4 : Int) (y5 : Int) (σ : zF) : P_X12_drawn_85 d y1 y2 y3 y4 y5 σ = (
if (10000 : Int) = 0 then none else (
if y5 < zdiv y1 10000 then (
P_X12_drawn_98 d y1 y2 y3 y4 y5 0 σ) else (
zri y4 σ))) := by
  have hm := zexec_m zX2 zMT d
  show zrunL zX2 (zexec zX2 zMT d) K_X12_drawn U_X12_drawn 85 [some (.inl (some 57)), none, some (.inr (.inl y1)), some (.inr (.inl y2)), some (.inr (.inl y3)), some (.inr (.inl y4)), some (.inr (.inl y5)), none] [] (LAY, σ) = _
  refine (zq_il hm (pc' := 87) rfl rfl rfl rfl).trans ?_
  refine (zq_iln hm (pc' := 88) rfl rfl rfl rfl).trans ?_
  refine (zq_si hm (pc' := 91) rfl rfl rfl rfl).trans ?_
  refine (zq_idiv hm (pc' := 92) rfl rfl).trans (zite rfl ?_)
  refine (zJ_n rfl).trans ?_
  refine (zq_ige hm (pc' := 95) rfl rfl).trans (zite ?_ ?_)
  · refine (zJ_n rfl).trans ?_
    refine (zq_ic hm (pc' := 96) rfl rfl rfl rfl).trans ?_
    exact (zc_is hm (ls' := [some (.inl (some 57)), none, some (.inr (.inl y1)), some (.inr (.inl y2)), some (.inr (.inl y3)), some (.inr (.inl y4)), some (.inr (.inl y5)), some (.inr (.inl 0))]) (pc' := 98) rfl rfl rfl rfl).trans rfl
  · refine (zJ_n rfl).trans ?_
    refine (zq_il hm (pc' := 204) rfl rfl rfl rfl).trans ?_
    exact zq_ri hm rfl rfl
set_option maxRecDepth 100000 in
set_option maxHeartbeats 4000000 in
theorem e_X12_drawn_98 (d : Nat) (y1 : Int) (y2 : Int) (y3 : Int) (y4 : Int) (y5 : Int) (y6 : Int) (σ : zF) : P_X12_drawn_98 d y1 y2 y3 y4 y5 y6 σ = (
if (100 : Int) = 0 then none else (
if (100 : Int) = 0 then none else (
if y6 < zrem (zdiv y1 100) 100 then (
if (σ 57 0) = 0 then none else (
if (12 : Int) = 0 then none else (
if (100 : Int) = 0 then none else (
if zrem (zushr (zw ((zw (y3 * 1103515245)) + 12345)) 16) 12 < zrem y1 100 then (
zCV LAY (zx d 196 [.inl (some 57), .inr (.inl (zrem (zushr (zw ((zw (y3 * 1103515245)) + 12345)) 8) (σ 57 0))), .inr (.inl 1)] σ) fun s106 =>
P_X12_drawn_98 d y1 y2 (zw ((zw (y3 * 1103515245)) + 12345)) y4 y5 (zw (y6 + 1)) s106) else (
zCV LAY (zx d 196 [.inl (some 57), .inr (.inl (zrem (zushr (zw ((zw (y3 * 1103515245)) + 12345)) 8) (σ 57 0))), .inr (.inl 2)] σ) fun s105 =>
P_X12_drawn_98 d y1 y2 (zw ((zw (y3 * 1103515245)) + 12345)) y4 y5 (zw (y6 + 1)) s105))))) else (
if y2 = (-1) then (
zCI LAY (zx d 193 [.inl (some 57)] σ) fun r103 s102 =>
zCV LAY (zx d 198 [.inl (some 57), .inl (some 86)] s102) fun s104 =>
P_X12_drawn_85 d y1 y2 y3 (zw (y4 + r103)) (zw (y5 + 1)) s104) else (
if 0 ≤ zw (12 + y2) ∧ zw (12 + y2) < 48 then (
zCV LAY (zx d 198 [.inl (some 57), .inl (some 86)] σ) fun s101 =>
P_X12_drawn_85 d y1 y2 y3 (zw (y4 + (σ 60 (zw (12 + y2))))) (zw (y5 + 1)) s101) else (
none)))))) := by
  have hm := zexec_m zX2 zMT d
  show zrunL zX2 (zexec zX2 zMT d) K_X12_drawn U_X12_drawn 98 [some (.inl (some 57)), none, some (.inr (.inl y1)), some (.inr (.inl y2)), some (.inr (.inl y3)), some (.inr (.inl y4)), some (.inr (.inl y5)), some (.inr (.inl y6))] [] (LAY, σ) = _
  refine (zq_il hm (pc' := 100) rfl rfl rfl rfl).trans ?_
  refine (zq_iln hm (pc' := 101) rfl rfl rfl rfl).trans ?_
  refine (zq_bi hm (pc' := 103) rfl rfl rfl rfl).trans ?_
  refine (zq_idiv hm (pc' := 104) rfl rfl).trans (zite rfl ?_)
  refine (zJ_n rfl).trans ?_
  refine (zq_bi hm (pc' := 106) rfl rfl rfl rfl).trans ?_
  refine (zq_irem hm (pc' := 107) rfl rfl).trans (zite rfl ?_)
  refine (zJ_n rfl).trans ?_
  refine (zq_ige hm (pc' := 110) rfl rfl).trans (zite ?_ ?_)
  · refine (zJ_n rfl).trans ?_
    refine (zq_il hm (pc' := 112) rfl rfl rfl rfl).trans ?_
    refine (zq_lw hm (pc' := 115) rfl rfl rfl rfl).trans ?_
    refine (zq_imul hm (pc' := 116) rfl rfl rfl).trans ?_
    refine (zq_si hm (pc' := 119) rfl rfl rfl rfl).trans ?_
    refine (zq_iadd hm (pc' := 120) rfl rfl rfl).trans ?_
    refine (zq_is hm (ls' := [some (.inl (some 57)), none, some (.inr (.inl y1)), some (.inr (.inl y2)), some (.inr (.inl (zw ((zw (y3 * 1103515245)) + 12345)))), some (.inr (.inl y4)), some (.inr (.inl y5)), some (.inr (.inl y6))]) (pc' := 122) rfl rfl rfl rfl).trans ?_
    refine (zq_aln hm (pc' := 123) rfl rfl rfl rfl).trans ?_
    refine (zq_il hm (pc' := 125) rfl rfl rfl rfl).trans ?_
    refine (zq_bi hm (pc' := 127) rfl rfl rfl rfl).trans ?_
    refine (zq_iushr hm (pc' := 128) rfl rfl rfl).trans ?_
    refine (zq_aln hm (pc' := 129) rfl rfl rfl rfl).trans ?_
    refine (zq_gf hm (v := (σ 57 0)) (pc' := 132) rfl lay_57 rfl rfl rfl).trans ?_
    refine (zJ_n rfl).trans ?_
    refine (zq_irem hm (pc' := 133) rfl rfl).trans (zite rfl ?_)
    refine (zJ_n rfl).trans ?_
    refine (zq_il hm (pc' := 135) rfl rfl rfl rfl).trans ?_
    refine (zq_bi hm (pc' := 137) rfl rfl rfl rfl).trans ?_
    refine (zq_iushr hm (pc' := 138) rfl rfl rfl).trans ?_
    refine (zq_bi hm (pc' := 140) rfl rfl rfl rfl).trans ?_
    refine (zq_irem hm (pc' := 141) rfl rfl).trans (zite rfl ?_)
    refine (zJ_n rfl).trans ?_
    refine (zq_iln hm (pc' := 142) rfl rfl rfl rfl).trans ?_
    refine (zq_bi hm (pc' := 144) rfl rfl rfl rfl).trans ?_
    refine (zq_irem hm (pc' := 145) rfl rfl).trans (zite rfl ?_)
    refine (zJ_n rfl).trans ?_
    refine (zq_ige hm (pc' := 148) rfl rfl).trans (zite ?_ ?_)
    · refine (zJ_n rfl).trans ?_
      refine (zq_ic hm (pc' := 149) rfl rfl rfl rfl).trans ?_
      refine (zq_goto hm rfl rfl).trans ?_
      refine (zq_v0 hm (pc' := 156) rfl rfl rfl (cls_57_12) rfl rfl).trans (zCV_c rfl (fun s106 => ?_))
      refine (zJ_n rfl).trans ?_
      refine (zq_iinc hm (ls' := [some (.inl (some 57)), none, some (.inr (.inl y1)), some (.inr (.inl y2)), some (.inr (.inl (zw ((zw (y3 * 1103515245)) + 12345)))), some (.inr (.inl y4)), some (.inr (.inl y5)), some (.inr (.inl (zw (y6 + 1))))]) (pc' := 159) rfl rfl rfl rfl rfl rfl).trans ?_
      exact (zc_goto hm rfl rfl).trans rfl
    · refine (zJ_n rfl).trans ?_
      refine (zq_ic hm (pc' := 153) rfl rfl rfl rfl).trans ?_
      refine (zq_v0 hm (pc' := 156) rfl rfl rfl (cls_57_12) rfl rfl).trans (zCV_c rfl (fun s105 => ?_))
      refine (zJ_n rfl).trans ?_
      refine (zq_iinc hm (ls' := [some (.inl (some 57)), none, some (.inr (.inl y1)), some (.inr (.inl y2)), some (.inr (.inl (zw ((zw (y3 * 1103515245)) + 12345)))), some (.inr (.inl y4)), some (.inr (.inl y5)), some (.inr (.inl (zw (y6 + 1))))]) (pc' := 159) rfl rfl rfl rfl rfl rfl).trans ?_
      exact (zc_goto hm rfl rfl).trans rfl
  · refine (zJ_n rfl).trans ?_
    refine (zq_il hm (pc' := 164) rfl rfl rfl rfl).trans ?_
    refine (zq_iln hm (pc' := 165) rfl rfl rfl rfl).trans ?_
    refine (zq_ic hm (pc' := 166) rfl rfl rfl rfl).trans ?_
    refine (zq_ine hm (pc' := 169) rfl rfl).trans (zite ?_ ?_)
    · refine (zJ_n rfl).trans ?_
      refine (zq_aln hm (pc' := 170) rfl rfl rfl rfl).trans ?_
      refine (zq_v1 hm (pc' := 173) rfl rfl rfl (cls_57_12) rfl rfl).trans (zCI_c rfl (fun r103 s102 => ?_))
      refine (zJ_n rfl).trans ?_
      refine (zq_goto hm rfl rfl).trans ?_
      refine (zq_iadd hm (pc' := 186) rfl rfl rfl).trans ?_
      refine (zq_is hm (ls' := [some (.inl (some 57)), none, some (.inr (.inl y1)), some (.inr (.inl y2)), some (.inr (.inl y3)), some (.inr (.inl (zw (y4 + r103)))), some (.inr (.inl y5)), some (.inr (.inl y6))]) (pc' := 188) rfl rfl rfl rfl).trans ?_
      refine (zq_aln hm (pc' := 189) rfl rfl rfl rfl).trans ?_
      refine (zq_aln hm (pc' := 190) rfl rfl rfl rfl).trans ?_
      refine (zq_gr hm (pc' := 193) rfl lay_57 rfl rfl).trans ?_
      refine (zJ_n rfl).trans ?_
      refine (zq_v0 hm (pc' := 196) rfl rfl rfl (cls_57_12) rfl rfl).trans (zCV_c rfl (fun s104 => ?_))
      refine (zJ_n rfl).trans ?_
      refine (zq_iinc hm (ls' := [some (.inl (some 57)), none, some (.inr (.inl y1)), some (.inr (.inl y2)), some (.inr (.inl y3)), some (.inr (.inl (zw (y4 + r103)))), some (.inr (.inl (zw (y5 + 1)))), some (.inr (.inl y6))]) (pc' := 199) rfl rfl rfl rfl rfl rfl).trans ?_
      exact (zc_goto hm rfl rfl).trans rfl
    · refine (zJ_n rfl).trans ?_
      refine (zq_aln hm (pc' := 177) rfl rfl rfl rfl).trans ?_
      refine (zq_gr hm (pc' := 180) rfl lay_57 rfl rfl).trans ?_
      refine (zJ_n rfl).trans ?_
      refine (zq_bi hm (pc' := 182) rfl rfl rfl rfl).trans ?_
      refine (zq_iln hm (pc' := 183) rfl rfl rfl rfl).trans ?_
      refine (zq_iadd hm (pc' := 184) rfl rfl rfl).trans ?_
      refine (zq_ia hm (v := (σ 60 (zw (12 + y2)))) (pc' := 185) rfl lay_60 rfl rfl).trans (zite ?_ rfl)
      refine (zJ_n rfl).trans ?_
      refine (zq_iadd hm (pc' := 186) rfl rfl rfl).trans ?_
      refine (zq_is hm (ls' := [some (.inl (some 57)), none, some (.inr (.inl y1)), some (.inr (.inl y2)), some (.inr (.inl y3)), some (.inr (.inl (zw (y4 + (σ 60 (zw (12 + y2))))))), some (.inr (.inl y5)), some (.inr (.inl y6))]) (pc' := 188) rfl rfl rfl rfl).trans ?_
      refine (zq_aln hm (pc' := 189) rfl rfl rfl rfl).trans ?_
      refine (zq_aln hm (pc' := 190) rfl rfl rfl rfl).trans ?_
      refine (zq_gr hm (pc' := 193) rfl lay_57 rfl rfl).trans ?_
      refine (zJ_n rfl).trans ?_
      refine (zq_v0 hm (pc' := 196) rfl rfl rfl (cls_57_12) rfl rfl).trans (zCV_c rfl (fun s101 => ?_))
      refine (zJ_n rfl).trans ?_
      refine (zq_iinc hm (ls' := [some (.inl (some 57)), none, some (.inr (.inl y1)), some (.inr (.inl y2)), some (.inr (.inl y3)), some (.inr (.inl (zw (y4 + (σ 60 (zw (12 + y2))))))), some (.inr (.inl (zw (y5 + 1)))), some (.inr (.inl y6))]) (pc' := 199) rfl rfl rfl rfl rfl rfl).trans ?_
      exact (zc_goto hm rfl rfl).trans rfl
set_option maxRecDepth 100000 in
set_option maxHeartbeats 4000000 in
theorem e_X12_goes (d : Nat) (x1 : Int) (x2 : Int) (x3 : Int) (σ : zF) : zx (d + 1) 230 [.inl (some 57), .inr (.inl x1), .inr (.inl x2), .inr (.inl x3)] σ = (
zCI LAY (zx d 155 [.inl (some 57), .inr (.inl x1)] σ) fun r2 s1 =>
if r2 = 0 then (
zri (-1) s1) else (
zCI LAY (zx d 154 [.inl (some 57), .inr (.inl x2)] s1) fun r4 s3 =>
if r4 = 0 then (
zri (-1) s3) else (
zCI LAY (zx d 153 [.inr (.inl x3), .inr (.inl 0), .inr (.inl 2)] s3) fun r6 s5 =>
if r6 = 0 then (
zri (-1) s5) else (
zCI LAY (zx d 188 [.inl (some 57), .inr (.inl x2)] s5) fun r8 s7 =>
if r8 = 0 then (
if 0 ≤ x1 ∧ x1 < 4 then (
zCI LAY (zx d 189 [.inl (some 57), .inr (.inl x2), .inr (.inl (s7 61 x1))] s7) fun r10 s9 =>
if r10 = 0 then (
zri (-5) s9) else (
zCI LAY (zx d 192 [.inl (some 57), .inr (.inl x2)] s9) fun r12 s11 =>
if 0 ≤ x2 ∧ x2 < 12 then (
if 0 ≤ x2 ∧ x2 < 12 then (
if 0 ≤ x1 ∧ x1 < 4 then (
if 0 ≤ x1 ∧ x1 < 4 then (
zCV LAY (zx d 196 [.inl (some 57), .inr (.inl x2), .inr (.inl x3)] (zset s11 61 x1 (zw ((zw ((s11 58 x2) + (s11 59 x2))) - (s11 61 x1))))) fun s13 =>
if 0 ≤ (0 : Int) ∧ 0 < 5 then (
if 0 ≤ (0 : Int) ∧ 0 < 5 then (
if 0 ≤ (1 : Int) ∧ 1 < 5 then (
if 0 ≤ (1 : Int) ∧ 1 < 5 then (
if x3 = 1 then (
if 0 ≤ (2 : Int) ∧ 2 < 5 then (
if 0 ≤ (2 : Int) ∧ 2 < 5 then (
if x3 = 2 then (
if 0 ≤ (3 : Int) ∧ 3 < 5 then (
if 0 ≤ (3 : Int) ∧ 3 < 5 then (
zri r12 (zset (zset (zset (zset s13 74 0 (zw ((s13 74 0) + 1))) 74 1 (zw ((s13 74 1) + r12))) 74 2 (zw ((s13 74 2) + 1))) 74 3 (zw ((s13 74 3) + 1)))) else (
none)) else (
none)) else (
zri r12 (zset (zset (zset s13 74 0 (zw ((s13 74 0) + 1))) 74 1 (zw ((s13 74 1) + r12))) 74 2 (zw ((s13 74 2) + 1))))) else (
none)) else (
none)) else (
if x3 = 2 then (
if 0 ≤ (3 : Int) ∧ 3 < 5 then (
if 0 ≤ (3 : Int) ∧ 3 < 5 then (
zri r12 (zset (zset (zset s13 74 0 (zw ((s13 74 0) + 1))) 74 1 (zw ((s13 74 1) + r12))) 74 3 (zw ((s13 74 3) + 1)))) else (
none)) else (
none)) else (
zri r12 (zset (zset s13 74 0 (zw ((s13 74 0) + 1))) 74 1 (zw ((s13 74 1) + r12)))))) else (
none)) else (
none)) else (
none)) else (
none)) else (
none)) else (
none)) else (
none)) else (
none))) else (
none)) else (
zri (-5) s7))))) := by
  unfold zx
  have hm := zexec_m zX2 zMT d
  refine (zexec_eq mt_230 _ rfl (LAY, σ) 0).trans ?_
  show zrunL zX2 (zexec zX2 zMT d) K_X12_goes U_X12_goes 0 [some (.inl (some 57)), some (.inr (.inl x1)), some (.inr (.inl x2)), some (.inr (.inl x3)), none] [] (LAY, σ) = _
  refine (zq_aln hm (pc' := 1) rfl rfl rfl rfl).trans ?_
  refine (zq_iln hm (pc' := 2) rfl rfl rfl rfl).trans ?_
  refine (zq_v1 hm (pc' := 5) rfl rfl rfl (cls_57_12) rfl rfl).trans (zCI_c rfl (fun r2 s1 => ?_))
  refine (zJ_n rfl).trans ?_
  refine (zq_zeq hm (pc' := 8) rfl rfl).trans (zite ?_ ?_)
  · refine (zJ_n rfl).trans ?_
    refine (zq_ic hm (pc' := 26) rfl rfl rfl rfl).trans ?_
    exact zq_ri hm rfl rfl
  · refine (zJ_n rfl).trans ?_
    refine (zq_aln hm (pc' := 9) rfl rfl rfl rfl).trans ?_
    refine (zq_iln hm (pc' := 10) rfl rfl rfl rfl).trans ?_
    refine (zq_v1 hm (pc' := 13) rfl rfl rfl (cls_57_12) rfl rfl).trans (zCI_c rfl (fun r4 s3 => ?_))
    refine (zJ_n rfl).trans ?_
    refine (zq_zeq hm (pc' := 16) rfl rfl).trans (zite ?_ ?_)
    · refine (zJ_n rfl).trans ?_
      refine (zq_ic hm (pc' := 26) rfl rfl rfl rfl).trans ?_
      exact zq_ri hm rfl rfl
    · refine (zJ_n rfl).trans ?_
      refine (zq_iln hm (pc' := 17) rfl rfl rfl rfl).trans ?_
      refine (zq_ic hm (pc' := 18) rfl rfl rfl rfl).trans ?_
      refine (zq_ic hm (pc' := 19) rfl rfl rfl rfl).trans ?_
      refine (zq_s1 hm (pc' := 22) rfl rfl rfl rfl rfl rfl).trans (zCI_c rfl (fun r6 s5 => ?_))
      refine (zJ_n rfl).trans ?_
      refine (zq_zne hm (pc' := 25) rfl rfl).trans (zite ?_ ?_)
      · refine (zJ_n rfl).trans ?_
        refine (zq_ic hm (pc' := 26) rfl rfl rfl rfl).trans ?_
        exact zq_ri hm rfl rfl
      · refine (zJ_n rfl).trans ?_
        refine (zq_aln hm (pc' := 28) rfl rfl rfl rfl).trans ?_
        refine (zq_iln hm (pc' := 29) rfl rfl rfl rfl).trans ?_
        refine (zq_v1 hm (pc' := 32) rfl rfl rfl (cls_57_12) rfl rfl).trans (zCI_c rfl (fun r8 s7 => ?_))
        refine (zJ_n rfl).trans ?_
        refine (zq_zne hm (pc' := 35) rfl rfl).trans (zite ?_ ?_)
        · refine (zJ_n rfl).trans ?_
          refine (zq_aln hm (pc' := 36) rfl rfl rfl rfl).trans ?_
          refine (zq_iln hm (pc' := 37) rfl rfl rfl rfl).trans ?_
          refine (zq_aln hm (pc' := 38) rfl rfl rfl rfl).trans ?_
          refine (zq_gr hm (pc' := 41) rfl lay_57 rfl rfl).trans ?_
          refine (zJ_n rfl).trans ?_
          refine (zq_iln hm (pc' := 42) rfl rfl rfl rfl).trans ?_
          refine (zq_ia hm (v := (s7 61 x1)) (pc' := 43) rfl lay_61 rfl rfl).trans (zite ?_ rfl)
          refine (zJ_n rfl).trans ?_
          refine (zq_v1 hm (pc' := 46) rfl rfl rfl (cls_57_12) rfl rfl).trans (zCI_c rfl (fun r10 s9 => ?_))
          refine (zJ_n rfl).trans ?_
          refine (zq_zne hm (pc' := 49) rfl rfl).trans (zite ?_ ?_)
          · refine (zJ_n rfl).trans ?_
            refine (zq_bi hm (pc' := 51) rfl rfl rfl rfl).trans ?_
            exact zq_ri hm rfl rfl
          · refine (zJ_n rfl).trans ?_
            refine (zq_aln hm (pc' := 53) rfl rfl rfl rfl).trans ?_
            refine (zq_iln hm (pc' := 54) rfl rfl rfl rfl).trans ?_
            refine (zq_v1 hm (pc' := 57) rfl rfl rfl (cls_57_12) rfl rfl).trans (zCI_c rfl (fun r12 s11 => ?_))
            refine (zJ_n rfl).trans ?_
            refine (zq_is hm (ls' := [some (.inl (some 57)), some (.inr (.inl x1)), some (.inr (.inl x2)), some (.inr (.inl x3)), some (.inr (.inl r12))]) (pc' := 59) rfl rfl rfl rfl).trans ?_
            refine (zq_aln hm (pc' := 60) rfl rfl rfl rfl).trans ?_
            refine (zq_gr hm (pc' := 63) rfl lay_57 rfl rfl).trans ?_
            refine (zJ_n rfl).trans ?_
            refine (zq_iln hm (pc' := 64) rfl rfl rfl rfl).trans ?_
            refine (zq_aln hm (pc' := 65) rfl rfl rfl rfl).trans ?_
            refine (zq_gr hm (pc' := 68) rfl lay_57 rfl rfl).trans ?_
            refine (zJ_n rfl).trans ?_
            refine (zq_iln hm (pc' := 69) rfl rfl rfl rfl).trans ?_
            refine (zq_ia hm (v := (s11 58 x2)) (pc' := 70) rfl lay_58 rfl rfl).trans (zite ?_ rfl)
            refine (zJ_n rfl).trans ?_
            refine (zq_aln hm (pc' := 71) rfl rfl rfl rfl).trans ?_
            refine (zq_gr hm (pc' := 74) rfl lay_57 rfl rfl).trans ?_
            refine (zJ_n rfl).trans ?_
            refine (zq_iln hm (pc' := 75) rfl rfl rfl rfl).trans ?_
            refine (zq_ia hm (v := (s11 59 x2)) (pc' := 76) rfl lay_59 rfl rfl).trans (zite ?_ rfl)
            refine (zJ_n rfl).trans ?_
            refine (zq_iadd hm (pc' := 77) rfl rfl rfl).trans ?_
            refine (zq_aln hm (pc' := 78) rfl rfl rfl rfl).trans ?_
            refine (zq_gr hm (pc' := 81) rfl lay_57 rfl rfl).trans ?_
            refine (zJ_n rfl).trans ?_
            refine (zq_iln hm (pc' := 82) rfl rfl rfl rfl).trans ?_
            refine (zq_ia hm (v := (s11 61 x1)) (pc' := 83) rfl lay_61 rfl rfl).trans (zite ?_ rfl)
            refine (zJ_n rfl).trans ?_
            refine (zq_isub hm (pc' := 84) rfl rfl rfl).trans ?_
            refine (zq_ist hm (pc' := 85) rfl lay_61 rfl).trans (zite ?_ rfl)
            refine (zJ_n rfl).trans ?_
            refine (zq_aln hm (pc' := 86) rfl rfl rfl rfl).trans ?_
            refine (zq_iln hm (pc' := 87) rfl rfl rfl rfl).trans ?_
            refine (zq_iln hm (pc' := 88) rfl rfl rfl rfl).trans ?_
            refine (zq_v0 hm (pc' := 91) rfl rfl rfl (cls_57_12) rfl rfl).trans (zCV_c rfl (fun s13 => ?_))
            refine (zJ_n rfl).trans ?_
            refine (zq_aln hm (pc' := 92) rfl rfl rfl rfl).trans ?_
            refine (zq_gr hm (pc' := 95) rfl lay_57 rfl rfl).trans ?_
            refine (zJ_n rfl).trans ?_
            refine (zq_ic hm (pc' := 96) rfl rfl rfl rfl).trans ?_
            refine (zq_dup2 hm (pc' := 97) rfl rfl rfl rfl rfl).trans ?_
            refine (zq_ia hm (v := (s13 74 0)) (pc' := 98) rfl lay_74 rfl rfl).trans (zite ?_ rfl)
            refine (zJ_n rfl).trans ?_
            refine (zq_ic hm (pc' := 99) rfl rfl rfl rfl).trans ?_
            refine (zq_iadd hm (pc' := 100) rfl rfl rfl).trans ?_
            refine (zq_ist hm (pc' := 101) rfl lay_74 rfl).trans (zite ?_ rfl)
            refine (zJ_n rfl).trans ?_
            refine (zq_aln hm (pc' := 102) rfl rfl rfl rfl).trans ?_
            refine (zq_gr hm (pc' := 105) rfl lay_57 rfl rfl).trans ?_
            refine (zJ_n rfl).trans ?_
            refine (zq_ic hm (pc' := 106) rfl rfl rfl rfl).trans ?_
            refine (zq_dup2 hm (pc' := 107) rfl rfl rfl rfl rfl).trans ?_
            refine (zq_ia hm (v := (s13 74 1)) (pc' := 108) rfl lay_74 (zsi (by decide)) rfl).trans (zite ?_ rfl)
            refine (zJ_n rfl).trans ?_
            refine (zq_il hm (pc' := 110) rfl rfl rfl rfl).trans ?_
            refine (zq_iadd hm (pc' := 111) rfl rfl rfl).trans ?_
            refine (zq_ist hm (pc' := 112) rfl lay_74 rfl).trans (zite ?_ rfl)
            refine (zJ_n rfl).trans ?_
            refine (zq_iln hm (pc' := 113) rfl rfl rfl rfl).trans ?_
            refine (zq_ic hm (pc' := 114) rfl rfl rfl rfl).trans ?_
            refine (zq_ine hm (pc' := 117) rfl rfl).trans (zite ?_ ?_)
            · refine (zJ_n rfl).trans ?_
              refine (zq_aln hm (pc' := 118) rfl rfl rfl rfl).trans ?_
              refine (zq_gr hm (pc' := 121) rfl lay_57 rfl rfl).trans ?_
              refine (zJ_n rfl).trans ?_
              refine (zq_ic hm (pc' := 122) rfl rfl rfl rfl).trans ?_
              refine (zq_dup2 hm (pc' := 123) rfl rfl rfl rfl rfl).trans ?_
              refine (zq_ia hm (v := (s13 74 2)) (pc' := 124) rfl lay_74 ((zsi (by decide)).trans (zsi (by decide))) rfl).trans (zite ?_ rfl)
              refine (zJ_n rfl).trans ?_
              refine (zq_ic hm (pc' := 125) rfl rfl rfl rfl).trans ?_
              refine (zq_iadd hm (pc' := 126) rfl rfl rfl).trans ?_
              refine (zq_ist hm (pc' := 127) rfl lay_74 rfl).trans (zite ?_ rfl)
              refine (zJ_n rfl).trans ?_
              refine (zq_iln hm (pc' := 128) rfl rfl rfl rfl).trans ?_
              refine (zq_ic hm (pc' := 129) rfl rfl rfl rfl).trans ?_
              refine (zq_ine hm (pc' := 132) rfl rfl).trans (zite ?_ ?_)
              · refine (zJ_n rfl).trans ?_
                refine (zq_aln hm (pc' := 133) rfl rfl rfl rfl).trans ?_
                refine (zq_gr hm (pc' := 136) rfl lay_57 rfl rfl).trans ?_
                refine (zJ_n rfl).trans ?_
                refine (zq_ic hm (pc' := 137) rfl rfl rfl rfl).trans ?_
                refine (zq_dup2 hm (pc' := 138) rfl rfl rfl rfl rfl).trans ?_
                refine (zq_ia hm (v := (s13 74 3)) (pc' := 139) rfl lay_74 ((zsi (by decide)).trans ((zsi (by decide)).trans (zsi (by decide)))) rfl).trans (zite ?_ rfl)
                refine (zJ_n rfl).trans ?_
                refine (zq_ic hm (pc' := 140) rfl rfl rfl rfl).trans ?_
                refine (zq_iadd hm (pc' := 141) rfl rfl rfl).trans ?_
                refine (zq_ist hm (pc' := 142) rfl lay_74 rfl).trans (zite ?_ rfl)
                refine (zJ_n rfl).trans ?_
                refine (zq_il hm (pc' := 144) rfl rfl rfl rfl).trans ?_
                exact zq_ri hm rfl rfl
              · refine (zJ_n rfl).trans ?_
                refine (zq_il hm (pc' := 144) rfl rfl rfl rfl).trans ?_
                exact zq_ri hm rfl rfl
            · refine (zJ_n rfl).trans ?_
              refine (zq_iln hm (pc' := 128) rfl rfl rfl rfl).trans ?_
              refine (zq_ic hm (pc' := 129) rfl rfl rfl rfl).trans ?_
              refine (zq_ine hm (pc' := 132) rfl rfl).trans (zite ?_ ?_)
              · refine (zJ_n rfl).trans ?_
                refine (zq_aln hm (pc' := 133) rfl rfl rfl rfl).trans ?_
                refine (zq_gr hm (pc' := 136) rfl lay_57 rfl rfl).trans ?_
                refine (zJ_n rfl).trans ?_
                refine (zq_ic hm (pc' := 137) rfl rfl rfl rfl).trans ?_
                refine (zq_dup2 hm (pc' := 138) rfl rfl rfl rfl rfl).trans ?_
                refine (zq_ia hm (v := (s13 74 3)) (pc' := 139) rfl lay_74 ((zsi (by decide)).trans (zsi (by decide))) rfl).trans (zite ?_ rfl)
                refine (zJ_n rfl).trans ?_
                refine (zq_ic hm (pc' := 140) rfl rfl rfl rfl).trans ?_
                refine (zq_iadd hm (pc' := 141) rfl rfl rfl).trans ?_
                refine (zq_ist hm (pc' := 142) rfl lay_74 rfl).trans (zite ?_ rfl)
                refine (zJ_n rfl).trans ?_
                refine (zq_il hm (pc' := 144) rfl rfl rfl rfl).trans ?_
                exact zq_ri hm rfl rfl
              · refine (zJ_n rfl).trans ?_
                refine (zq_il hm (pc' := 144) rfl rfl rfl rfl).trans ?_
                exact zq_ri hm rfl rfl
        · refine (zJ_n rfl).trans ?_
          refine (zq_bi hm (pc' := 51) rfl rfl rfl rfl).trans ?_
          exact zq_ri hm rfl rfl
noncomputable def P_X12_night_2 (d : Nat) (y1 : Int) (σ : zF) : Option zR := zrunL zX2 (zexec zX2 zMT d) K_X12_night U_X12_night 2 [some (.inl (some 57)), some (.inr (.inl y1)), none] [] (LAY, σ)
set_option maxRecDepth 100000 in
set_option maxHeartbeats 4000000 in
theorem e_X12_night (d : Nat) (σ : zF) : zx (d + 1) 231 [.inl (some 57)] σ = (
P_X12_night_2 d 0 σ) := by
  unfold zx
  have hm := zexec_m zX2 zMT d
  refine (zexec_eq mt_231 _ rfl (LAY, σ) 0).trans ?_
  show zrunL zX2 (zexec zX2 zMT d) K_X12_night U_X12_night 0 [some (.inl (some 57)), none, none] [] (LAY, σ) = _
  refine (zq_ic hm (pc' := 1) rfl rfl rfl rfl).trans ?_
  exact (zc_isn hm (ls' := [some (.inl (some 57)), some (.inr (.inl 0)), none]) (pc' := 2) rfl rfl rfl rfl).trans rfl
set_option maxRecDepth 100000 in
set_option maxHeartbeats 4000000 in
theorem e_X12_night_2 (d : Nat) (y1 : Int) (σ : zF) : P_X12_night_2 d y1 σ = (
if y1 < (σ 57 0) then (
if 0 ≤ zw (12 + y1) ∧ zw (12 + y1) < 48 then (
if (0 : Int) < (σ 60 (zw (12 + y1))) then (
if 0 ≤ zw (12 + y1) ∧ zw (12 + y1) < 48 then (
P_X12_night_2 d (zw (y1 + 1)) (zset σ 60 (zw (12 + y1)) (zw ((σ 60 (zw (12 + y1))) - 1)))) else (
none)) else (
if (σ 60 (zw (12 + y1))) < 0 then (
if 0 ≤ zw (12 + y1) ∧ zw (12 + y1) < 48 then (
P_X12_night_2 d (zw (y1 + 1)) (zset σ 60 (zw (12 + y1)) (zw ((σ 60 (zw (12 + y1))) + 1)))) else (
none)) else (
if 0 ≤ zw (12 + y1) ∧ zw (12 + y1) < 48 then (
P_X12_night_2 d (zw (y1 + 1)) (zset σ 60 (zw (12 + y1)) 0)) else (
none)))) else (
none)) else (
if 0 ≤ (4 : Int) ∧ 4 < 5 then (
if 0 ≤ (4 : Int) ∧ 4 < 5 then (
if 0 ≤ (4 : Int) ∧ 4 < 5 then (
zri (zw ((σ 74 4) + 1)) (zset σ 74 4 (zw ((σ 74 4) + 1)))) else (
none)) else (
none)) else (
none))) := by
  have hm := zexec_m zX2 zMT d
  show zrunL zX2 (zexec zX2 zMT d) K_X12_night U_X12_night 2 [some (.inl (some 57)), some (.inr (.inl y1)), none] [] (LAY, σ) = _
  refine (zq_iln hm (pc' := 3) rfl rfl rfl rfl).trans ?_
  refine (zq_aln hm (pc' := 4) rfl rfl rfl rfl).trans ?_
  refine (zq_gf hm (v := (σ 57 0)) (pc' := 7) rfl lay_57 rfl rfl rfl).trans ?_
  refine (zJ_n rfl).trans ?_
  refine (zq_ige hm (pc' := 10) rfl rfl).trans (zite ?_ ?_)
  · refine (zJ_n rfl).trans ?_
    refine (zq_aln hm (pc' := 11) rfl rfl rfl rfl).trans ?_
    refine (zq_gr hm (pc' := 14) rfl lay_57 rfl rfl).trans ?_
    refine (zJ_n rfl).trans ?_
    refine (zq_bi hm (pc' := 16) rfl rfl rfl rfl).trans ?_
    refine (zq_iln hm (pc' := 17) rfl rfl rfl rfl).trans ?_
    refine (zq_iadd hm (pc' := 18) rfl rfl rfl).trans ?_
    refine (zq_ia hm (v := (σ 60 (zw (12 + y1)))) (pc' := 19) rfl lay_60 rfl rfl).trans (zite ?_ rfl)
    refine (zJ_n rfl).trans ?_
    refine (zq_isn hm (ls' := [some (.inl (some 57)), some (.inr (.inl y1)), some (.inr (.inl (σ 60 (zw (12 + y1)))))]) (pc' := 20) rfl rfl rfl rfl).trans ?_
    refine (zq_aln hm (pc' := 21) rfl rfl rfl rfl).trans ?_
    refine (zq_gr hm (pc' := 24) rfl lay_57 rfl rfl).trans ?_
    refine (zJ_n rfl).trans ?_
    refine (zq_bi hm (pc' := 26) rfl rfl rfl rfl).trans ?_
    refine (zq_iln hm (pc' := 27) rfl rfl rfl rfl).trans ?_
    refine (zq_iadd hm (pc' := 28) rfl rfl rfl).trans ?_
    refine (zq_iln hm (pc' := 29) rfl rfl rfl rfl).trans ?_
    refine (zq_zle hm (pc' := 32) rfl rfl).trans (zite ?_ ?_)
    · refine (zJ_n rfl).trans ?_
      refine (zq_iln hm (pc' := 33) rfl rfl rfl rfl).trans ?_
      refine (zq_ic hm (pc' := 34) rfl rfl rfl rfl).trans ?_
      refine (zq_isub hm (pc' := 35) rfl rfl rfl).trans ?_
      refine (zq_goto hm rfl rfl).trans ?_
      refine (zq_ist hm (pc' := 50) rfl lay_60 rfl).trans (zite ?_ rfl)
      refine (zJ_n rfl).trans ?_
      refine (zq_iinc hm (ls' := [some (.inl (some 57)), some (.inr (.inl (zw (y1 + 1)))), some (.inr (.inl (σ 60 (zw (12 + y1)))))]) (pc' := 53) rfl rfl rfl rfl rfl rfl).trans ?_
      exact (zc_goto hm rfl rfl).trans rfl
    · refine (zJ_n rfl).trans ?_
      refine (zq_iln hm (pc' := 39) rfl rfl rfl rfl).trans ?_
      refine (zq_zge hm (pc' := 42) rfl rfl).trans (zite ?_ ?_)
      · refine (zJ_n rfl).trans ?_
        refine (zq_iln hm (pc' := 43) rfl rfl rfl rfl).trans ?_
        refine (zq_ic hm (pc' := 44) rfl rfl rfl rfl).trans ?_
        refine (zq_iadd hm (pc' := 45) rfl rfl rfl).trans ?_
        refine (zq_goto hm rfl rfl).trans ?_
        refine (zq_ist hm (pc' := 50) rfl lay_60 rfl).trans (zite ?_ rfl)
        refine (zJ_n rfl).trans ?_
        refine (zq_iinc hm (ls' := [some (.inl (some 57)), some (.inr (.inl (zw (y1 + 1)))), some (.inr (.inl (σ 60 (zw (12 + y1)))))]) (pc' := 53) rfl rfl rfl rfl rfl rfl).trans ?_
        exact (zc_goto hm rfl rfl).trans rfl
      · refine (zJ_n rfl).trans ?_
        refine (zq_ic hm (pc' := 49) rfl rfl rfl rfl).trans ?_
        refine (zq_ist hm (pc' := 50) rfl lay_60 rfl).trans (zite ?_ rfl)
        refine (zJ_n rfl).trans ?_
        refine (zq_iinc hm (ls' := [some (.inl (some 57)), some (.inr (.inl (zw (y1 + 1)))), some (.inr (.inl (σ 60 (zw (12 + y1)))))]) (pc' := 53) rfl rfl rfl rfl rfl rfl).trans ?_
        exact (zc_goto hm rfl rfl).trans rfl
  · refine (zJ_n rfl).trans ?_
    refine (zq_aln hm (pc' := 57) rfl rfl rfl rfl).trans ?_
    refine (zq_gr hm (pc' := 60) rfl lay_57 rfl rfl).trans ?_
    refine (zJ_n rfl).trans ?_
    refine (zq_ic hm (pc' := 61) rfl rfl rfl rfl).trans ?_
    refine (zq_dup2 hm (pc' := 62) rfl rfl rfl rfl rfl).trans ?_
    refine (zq_ia hm (v := (σ 74 4)) (pc' := 63) rfl lay_74 rfl rfl).trans (zite ?_ rfl)
    refine (zJ_n rfl).trans ?_
    refine (zq_ic hm (pc' := 64) rfl rfl rfl rfl).trans ?_
    refine (zq_iadd hm (pc' := 65) rfl rfl rfl).trans ?_
    refine (zq_ist hm (pc' := 66) rfl lay_74 rfl).trans (zite ?_ rfl)
    refine (zJ_n rfl).trans ?_
    refine (zq_aln hm (pc' := 67) rfl rfl rfl rfl).trans ?_
    refine (zq_gr hm (pc' := 70) rfl lay_57 rfl rfl).trans ?_
    refine (zJ_n rfl).trans ?_
    refine (zq_ic hm (pc' := 71) rfl rfl rfl rfl).trans ?_
    refine (zq_ia hm (v := zw ((σ 74 4) + 1)) (pc' := 72) rfl lay_74 zsh rfl).trans (zite ?_ rfl)
    refine (zJ_n rfl).trans ?_
    exact zq_ri hm rfl rfl
set_option maxRecDepth 100000 in
set_option maxHeartbeats 4000000 in
theorem e_X12_led (d : Nat) (x1 : Int) (σ : zF) : zx (d + 1) 232 [.inl (some 57), .inr (.inl x1)] σ = (
zCI LAY (zx d 153 [.inr (.inl x1), .inr (.inl 0), .inr (.inl 4)] σ) fun r2 s1 =>
if r2 = 0 then (
zri (-1) s1) else (
if 0 ≤ x1 ∧ x1 < 5 then (
zri (s1 74 x1) s1) else (
none))) := by
  unfold zx
  have hm := zexec_m zX2 zMT d
  refine (zexec_eq mt_232 _ rfl (LAY, σ) 0).trans ?_
  show zrunL zX2 (zexec zX2 zMT d) K_X12_led U_X12_led 0 [some (.inl (some 57)), some (.inr (.inl x1))] [] (LAY, σ) = _
  refine (zq_iln hm (pc' := 1) rfl rfl rfl rfl).trans ?_
  refine (zq_ic hm (pc' := 2) rfl rfl rfl rfl).trans ?_
  refine (zq_ic hm (pc' := 3) rfl rfl rfl rfl).trans ?_
  refine (zq_s1 hm (pc' := 6) rfl rfl rfl rfl rfl rfl).trans (zCI_c rfl (fun r2 s1 => ?_))
  refine (zJ_n rfl).trans ?_
  refine (zq_zeq hm (pc' := 9) rfl rfl).trans (zite ?_ ?_)
  · refine (zJ_n rfl).trans ?_
    refine (zq_ic hm (pc' := 19) rfl rfl rfl rfl).trans ?_
    exact zq_ri hm rfl rfl
  · refine (zJ_n rfl).trans ?_
    refine (zq_aln hm (pc' := 10) rfl rfl rfl rfl).trans ?_
    refine (zq_gr hm (pc' := 13) rfl lay_57 rfl rfl).trans ?_
    refine (zJ_n rfl).trans ?_
    refine (zq_iln hm (pc' := 14) rfl rfl rfl rfl).trans ?_
    refine (zq_ia hm (v := (s1 74 x1)) (pc' := 15) rfl lay_74 rfl rfl).trans (zite ?_ rfl)
    refine (zJ_n rfl).trans ?_
    refine (zq_goto hm rfl rfl).trans ?_
    exact zq_ri hm rfl rfl
noncomputable def P_X12_image_31 (d : Nat) (y1 : Int) (σ : zF) : Option zR := zrunL zX2 (zexec zX2 zMT d) K_X12_image U_X12_image 31 [some (.inl (some 57)), some (.inr (.inl y1))] [] (LAY, σ)
noncomputable def P_X12_image_56 (d : Nat) (y1 : Int) (σ : zF) : Option zR := zrunL zX2 (zexec zX2 zMT d) K_X12_image U_X12_image 56 [some (.inl (some 57)), some (.inr (.inl y1))] [] (LAY, σ)
set_option maxRecDepth 100000 in
set_option maxHeartbeats 4000000 in
theorem e_X12_image (d : Nat) (σ : zF) : zx (d + 1) 233 [.inl (some 57)] σ = (
zCV LAY (zx d 197 [.inl (some 57), .inl (some 75)] (zset (zset (zset σ 57 26 1) 57 27 (σ 57 0)) 57 28 (σ 57 4))) fun s1 =>
P_X12_image_31 d 0 s1) := by
  unfold zx
  have hm := zexec_m zX2 zMT d
  refine (zexec_eq mt_233 _ rfl (LAY, σ) 0).trans ?_
  show zrunL zX2 (zexec zX2 zMT d) K_X12_image U_X12_image 0 [some (.inl (some 57)), none] [] (LAY, σ) = _
  refine (zq_aln hm (pc' := 1) rfl rfl rfl rfl).trans ?_
  refine (zq_ic hm (pc' := 2) rfl rfl rfl rfl).trans ?_
  refine ((zq_pb hm (pc' := 5) rfl lay_57 rfl rfl rfl).trans (zif1 (by decide))).trans ?_
  refine (zJ_n rfl).trans ?_
  refine (zq_aln hm (pc' := 6) rfl rfl rfl rfl).trans ?_
  refine (zq_aln hm (pc' := 7) rfl rfl rfl rfl).trans ?_
  refine (zq_gf hm (v := (σ 57 0)) (pc' := 10) rfl lay_57 rfl (zsi (by decide)) rfl).trans ?_
  refine (zJ_n rfl).trans ?_
  refine (zq_pf hm (pc' := 13) rfl lay_57 rfl rfl rfl).trans ?_
  refine (zJ_n rfl).trans ?_
  refine (zq_aln hm (pc' := 14) rfl rfl rfl rfl).trans ?_
  refine (zq_aln hm (pc' := 15) rfl rfl rfl rfl).trans ?_
  refine (zq_gf hm (v := (σ 57 4)) (pc' := 18) rfl lay_57 rfl ((zsi (by decide)).trans (zsi (by decide))) rfl).trans ?_
  refine (zJ_n rfl).trans ?_
  refine (zq_pf hm (pc' := 21) rfl lay_57 rfl rfl rfl).trans ?_
  refine (zJ_n rfl).trans ?_
  refine (zq_aln hm (pc' := 22) rfl rfl rfl rfl).trans ?_
  refine (zq_aln hm (pc' := 23) rfl rfl rfl rfl).trans ?_
  refine (zq_gr hm (pc' := 26) rfl lay_57 rfl rfl).trans ?_
  refine (zJ_n rfl).trans ?_
  refine (zq_v0 hm (pc' := 29) rfl rfl rfl (cls_57_12) rfl rfl).trans (zCV_c rfl (fun s1 => ?_))
  refine (zJ_n rfl).trans ?_
  refine (zq_ic hm (pc' := 30) rfl rfl rfl rfl).trans ?_
  exact (zc_isn hm (ls' := [some (.inl (some 57)), some (.inr (.inl 0))]) (pc' := 31) rfl rfl rfl rfl).trans rfl
set_option maxRecDepth 100000 in
set_option maxHeartbeats 4000000 in
theorem e_X12_image_31 (d : Nat) (y1 : Int) (σ : zF) : P_X12_image_31 d y1 σ = (
if y1 < 4 then (
if 0 ≤ y1 ∧ y1 < 4 then (
if 0 ≤ y1 ∧ y1 < 4 then (
P_X12_image_31 d (zw (y1 + 1)) (zset σ 76 y1 (σ 61 y1))) else (
none)) else (
none)) else (
P_X12_image_56 d 0 σ)) := by
  have hm := zexec_m zX2 zMT d
  show zrunL zX2 (zexec zX2 zMT d) K_X12_image U_X12_image 31 [some (.inl (some 57)), some (.inr (.inl y1))] [] (LAY, σ) = _
  refine (zq_iln hm (pc' := 32) rfl rfl rfl rfl).trans ?_
  refine (zq_ic hm (pc' := 33) rfl rfl rfl rfl).trans ?_
  refine (zq_ige hm (pc' := 36) rfl rfl).trans (zite ?_ ?_)
  · refine (zJ_n rfl).trans ?_
    refine (zq_aln hm (pc' := 37) rfl rfl rfl rfl).trans ?_
    refine (zq_gr hm (pc' := 40) rfl lay_57 rfl rfl).trans ?_
    refine (zJ_n rfl).trans ?_
    refine (zq_iln hm (pc' := 41) rfl rfl rfl rfl).trans ?_
    refine (zq_aln hm (pc' := 42) rfl rfl rfl rfl).trans ?_
    refine (zq_gr hm (pc' := 45) rfl lay_57 rfl rfl).trans ?_
    refine (zJ_n rfl).trans ?_
    refine (zq_iln hm (pc' := 46) rfl rfl rfl rfl).trans ?_
    refine (zq_ia hm (v := (σ 61 y1)) (pc' := 47) rfl lay_61 rfl rfl).trans (zite ?_ rfl)
    refine (zJ_n rfl).trans ?_
    refine (zq_ist hm (pc' := 48) rfl lay_76 rfl).trans (zite ?_ rfl)
    refine (zJ_n rfl).trans ?_
    refine (zq_iinc hm (ls' := [some (.inl (some 57)), some (.inr (.inl (zw (y1 + 1))))]) (pc' := 51) rfl rfl rfl rfl rfl rfl).trans ?_
    exact (zc_goto hm rfl rfl).trans rfl
  · refine (zJ_n rfl).trans ?_
    refine (zq_ic hm (pc' := 55) rfl rfl rfl rfl).trans ?_
    exact (zc_isn hm (ls' := [some (.inl (some 57)), some (.inr (.inl 0))]) (pc' := 56) rfl rfl rfl rfl).trans rfl
set_option maxRecDepth 100000 in
set_option maxHeartbeats 4000000 in
theorem e_X12_image_56 (d : Nat) (y1 : Int) (σ : zF) : P_X12_image_56 d y1 σ = (
if y1 < 5 then (
if 0 ≤ y1 ∧ y1 < 5 then (
if 0 ≤ y1 ∧ y1 < 5 then (
P_X12_image_56 d (zw (y1 + 1)) (zset σ 77 y1 (σ 74 y1))) else (
none)) else (
none)) else (
if 0 ≤ (0 : Int) ∧ 0 < 5 then (
zri (σ 74 0) σ) else (
none))) := by
  have hm := zexec_m zX2 zMT d
  show zrunL zX2 (zexec zX2 zMT d) K_X12_image U_X12_image 56 [some (.inl (some 57)), some (.inr (.inl y1))] [] (LAY, σ) = _
  refine (zq_iln hm (pc' := 57) rfl rfl rfl rfl).trans ?_
  refine (zq_ic hm (pc' := 58) rfl rfl rfl rfl).trans ?_
  refine (zq_ige hm (pc' := 61) rfl rfl).trans (zite ?_ ?_)
  · refine (zJ_n rfl).trans ?_
    refine (zq_aln hm (pc' := 62) rfl rfl rfl rfl).trans ?_
    refine (zq_gr hm (pc' := 65) rfl lay_57 rfl rfl).trans ?_
    refine (zJ_n rfl).trans ?_
    refine (zq_iln hm (pc' := 66) rfl rfl rfl rfl).trans ?_
    refine (zq_aln hm (pc' := 67) rfl rfl rfl rfl).trans ?_
    refine (zq_gr hm (pc' := 70) rfl lay_57 rfl rfl).trans ?_
    refine (zJ_n rfl).trans ?_
    refine (zq_iln hm (pc' := 71) rfl rfl rfl rfl).trans ?_
    refine (zq_ia hm (v := (σ 74 y1)) (pc' := 72) rfl lay_74 rfl rfl).trans (zite ?_ rfl)
    refine (zJ_n rfl).trans ?_
    refine (zq_ist hm (pc' := 73) rfl lay_77 rfl).trans (zite ?_ rfl)
    refine (zJ_n rfl).trans ?_
    refine (zq_iinc hm (ls' := [some (.inl (some 57)), some (.inr (.inl (zw (y1 + 1))))]) (pc' := 76) rfl rfl rfl rfl rfl rfl).trans ?_
    exact (zc_goto hm rfl rfl).trans rfl
  · refine (zJ_n rfl).trans ?_
    refine (zq_aln hm (pc' := 80) rfl rfl rfl rfl).trans ?_
    refine (zq_gr hm (pc' := 83) rfl lay_57 rfl rfl).trans ?_
    refine (zJ_n rfl).trans ?_
    refine (zq_ic hm (pc' := 84) rfl rfl rfl rfl).trans ?_
    refine (zq_ia hm (v := (σ 74 0)) (pc' := 85) rfl lay_74 rfl rfl).trans (zite ?_ rfl)
    refine (zJ_n rfl).trans ?_
    exact zq_ri hm rfl rfl
noncomputable def P_X12_back_12 (d : Nat) (y1 : Int) (σ : zF) : Option zR := zrunL zX2 (zexec zX2 zMT d) K_X12_back U_X12_back 12 [some (.inl (some 57)), some (.inr (.inl y1))] [] (LAY, σ)
noncomputable def P_X12_back_43 (d : Nat) (y1 : Int) (σ : zF) : Option zR := zrunL zX2 (zexec zX2 zMT d) K_X12_back U_X12_back 43 [some (.inl (some 57)), some (.inr (.inl y1))] [] (LAY, σ)
noncomputable def P_X12_back_71 (d : Nat) (y1 : Int) (σ : zF) : Option zR := zrunL zX2 (zexec zX2 zMT d) K_X12_back U_X12_back 71 [some (.inl (some 57)), some (.inr (.inl y1))] [] (LAY, σ)
set_option maxRecDepth 100000 in
set_option maxHeartbeats 4000000 in
theorem e_X12_back (d : Nat) (σ : zF) : zx (d + 1) 234 [.inl (some 57)] σ = (
if (σ 57 26) = 0 then (
zri (-5) σ) else (
P_X12_back_12 d 0 σ)) := by
  unfold zx
  have hm := zexec_m zX2 zMT d
  refine (zexec_eq mt_234 _ rfl (LAY, σ) 0).trans ?_
  show zrunL zX2 (zexec zX2 zMT d) K_X12_back U_X12_back 0 [some (.inl (some 57)), none] [] (LAY, σ) = _
  refine (zq_aln hm (pc' := 1) rfl rfl rfl rfl).trans ?_
  refine (zq_gf hm (v := (σ 57 26)) (pc' := 4) rfl lay_57 rfl rfl rfl).trans ?_
  refine (zJ_n rfl).trans ?_
  refine (zq_zne hm (pc' := 7) rfl rfl).trans (zite ?_ ?_)
  · refine (zJ_n rfl).trans ?_
    refine (zq_bi hm (pc' := 9) rfl rfl rfl rfl).trans ?_
    exact zq_ri hm rfl rfl
  · refine (zJ_n rfl).trans ?_
    refine (zq_ic hm (pc' := 11) rfl rfl rfl rfl).trans ?_
    exact (zc_isn hm (ls' := [some (.inl (some 57)), some (.inr (.inl 0))]) (pc' := 12) rfl rfl rfl rfl).trans rfl
set_option maxRecDepth 100000 in
set_option maxHeartbeats 4000000 in
theorem e_X12_back_12 (d : Nat) (y1 : Int) (σ : zF) : P_X12_back_12 d y1 σ = (
if y1 < (σ 57 27) then (
if 0 ≤ y1 ∧ y1 < 12 then (
if 0 ≤ zw (12 + y1) ∧ zw (12 + y1) < 48 then (
P_X12_back_12 d (zw (y1 + 1)) (zset σ 60 (zw (12 + y1)) (σ 75 y1))) else (
none)) else (
none)) else (
P_X12_back_43 d 0 σ)) := by
  have hm := zexec_m zX2 zMT d
  show zrunL zX2 (zexec zX2 zMT d) K_X12_back U_X12_back 12 [some (.inl (some 57)), some (.inr (.inl y1))] [] (LAY, σ) = _
  refine (zq_iln hm (pc' := 13) rfl rfl rfl rfl).trans ?_
  refine (zq_aln hm (pc' := 14) rfl rfl rfl rfl).trans ?_
  refine (zq_gf hm (v := (σ 57 27)) (pc' := 17) rfl lay_57 rfl rfl rfl).trans ?_
  refine (zJ_n rfl).trans ?_
  refine (zq_ige hm (pc' := 20) rfl rfl).trans (zite ?_ ?_)
  · refine (zJ_n rfl).trans ?_
    refine (zq_aln hm (pc' := 21) rfl rfl rfl rfl).trans ?_
    refine (zq_gr hm (pc' := 24) rfl lay_57 rfl rfl).trans ?_
    refine (zJ_n rfl).trans ?_
    refine (zq_bi hm (pc' := 26) rfl rfl rfl rfl).trans ?_
    refine (zq_iln hm (pc' := 27) rfl rfl rfl rfl).trans ?_
    refine (zq_iadd hm (pc' := 28) rfl rfl rfl).trans ?_
    refine (zq_aln hm (pc' := 29) rfl rfl rfl rfl).trans ?_
    refine (zq_gr hm (pc' := 32) rfl lay_57 rfl rfl).trans ?_
    refine (zJ_n rfl).trans ?_
    refine (zq_iln hm (pc' := 33) rfl rfl rfl rfl).trans ?_
    refine (zq_ia hm (v := (σ 75 y1)) (pc' := 34) rfl lay_75 rfl rfl).trans (zite ?_ rfl)
    refine (zJ_n rfl).trans ?_
    refine (zq_ist hm (pc' := 35) rfl lay_60 rfl).trans (zite ?_ rfl)
    refine (zJ_n rfl).trans ?_
    refine (zq_iinc hm (ls' := [some (.inl (some 57)), some (.inr (.inl (zw (y1 + 1))))]) (pc' := 38) rfl rfl rfl rfl rfl rfl).trans ?_
    exact (zc_goto hm rfl rfl).trans rfl
  · refine (zJ_n rfl).trans ?_
    refine (zq_ic hm (pc' := 42) rfl rfl rfl rfl).trans ?_
    exact (zc_isn hm (ls' := [some (.inl (some 57)), some (.inr (.inl 0))]) (pc' := 43) rfl rfl rfl rfl).trans rfl
set_option maxRecDepth 100000 in
set_option maxHeartbeats 4000000 in
theorem e_X12_back_43 (d : Nat) (y1 : Int) (σ : zF) : P_X12_back_43 d y1 σ = (
if y1 < (σ 57 28) then (
if 0 ≤ y1 ∧ y1 < 4 then (
if 0 ≤ y1 ∧ y1 < 4 then (
P_X12_back_43 d (zw (y1 + 1)) (zset σ 61 y1 (σ 76 y1))) else (
none)) else (
none)) else (
P_X12_back_71 d 0 σ)) := by
  have hm := zexec_m zX2 zMT d
  show zrunL zX2 (zexec zX2 zMT d) K_X12_back U_X12_back 43 [some (.inl (some 57)), some (.inr (.inl y1))] [] (LAY, σ) = _
  refine (zq_iln hm (pc' := 44) rfl rfl rfl rfl).trans ?_
  refine (zq_aln hm (pc' := 45) rfl rfl rfl rfl).trans ?_
  refine (zq_gf hm (v := (σ 57 28)) (pc' := 48) rfl lay_57 rfl rfl rfl).trans ?_
  refine (zJ_n rfl).trans ?_
  refine (zq_ige hm (pc' := 51) rfl rfl).trans (zite ?_ ?_)
  · refine (zJ_n rfl).trans ?_
    refine (zq_aln hm (pc' := 52) rfl rfl rfl rfl).trans ?_
    refine (zq_gr hm (pc' := 55) rfl lay_57 rfl rfl).trans ?_
    refine (zJ_n rfl).trans ?_
    refine (zq_iln hm (pc' := 56) rfl rfl rfl rfl).trans ?_
    refine (zq_aln hm (pc' := 57) rfl rfl rfl rfl).trans ?_
    refine (zq_gr hm (pc' := 60) rfl lay_57 rfl rfl).trans ?_
    refine (zJ_n rfl).trans ?_
    refine (zq_iln hm (pc' := 61) rfl rfl rfl rfl).trans ?_
    refine (zq_ia hm (v := (σ 76 y1)) (pc' := 62) rfl lay_76 rfl rfl).trans (zite ?_ rfl)
    refine (zJ_n rfl).trans ?_
    refine (zq_ist hm (pc' := 63) rfl lay_61 rfl).trans (zite ?_ rfl)
    refine (zJ_n rfl).trans ?_
    refine (zq_iinc hm (ls' := [some (.inl (some 57)), some (.inr (.inl (zw (y1 + 1))))]) (pc' := 66) rfl rfl rfl rfl rfl rfl).trans ?_
    exact (zc_goto hm rfl rfl).trans rfl
  · refine (zJ_n rfl).trans ?_
    refine (zq_ic hm (pc' := 70) rfl rfl rfl rfl).trans ?_
    exact (zc_isn hm (ls' := [some (.inl (some 57)), some (.inr (.inl 0))]) (pc' := 71) rfl rfl rfl rfl).trans rfl
set_option maxRecDepth 100000 in
set_option maxHeartbeats 4000000 in
theorem e_X12_back_71 (d : Nat) (y1 : Int) (σ : zF) : P_X12_back_71 d y1 σ = (
if y1 < 5 then (
if 0 ≤ y1 ∧ y1 < 5 then (
if 0 ≤ y1 ∧ y1 < 5 then (
P_X12_back_71 d (zw (y1 + 1)) (zset σ 74 y1 (σ 77 y1))) else (
none)) else (
none)) else (
if 0 ≤ (0 : Int) ∧ 0 < 5 then (
zri (σ 74 0) σ) else (
none))) := by
  have hm := zexec_m zX2 zMT d
  show zrunL zX2 (zexec zX2 zMT d) K_X12_back U_X12_back 71 [some (.inl (some 57)), some (.inr (.inl y1))] [] (LAY, σ) = _
  refine (zq_iln hm (pc' := 72) rfl rfl rfl rfl).trans ?_
  refine (zq_ic hm (pc' := 73) rfl rfl rfl rfl).trans ?_
  refine (zq_ige hm (pc' := 76) rfl rfl).trans (zite ?_ ?_)
  · refine (zJ_n rfl).trans ?_
    refine (zq_aln hm (pc' := 77) rfl rfl rfl rfl).trans ?_
    refine (zq_gr hm (pc' := 80) rfl lay_57 rfl rfl).trans ?_
    refine (zJ_n rfl).trans ?_
    refine (zq_iln hm (pc' := 81) rfl rfl rfl rfl).trans ?_
    refine (zq_aln hm (pc' := 82) rfl rfl rfl rfl).trans ?_
    refine (zq_gr hm (pc' := 85) rfl lay_57 rfl rfl).trans ?_
    refine (zJ_n rfl).trans ?_
    refine (zq_iln hm (pc' := 86) rfl rfl rfl rfl).trans ?_
    refine (zq_ia hm (v := (σ 77 y1)) (pc' := 87) rfl lay_77 rfl rfl).trans (zite ?_ rfl)
    refine (zJ_n rfl).trans ?_
    refine (zq_ist hm (pc' := 88) rfl lay_74 rfl).trans (zite ?_ rfl)
    refine (zJ_n rfl).trans ?_
    refine (zq_iinc hm (ls' := [some (.inl (some 57)), some (.inr (.inl (zw (y1 + 1))))]) (pc' := 91) rfl rfl rfl rfl rfl rfl).trans ?_
    exact (zc_goto hm rfl rfl).trans rfl
  · refine (zJ_n rfl).trans ?_
    refine (zq_aln hm (pc' := 95) rfl rfl rfl rfl).trans ?_
    refine (zq_gr hm (pc' := 98) rfl lay_57 rfl rfl).trans ?_
    refine (zJ_n rfl).trans ?_
    refine (zq_ic hm (pc' := 99) rfl rfl rfl rfl).trans ?_
    refine (zq_ia hm (v := (σ 74 0)) (pc' := 100) rfl lay_74 rfl rfl).trans (zite ?_ rfl)
    refine (zJ_n rfl).trans ?_
    exact zq_ri hm rfl rfl
