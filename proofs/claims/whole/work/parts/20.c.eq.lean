/-! equations, 3 -/
noncomputable def P_X6_pairsThatFit_18 (d : Nat) (y1 : Nat) (y2 : Int) (y3 : Int) (y4 : Int) (σ : zF) : Option zR := zrunL zX2 (zexec zX2 zMT d) K_X6_pairsThatFit U_X6_pairsThatFit 18 [some (.inl (some 24)), some (.inl (some y1)), some (.inr (.inl y2)), some (.inr (.inl y3)), some (.inr (.inl y4)), none] [] (LAY, σ)
noncomputable def P_X6_pairsThatFit_33 (d : Nat) (y1 : Nat) (y2 : Int) (y3 : Int) (y4 : Int) (y5 : Int) (σ : zF) : Option zR := zrunL zX2 (zexec zX2 zMT d) K_X6_pairsThatFit U_X6_pairsThatFit 33 [some (.inl (some 24)), some (.inl (some y1)), some (.inr (.inl y2)), some (.inr (.inl y3)), some (.inr (.inl y4)), some (.inr (.inl y5))] [] (LAY, σ)
set_option maxRecDepth 100000 in
set_option maxHeartbeats 4000000 in
theorem e_X6_pairsThatFit (d : Nat) (k : Nat) (σ : zF) : zx (d + 1) 61 [.inl (some 24), .inl (some k)] σ = (
zCI LAY (zx d 58 [.inl (some 24)] σ) fun r2 s1 =>
zCV LAY (zx d 87 [.inl (some 17), .inr (.inl (-1))] s1) fun s3 =>
P_X6_pairsThatFit_18 d k 0 r2 1 s3) := by
  unfold zx
  have hm := zexec_m zX2 zMT d
  refine (zexec_eq mt_61 _ rfl (LAY, σ) 0).trans ?_
  show zrunL zX2 (zexec zX2 zMT d) K_X6_pairsThatFit U_X6_pairsThatFit 0 [some (.inl (some 24)), some (.inl (some k)), none, none, none, none] [] (LAY, σ) = _
  refine (zq_ic hm (pc' := 1) rfl rfl rfl rfl).trans ?_
  refine (zq_isn hm (ls' := [some (.inl (some 24)), some (.inl (some k)), some (.inr (.inl 0)), none, none, none]) (pc' := 2) rfl rfl rfl rfl).trans ?_
  refine (zq_aln hm (pc' := 3) rfl rfl rfl rfl).trans ?_
  refine (zq_v1 hm (pc' := 6) rfl rfl rfl (cls_24_6) rfl rfl).trans (zCI_c rfl (fun r2 s1 => ?_))
  refine (zJ_n rfl).trans ?_
  refine (zq_isn hm (ls' := [some (.inl (some 24)), some (.inl (some k)), some (.inr (.inl 0)), some (.inr (.inl r2)), none, none]) (pc' := 7) rfl rfl rfl rfl).trans ?_
  refine (zq_aln hm (pc' := 8) rfl rfl rfl rfl).trans ?_
  refine (zq_gr hm (pc' := 11) rfl lay_24 rfl rfl).trans ?_
  refine (zJ_n rfl).trans ?_
  refine (zq_ic hm (pc' := 12) rfl rfl rfl rfl).trans ?_
  refine (zq_v0 hm (pc' := 15) rfl rfl rfl (cls_17_9) rfl rfl).trans (zCV_c rfl (fun s3 => ?_))
  refine (zJ_n rfl).trans ?_
  refine (zq_ic hm (pc' := 16) rfl rfl rfl rfl).trans ?_
  exact (zc_is hm (ls' := [some (.inl (some 24)), some (.inl (some k)), some (.inr (.inl 0)), some (.inr (.inl r2)), some (.inr (.inl 1)), none]) (pc' := 18) rfl rfl rfl rfl).trans rfl
set_option maxRecDepth 100000 in
set_option maxHeartbeats 4000000 in
theorem e_X6_pairsThatFit_18 (d : Nat) (y1 : Nat) (y2 : Int) (y3 : Int) (y4 : Int) (σ : zF) : P_X6_pairsThatFit_18 d y1 y2 y3 y4 σ = (
if y4 < y3 then (
zCV LAY (zx d 62 [.inl (some 24), .inr (.inl y4)] σ) fun s101 =>
P_X6_pairsThatFit_33 d y1 y2 y3 y4 1 s101) else (
zri y2 σ)) := by
  have hm := zexec_m zX2 zMT d
  show zrunL zX2 (zexec zX2 zMT d) K_X6_pairsThatFit U_X6_pairsThatFit 18 [some (.inl (some 24)), some (.inl (some y1)), some (.inr (.inl y2)), some (.inr (.inl y3)), some (.inr (.inl y4)), none] [] (LAY, σ) = _
  refine (zq_il hm (pc' := 20) rfl rfl rfl rfl).trans ?_
  refine (zq_iln hm (pc' := 21) rfl rfl rfl rfl).trans ?_
  refine (zq_ige hm (pc' := 24) rfl rfl).trans (zite ?_ ?_)
  · refine (zJ_n rfl).trans ?_
    refine (zq_aln hm (pc' := 25) rfl rfl rfl rfl).trans ?_
    refine (zq_il hm (pc' := 27) rfl rfl rfl rfl).trans ?_
    refine (zq_v0 hm (pc' := 30) rfl rfl rfl (cls_24_6) rfl rfl).trans (zCV_c rfl (fun s101 => ?_))
    refine (zJ_n rfl).trans ?_
    refine (zq_ic hm (pc' := 31) rfl rfl rfl rfl).trans ?_
    exact (zc_is hm (ls' := [some (.inl (some 24)), some (.inl (some y1)), some (.inr (.inl y2)), some (.inr (.inl y3)), some (.inr (.inl y4)), some (.inr (.inl 1))]) (pc' := 33) rfl rfl rfl rfl).trans rfl
  · refine (zJ_n rfl).trans ?_
    refine (zq_iln hm (pc' := 74) rfl rfl rfl rfl).trans ?_
    exact zq_ri hm rfl rfl
set_option maxRecDepth 100000 in
set_option maxHeartbeats 4000000 in
theorem e_X6_pairsThatFit_33 (d : Nat) (y1 : Nat) (y2 : Int) (y3 : Int) (y4 : Int) (y5 : Int) (σ : zF) : P_X6_pairsThatFit_33 d y1 y2 y3 y4 y5 σ = (
if y5 < y3 then (
zCV LAY (zx d 63 [.inl (some 24), .inr (.inl y5)] σ) fun s101 =>
zCI LAY (zx d 100 [.inl (some 17), .inl (some y1)] s101) fun r103 s102 =>
if r103 = (-2) then (
P_X6_pairsThatFit_33 d y1 (zw (y2 + 1)) y3 y4 (zw (y5 + 1)) s102) else (
P_X6_pairsThatFit_33 d y1 y2 y3 y4 (zw (y5 + 1)) s102)) else (
P_X6_pairsThatFit_18 d y1 y2 y3 (zw (y4 + 1)) σ)) := by
  have hm := zexec_m zX2 zMT d
  show zrunL zX2 (zexec zX2 zMT d) K_X6_pairsThatFit U_X6_pairsThatFit 33 [some (.inl (some 24)), some (.inl (some y1)), some (.inr (.inl y2)), some (.inr (.inl y3)), some (.inr (.inl y4)), some (.inr (.inl y5))] [] (LAY, σ) = _
  refine (zq_il hm (pc' := 35) rfl rfl rfl rfl).trans ?_
  refine (zq_iln hm (pc' := 36) rfl rfl rfl rfl).trans ?_
  refine (zq_ige hm (pc' := 39) rfl rfl).trans (zite ?_ ?_)
  · refine (zJ_n rfl).trans ?_
    refine (zq_aln hm (pc' := 40) rfl rfl rfl rfl).trans ?_
    refine (zq_il hm (pc' := 42) rfl rfl rfl rfl).trans ?_
    refine (zq_v0 hm (pc' := 45) rfl rfl rfl (cls_24_6) rfl rfl).trans (zCV_c rfl (fun s101 => ?_))
    refine (zJ_n rfl).trans ?_
    refine (zq_aln hm (pc' := 46) rfl rfl rfl rfl).trans ?_
    refine (zq_gr hm (pc' := 49) rfl lay_24 rfl rfl).trans ?_
    refine (zJ_n rfl).trans ?_
    refine (zq_aln hm (pc' := 50) rfl rfl rfl rfl).trans ?_
    refine (zq_v1 hm (pc' := 53) rfl rfl rfl (cls_17_9) rfl rfl).trans (zCI_c rfl (fun r103 s102 => ?_))
    refine (zJ_n rfl).trans ?_
    refine (zq_bi hm (pc' := 55) rfl rfl rfl rfl).trans ?_
    refine (zq_ine hm (pc' := 58) rfl rfl).trans (zite ?_ ?_)
    · refine (zJ_n rfl).trans ?_
      refine (zq_iinc hm (ls' := [some (.inl (some 24)), some (.inl (some y1)), some (.inr (.inl (zw (y2 + 1)))), some (.inr (.inl y3)), some (.inr (.inl y4)), some (.inr (.inl y5))]) (pc' := 61) rfl rfl rfl rfl rfl rfl).trans ?_
      refine (zq_iinc hm (ls' := [some (.inl (some 24)), some (.inl (some y1)), some (.inr (.inl (zw (y2 + 1)))), some (.inr (.inl y3)), some (.inr (.inl y4)), some (.inr (.inl (zw (y5 + 1))))]) (pc' := 64) rfl rfl rfl rfl rfl rfl).trans ?_
      exact (zc_goto hm rfl rfl).trans rfl
    · refine (zJ_n rfl).trans ?_
      refine (zq_iinc hm (ls' := [some (.inl (some 24)), some (.inl (some y1)), some (.inr (.inl y2)), some (.inr (.inl y3)), some (.inr (.inl y4)), some (.inr (.inl (zw (y5 + 1))))]) (pc' := 64) rfl rfl rfl rfl rfl rfl).trans ?_
      exact (zc_goto hm rfl rfl).trans rfl
  · refine (zJ_n rfl).trans ?_
    refine (zq_iinc hm (ls' := [some (.inl (some 24)), some (.inl (some y1)), some (.inr (.inl y2)), some (.inr (.inl y3)), some (.inr (.inl (zw (y4 + 1)))), some (.inr (.inl y5))]) (pc' := 70) rfl rfl rfl rfl rfl rfl).trans ?_
    exact (zc_goto hm rfl rfl).trans rfl
set_option maxRecDepth 100000 in
set_option maxHeartbeats 4000000 in
theorem e_X6_performFirst (d : Nat) (x1 : Int) (σ : zF) : zx (d + 1) 62 [.inl (some 24), .inr (.inl x1)] σ = (
zCV LAY (zx d 88 [.inl (some 17)] σ) fun s1 =>
zCV LAY (zx d 57 [.inl (some 24), .inr (.inl x1)] s1) fun s2 =>
if 0 ≤ (12 : Int) ∧ 0 ≤ (0 : Int) ∧ 0 ≤ (0 : Int) ∧ (0 : Int) + 12 ≤ 12 ∧ (0 : Int) + 12 ≤ 12 then (
zrv (zcpy s2 18 0 26 0 12)) else (
none)) := by
  unfold zx
  have hm := zexec_m zX2 zMT d
  refine (zexec_eq mt_62 _ rfl (LAY, σ) 0).trans ?_
  show zrunL zX2 (zexec zX2 zMT d) K_X6_performFirst U_X6_performFirst 0 [some (.inl (some 24)), some (.inr (.inl x1))] [] (LAY, σ) = _
  refine (zq_aln hm (pc' := 1) rfl rfl rfl rfl).trans ?_
  refine (zq_gr hm (pc' := 4) rfl lay_24 rfl rfl).trans ?_
  refine (zJ_n rfl).trans ?_
  refine (zq_v0 hm (pc' := 7) rfl rfl rfl (cls_17_9) rfl rfl).trans (zCV_c rfl (fun s1 => ?_))
  refine (zJ_n rfl).trans ?_
  refine (zq_aln hm (pc' := 8) rfl rfl rfl rfl).trans ?_
  refine (zq_iln hm (pc' := 9) rfl rfl rfl rfl).trans ?_
  refine (zq_v0 hm (pc' := 12) rfl rfl rfl (cls_24_6) rfl rfl).trans (zCV_c rfl (fun s2 => ?_))
  refine (zJ_n rfl).trans ?_
  refine (zq_aln hm (pc' := 13) rfl rfl rfl rfl).trans ?_
  refine (zq_gr hm (pc' := 16) rfl lay_24 rfl rfl).trans ?_
  refine (zJ_n rfl).trans ?_
  refine (zq_gr hm (pc' := 19) rfl lay_17 rfl rfl).trans ?_
  refine (zJ_n rfl).trans ?_
  refine (zq_ic hm (pc' := 20) rfl rfl rfl rfl).trans ?_
  refine (zq_aln hm (pc' := 21) rfl rfl rfl rfl).trans ?_
  refine (zq_gr hm (pc' := 24) rfl lay_24 rfl rfl).trans ?_
  refine (zJ_n rfl).trans ?_
  refine (zq_ic hm (pc' := 25) rfl rfl rfl rfl).trans ?_
  refine (zq_bi hm (pc' := 27) rfl rfl rfl rfl).trans ?_
  refine (zq_arc hm (pc' := 30) rfl rfl rfl lay_18 lay_26 rfl rfl).trans (zite ?_ rfl)
  refine (zJ_n rfl).trans ?_
  exact zq_rv hm rfl
set_option maxRecDepth 100000 in
set_option maxHeartbeats 4000000 in
theorem e_X6_performSecond (d : Nat) (x1 : Int) (σ : zF) : zx (d + 1) 63 [.inl (some 24), .inr (.inl x1)] σ = (
if 0 ≤ (12 : Int) ∧ 0 ≤ (0 : Int) ∧ 0 ≤ (0 : Int) ∧ (0 : Int) + 12 ≤ 12 ∧ (0 : Int) + 12 ≤ 12 then (
zCV LAY (zx d 57 [.inl (some 24), .inr (.inl x1)] (zcpy σ 26 0 18 0 12)) fun s1 =>
zrv s1) else (
none)) := by
  unfold zx
  have hm := zexec_m zX2 zMT d
  refine (zexec_eq mt_63 _ rfl (LAY, σ) 0).trans ?_
  show zrunL zX2 (zexec zX2 zMT d) K_X6_performSecond U_X6_performSecond 0 [some (.inl (some 24)), some (.inr (.inl x1))] [] (LAY, σ) = _
  refine (zq_aln hm (pc' := 1) rfl rfl rfl rfl).trans ?_
  refine (zq_gr hm (pc' := 4) rfl lay_24 rfl rfl).trans ?_
  refine (zJ_n rfl).trans ?_
  refine (zq_ic hm (pc' := 5) rfl rfl rfl rfl).trans ?_
  refine (zq_aln hm (pc' := 6) rfl rfl rfl rfl).trans ?_
  refine (zq_gr hm (pc' := 9) rfl lay_24 rfl rfl).trans ?_
  refine (zJ_n rfl).trans ?_
  refine (zq_gr hm (pc' := 12) rfl lay_17 rfl rfl).trans ?_
  refine (zJ_n rfl).trans ?_
  refine (zq_ic hm (pc' := 13) rfl rfl rfl rfl).trans ?_
  refine (zq_bi hm (pc' := 15) rfl rfl rfl rfl).trans ?_
  refine (zq_arc hm (pc' := 18) rfl rfl rfl lay_26 lay_18 rfl rfl).trans (zite ?_ rfl)
  refine (zJ_n rfl).trans ?_
  refine (zq_aln hm (pc' := 19) rfl rfl rfl rfl).trans ?_
  refine (zq_iln hm (pc' := 20) rfl rfl rfl rfl).trans ?_
  refine (zq_v0 hm (pc' := 23) rfl rfl rfl (cls_24_6) rfl rfl).trans (zCV_c rfl (fun s1 => ?_))
  refine (zJ_n rfl).trans ?_
  exact zq_rv hm rfl
noncomputable def P_X6_takeTurns_44 (d : Nat) (y1 : Int) (y2 : Int) (y3 : Int) (y4 : Int) (y5 : Int) (σ : zF) : Option zR := zrunL zX2 (zexec zX2 zMT d) K_X6_takeTurns U_X6_takeTurns 44 [some (.inl (some 24)), some (.inr (.inl y1)), some (.inr (.inl y2)), some (.inr (.inl y3)), some (.inr (.inl y4)), some (.inr (.inl y5)), none] [] (LAY, σ)
set_option maxRecDepth 100000 in
set_option maxHeartbeats 4000000 in
theorem e_X6_takeTurns (d : Nat) (x1 : Int) (x2 : Int) (x3 : Int) (σ : zF) : zx (d + 1) 64 [.inl (some 24), .inr (.inl x1), .inr (.inl x2), .inr (.inl x3)] σ = (
zCI LAY (zx d 27 [.inl (some 1), .inr (.inl x1), .inr (.inl x2), .inr (.inl (-1))] (zset (zset σ 24 4 999) 24 5 99)) fun r2 s1 =>
if r2 = 0 then (
zrv s1) else (
zCI LAY (zx d 58 [.inl (some 24)] s1) fun r4 s3 =>
zCV LAY (zx d 87 [.inl (some 17), .inr (.inl (-1))] s3) fun s5 =>
P_X6_takeTurns_44 d x1 x2 x3 r4 0 s5)) := by
  unfold zx
  have hm := zexec_m zX2 zMT d
  refine (zexec_eq mt_64 _ rfl (LAY, σ) 0).trans ?_
  show zrunL zX2 (zexec zX2 zMT d) K_X6_takeTurns U_X6_takeTurns 0 [some (.inl (some 24)), some (.inr (.inl x1)), some (.inr (.inl x2)), some (.inr (.inl x3)), none, none, none] [] (LAY, σ) = _
  refine (zq_aln hm (pc' := 1) rfl rfl rfl rfl).trans ?_
  refine (zq_si hm (pc' := 4) rfl rfl rfl rfl).trans ?_
  refine (zq_pf hm (pc' := 7) rfl lay_24 rfl rfl rfl).trans ?_
  refine (zJ_n rfl).trans ?_
  refine (zq_aln hm (pc' := 8) rfl rfl rfl rfl).trans ?_
  refine (zq_bi hm (pc' := 10) rfl rfl rfl rfl).trans ?_
  refine (zq_pf hm (pc' := 13) rfl lay_24 rfl rfl rfl).trans ?_
  refine (zJ_n rfl).trans ?_
  refine (zq_aln hm (pc' := 14) rfl rfl rfl rfl).trans ?_
  refine (zq_gr hm (pc' := 17) rfl lay_24 rfl rfl).trans ?_
  refine (zJ_n rfl).trans ?_
  refine (zq_iln hm (pc' := 18) rfl rfl rfl rfl).trans ?_
  refine (zq_iln hm (pc' := 19) rfl rfl rfl rfl).trans ?_
  refine (zq_ic hm (pc' := 20) rfl rfl rfl rfl).trans ?_
  refine (zq_v1 hm (pc' := 23) rfl rfl rfl (cls_1_3) rfl rfl).trans (zCI_c rfl (fun r2 s1 => ?_))
  refine (zJ_n rfl).trans ?_
  refine (zq_zne hm (pc' := 26) rfl rfl).trans (zite ?_ ?_)
  · refine (zJ_n rfl).trans ?_
    exact zq_rv hm rfl
  · refine (zJ_n rfl).trans ?_
    refine (zq_aln hm (pc' := 28) rfl rfl rfl rfl).trans ?_
    refine (zq_v1 hm (pc' := 31) rfl rfl rfl (cls_24_6) rfl rfl).trans (zCI_c rfl (fun r4 s3 => ?_))
    refine (zJ_n rfl).trans ?_
    refine (zq_is hm (ls' := [some (.inl (some 24)), some (.inr (.inl x1)), some (.inr (.inl x2)), some (.inr (.inl x3)), some (.inr (.inl r4)), none, none]) (pc' := 33) rfl rfl rfl rfl).trans ?_
    refine (zq_aln hm (pc' := 34) rfl rfl rfl rfl).trans ?_
    refine (zq_gr hm (pc' := 37) rfl lay_24 rfl rfl).trans ?_
    refine (zJ_n rfl).trans ?_
    refine (zq_ic hm (pc' := 38) rfl rfl rfl rfl).trans ?_
    refine (zq_v0 hm (pc' := 41) rfl rfl rfl (cls_17_9) rfl rfl).trans (zCV_c rfl (fun s5 => ?_))
    refine (zJ_n rfl).trans ?_
    refine (zq_ic hm (pc' := 42) rfl rfl rfl rfl).trans ?_
    exact (zc_is hm (ls' := [some (.inl (some 24)), some (.inr (.inl x1)), some (.inr (.inl x2)), some (.inr (.inl x3)), some (.inr (.inl r4)), some (.inr (.inl 0)), none]) (pc' := 44) rfl rfl rfl rfl).trans rfl
set_option maxRecDepth 100000 in
set_option maxHeartbeats 4000000 in
theorem e_X6_takeTurns_44 (d : Nat) (y1 : Int) (y2 : Int) (y3 : Int) (y4 : Int) (y5 : Int) (σ : zF) : P_X6_takeTurns_44 d y1 y2 y3 y4 y5 σ = (
if y5 < y4 then (
zCV LAY (zx d 62 [.inl (some 24), .inr (.inl y5)] σ) fun s101 =>
if y3 = 1 then (
zCI LAY (zx d 65 [.inl (some 24), .inr (.inl y1), .inr (.inl y2), .inr (.inl 1)] s101) fun r107 s106 =>
if r107 < (s106 24 4) then (
if y5 = 0 then (
P_X6_takeTurns_44 d y1 y2 y3 y4 (zw (y5 + 1)) (zset (zset s106 24 4 r107) 24 5 99)) else (
zCI LAY (zx d 59 [.inr (.inl y5)] (zset s106 24 4 r107)) fun r109 s108 =>
P_X6_takeTurns_44 d y1 y2 y3 y4 (zw (y5 + 1)) (zset s108 24 5 r109))) else (
P_X6_takeTurns_44 d y1 y2 y3 y4 (zw (y5 + 1)) s106)) else (
zCI LAY (zx d 65 [.inl (some 24), .inr (.inl y1), .inr (.inl y2), .inr (.inl y4)] s101) fun r103 s102 =>
if r103 < (s102 24 4) then (
if y5 = 0 then (
P_X6_takeTurns_44 d y1 y2 y3 y4 (zw (y5 + 1)) (zset (zset s102 24 4 r103) 24 5 99)) else (
zCI LAY (zx d 59 [.inr (.inl y5)] (zset s102 24 4 r103)) fun r105 s104 =>
P_X6_takeTurns_44 d y1 y2 y3 y4 (zw (y5 + 1)) (zset s104 24 5 r105))) else (
P_X6_takeTurns_44 d y1 y2 y3 y4 (zw (y5 + 1)) s102))) else (
zrv σ)) := by
  have hm := zexec_m zX2 zMT d
  show zrunL zX2 (zexec zX2 zMT d) K_X6_takeTurns U_X6_takeTurns 44 [some (.inl (some 24)), some (.inr (.inl y1)), some (.inr (.inl y2)), some (.inr (.inl y3)), some (.inr (.inl y4)), some (.inr (.inl y5)), none] [] (LAY, σ) = _
  refine (zq_il hm (pc' := 46) rfl rfl rfl rfl).trans ?_
  refine (zq_il hm (pc' := 48) rfl rfl rfl rfl).trans ?_
  refine (zq_ige hm (pc' := 51) rfl rfl).trans (zite ?_ ?_)
  · refine (zJ_n rfl).trans ?_
    refine (zq_aln hm (pc' := 52) rfl rfl rfl rfl).trans ?_
    refine (zq_il hm (pc' := 54) rfl rfl rfl rfl).trans ?_
    refine (zq_v0 hm (pc' := 57) rfl rfl rfl (cls_24_6) rfl rfl).trans (zCV_c rfl (fun s101 => ?_))
    refine (zJ_n rfl).trans ?_
    refine (zq_aln hm (pc' := 58) rfl rfl rfl rfl).trans ?_
    refine (zq_iln hm (pc' := 59) rfl rfl rfl rfl).trans ?_
    refine (zq_iln hm (pc' := 60) rfl rfl rfl rfl).trans ?_
    refine (zq_iln hm (pc' := 61) rfl rfl rfl rfl).trans ?_
    refine (zq_ic hm (pc' := 62) rfl rfl rfl rfl).trans ?_
    refine (zq_ine hm (pc' := 65) rfl rfl).trans (zite ?_ ?_)
    · refine (zJ_n rfl).trans ?_
      refine (zq_ic hm (pc' := 66) rfl rfl rfl rfl).trans ?_
      refine (zq_goto hm rfl rfl).trans ?_
      refine (zq_v1 hm (pc' := 74) rfl rfl rfl (cls_24_6) rfl rfl).trans (zCI_c rfl (fun r107 s106 => ?_))
      refine (zJ_n rfl).trans ?_
      refine (zq_is hm (ls' := [some (.inl (some 24)), some (.inr (.inl y1)), some (.inr (.inl y2)), some (.inr (.inl y3)), some (.inr (.inl y4)), some (.inr (.inl y5)), some (.inr (.inl r107))]) (pc' := 76) rfl rfl rfl rfl).trans ?_
      refine (zq_il hm (pc' := 78) rfl rfl rfl rfl).trans ?_
      refine (zq_aln hm (pc' := 79) rfl rfl rfl rfl).trans ?_
      refine (zq_gf hm (v := (s106 24 4)) (pc' := 82) rfl lay_24 rfl rfl rfl).trans ?_
      refine (zJ_n rfl).trans ?_
      refine (zq_ige hm (pc' := 85) rfl rfl).trans (zite ?_ ?_)
      · refine (zJ_n rfl).trans ?_
        refine (zq_aln hm (pc' := 86) rfl rfl rfl rfl).trans ?_
        refine (zq_il hm (pc' := 88) rfl rfl rfl rfl).trans ?_
        refine (zq_pf hm (pc' := 91) rfl lay_24 rfl rfl rfl).trans ?_
        refine (zJ_n rfl).trans ?_
        refine (zq_aln hm (pc' := 92) rfl rfl rfl rfl).trans ?_
        refine (zq_il hm (pc' := 94) rfl rfl rfl rfl).trans ?_
        refine (zq_zne hm (pc' := 97) rfl rfl).trans (zite ?_ ?_)
        · refine (zJ_n rfl).trans ?_
          refine (zq_bi hm (pc' := 99) rfl rfl rfl rfl).trans ?_
          refine (zq_goto hm rfl rfl).trans ?_
          refine (zq_pf hm (pc' := 110) rfl lay_24 rfl rfl rfl).trans ?_
          refine (zJ_n rfl).trans ?_
          refine (zq_iinc hm (ls' := [some (.inl (some 24)), some (.inr (.inl y1)), some (.inr (.inl y2)), some (.inr (.inl y3)), some (.inr (.inl y4)), some (.inr (.inl (zw (y5 + 1)))), some (.inr (.inl r107))]) (pc' := 113) rfl rfl rfl rfl rfl rfl).trans ?_
          exact (zc_goto hm rfl rfl).trans rfl
        · refine (zJ_n rfl).trans ?_
          refine (zq_il hm (pc' := 104) rfl rfl rfl rfl).trans ?_
          refine (zq_s1 hm (pc' := 107) rfl rfl rfl rfl rfl rfl).trans (zCI_c rfl (fun r109 s108 => ?_))
          refine (zJ_n rfl).trans ?_
          refine (zq_pf hm (pc' := 110) rfl lay_24 rfl rfl rfl).trans ?_
          refine (zJ_n rfl).trans ?_
          refine (zq_iinc hm (ls' := [some (.inl (some 24)), some (.inr (.inl y1)), some (.inr (.inl y2)), some (.inr (.inl y3)), some (.inr (.inl y4)), some (.inr (.inl (zw (y5 + 1)))), some (.inr (.inl r107))]) (pc' := 113) rfl rfl rfl rfl rfl rfl).trans ?_
          exact (zc_goto hm rfl rfl).trans rfl
      · refine (zJ_n rfl).trans ?_
        refine (zq_iinc hm (ls' := [some (.inl (some 24)), some (.inr (.inl y1)), some (.inr (.inl y2)), some (.inr (.inl y3)), some (.inr (.inl y4)), some (.inr (.inl (zw (y5 + 1)))), some (.inr (.inl r107))]) (pc' := 113) rfl rfl rfl rfl rfl rfl).trans ?_
        exact (zc_goto hm rfl rfl).trans rfl
    · refine (zJ_n rfl).trans ?_
      refine (zq_il hm (pc' := 71) rfl rfl rfl rfl).trans ?_
      refine (zq_v1 hm (pc' := 74) rfl rfl rfl (cls_24_6) rfl rfl).trans (zCI_c rfl (fun r103 s102 => ?_))
      refine (zJ_n rfl).trans ?_
      refine (zq_is hm (ls' := [some (.inl (some 24)), some (.inr (.inl y1)), some (.inr (.inl y2)), some (.inr (.inl y3)), some (.inr (.inl y4)), some (.inr (.inl y5)), some (.inr (.inl r103))]) (pc' := 76) rfl rfl rfl rfl).trans ?_
      refine (zq_il hm (pc' := 78) rfl rfl rfl rfl).trans ?_
      refine (zq_aln hm (pc' := 79) rfl rfl rfl rfl).trans ?_
      refine (zq_gf hm (v := (s102 24 4)) (pc' := 82) rfl lay_24 rfl rfl rfl).trans ?_
      refine (zJ_n rfl).trans ?_
      refine (zq_ige hm (pc' := 85) rfl rfl).trans (zite ?_ ?_)
      · refine (zJ_n rfl).trans ?_
        refine (zq_aln hm (pc' := 86) rfl rfl rfl rfl).trans ?_
        refine (zq_il hm (pc' := 88) rfl rfl rfl rfl).trans ?_
        refine (zq_pf hm (pc' := 91) rfl lay_24 rfl rfl rfl).trans ?_
        refine (zJ_n rfl).trans ?_
        refine (zq_aln hm (pc' := 92) rfl rfl rfl rfl).trans ?_
        refine (zq_il hm (pc' := 94) rfl rfl rfl rfl).trans ?_
        refine (zq_zne hm (pc' := 97) rfl rfl).trans (zite ?_ ?_)
        · refine (zJ_n rfl).trans ?_
          refine (zq_bi hm (pc' := 99) rfl rfl rfl rfl).trans ?_
          refine (zq_goto hm rfl rfl).trans ?_
          refine (zq_pf hm (pc' := 110) rfl lay_24 rfl rfl rfl).trans ?_
          refine (zJ_n rfl).trans ?_
          refine (zq_iinc hm (ls' := [some (.inl (some 24)), some (.inr (.inl y1)), some (.inr (.inl y2)), some (.inr (.inl y3)), some (.inr (.inl y4)), some (.inr (.inl (zw (y5 + 1)))), some (.inr (.inl r103))]) (pc' := 113) rfl rfl rfl rfl rfl rfl).trans ?_
          exact (zc_goto hm rfl rfl).trans rfl
        · refine (zJ_n rfl).trans ?_
          refine (zq_il hm (pc' := 104) rfl rfl rfl rfl).trans ?_
          refine (zq_s1 hm (pc' := 107) rfl rfl rfl rfl rfl rfl).trans (zCI_c rfl (fun r105 s104 => ?_))
          refine (zJ_n rfl).trans ?_
          refine (zq_pf hm (pc' := 110) rfl lay_24 rfl rfl rfl).trans ?_
          refine (zJ_n rfl).trans ?_
          refine (zq_iinc hm (ls' := [some (.inl (some 24)), some (.inr (.inl y1)), some (.inr (.inl y2)), some (.inr (.inl y3)), some (.inr (.inl y4)), some (.inr (.inl (zw (y5 + 1)))), some (.inr (.inl r103))]) (pc' := 113) rfl rfl rfl rfl rfl rfl).trans ?_
          exact (zc_goto hm rfl rfl).trans rfl
      · refine (zJ_n rfl).trans ?_
        refine (zq_iinc hm (ls' := [some (.inl (some 24)), some (.inr (.inl y1)), some (.inr (.inl y2)), some (.inr (.inl y3)), some (.inr (.inl y4)), some (.inr (.inl (zw (y5 + 1)))), some (.inr (.inl r103))]) (pc' := 113) rfl rfl rfl rfl rfl rfl).trans ?_
        exact (zc_goto hm rfl rfl).trans rfl
  · refine (zJ_n rfl).trans ?_
    exact zq_rv hm rfl
noncomputable def P_X6_worstAnswer_6 (d : Nat) (y1 : Int) (y2 : Int) (y3 : Int) (y4 : Int) (y5 : Int) (σ : zF) : Option zR := zrunL zX2 (zexec zX2 zMT d) K_X6_worstAnswer U_X6_worstAnswer 6 [some (.inl (some 24)), some (.inr (.inl y1)), some (.inr (.inl y2)), some (.inr (.inl y3)), some (.inr (.inl y4)), some (.inr (.inl y5))] [] (LAY, σ)
set_option maxRecDepth 100000 in
set_option maxHeartbeats 4000000 in
theorem e_X6_worstAnswer (d : Nat) (x1 : Int) (x2 : Int) (x3 : Int) (σ : zF) : zx (d + 1) 65 [.inl (some 24), .inr (.inl x1), .inr (.inl x2), .inr (.inl x3)] σ = (
P_X6_worstAnswer_6 d x1 x2 x3 0 0 σ) := by
  unfold zx
  have hm := zexec_m zX2 zMT d
  refine (zexec_eq mt_65 _ rfl (LAY, σ) 0).trans ?_
  show zrunL zX2 (zexec zX2 zMT d) K_X6_worstAnswer U_X6_worstAnswer 0 [some (.inl (some 24)), some (.inr (.inl x1)), some (.inr (.inl x2)), some (.inr (.inl x3)), none, none] [] (LAY, σ) = _
  refine (zq_ic hm (pc' := 1) rfl rfl rfl rfl).trans ?_
  refine (zq_is hm (ls' := [some (.inl (some 24)), some (.inr (.inl x1)), some (.inr (.inl x2)), some (.inr (.inl x3)), some (.inr (.inl 0)), none]) (pc' := 3) rfl rfl rfl rfl).trans ?_
  refine (zq_ic hm (pc' := 4) rfl rfl rfl rfl).trans ?_
  exact (zc_is hm (ls' := [some (.inl (some 24)), some (.inr (.inl x1)), some (.inr (.inl x2)), some (.inr (.inl x3)), some (.inr (.inl 0)), some (.inr (.inl 0))]) (pc' := 6) rfl rfl rfl rfl).trans rfl
set_option maxRecDepth 100000 in
set_option maxHeartbeats 4000000 in
theorem e_X6_worstAnswer_6 (d : Nat) (y1 : Int) (y2 : Int) (y3 : Int) (y4 : Int) (y5 : Int) (σ : zF) : P_X6_worstAnswer_6 d y1 y2 y3 y4 y5 σ = (
if y5 < y3 then (
if y4 < (σ 24 4) then (
zCV LAY (zx d 63 [.inl (some 24), .inr (.inl y5)] σ) fun s101 =>
zCV LAY (zx d 94 [.inl (some 17), .inr (.inl y1)] s101) fun s102 =>
if 0 ≤ y2 ∧ y2 < 8 then (
P_X6_worstAnswer_6 d y1 y2 y3 (zmax y4 (s102 23 y2)) (zw (y5 + 1)) s102) else (
none)) else (
zri y4 σ)) else (
zri y4 σ)) := by
  have hm := zexec_m zX2 zMT d
  show zrunL zX2 (zexec zX2 zMT d) K_X6_worstAnswer U_X6_worstAnswer 6 [some (.inl (some 24)), some (.inr (.inl y1)), some (.inr (.inl y2)), some (.inr (.inl y3)), some (.inr (.inl y4)), some (.inr (.inl y5))] [] (LAY, σ) = _
  refine (zq_il hm (pc' := 8) rfl rfl rfl rfl).trans ?_
  refine (zq_iln hm (pc' := 9) rfl rfl rfl rfl).trans ?_
  refine (zq_ige hm (pc' := 12) rfl rfl).trans (zite ?_ ?_)
  · refine (zJ_n rfl).trans ?_
    refine (zq_il hm (pc' := 14) rfl rfl rfl rfl).trans ?_
    refine (zq_aln hm (pc' := 15) rfl rfl rfl rfl).trans ?_
    refine (zq_gf hm (v := (σ 24 4)) (pc' := 18) rfl lay_24 rfl rfl rfl).trans ?_
    refine (zJ_n rfl).trans ?_
    refine (zq_ige hm (pc' := 21) rfl rfl).trans (zite ?_ ?_)
    · refine (zJ_n rfl).trans ?_
      refine (zq_aln hm (pc' := 22) rfl rfl rfl rfl).trans ?_
      refine (zq_il hm (pc' := 24) rfl rfl rfl rfl).trans ?_
      refine (zq_v0 hm (pc' := 27) rfl rfl rfl (cls_24_6) rfl rfl).trans (zCV_c rfl (fun s101 => ?_))
      refine (zJ_n rfl).trans ?_
      refine (zq_aln hm (pc' := 28) rfl rfl rfl rfl).trans ?_
      refine (zq_gr hm (pc' := 31) rfl lay_24 rfl rfl).trans ?_
      refine (zJ_n rfl).trans ?_
      refine (zq_iln hm (pc' := 32) rfl rfl rfl rfl).trans ?_
      refine (zq_v0 hm (pc' := 35) rfl rfl rfl (cls_17_9) rfl rfl).trans (zCV_c rfl (fun s102 => ?_))
      refine (zJ_n rfl).trans ?_
      refine (zq_il hm (pc' := 37) rfl rfl rfl rfl).trans ?_
      refine (zq_aln hm (pc' := 38) rfl rfl rfl rfl).trans ?_
      refine (zq_gr hm (pc' := 41) rfl lay_24 rfl rfl).trans ?_
      refine (zJ_n rfl).trans ?_
      refine (zq_gr hm (pc' := 44) rfl lay_17 rfl rfl).trans ?_
      refine (zJ_n rfl).trans ?_
      refine (zq_iln hm (pc' := 45) rfl rfl rfl rfl).trans ?_
      refine (zq_ia hm (v := (s102 23 y2)) (pc' := 46) rfl lay_23 rfl rfl).trans (zite ?_ rfl)
      refine (zJ_n rfl).trans ?_
      refine (zq_max hm (pc' := 49) rfl rfl rfl rfl).trans ?_
      refine (zJ_n rfl).trans ?_
      refine (zq_is hm (ls' := [some (.inl (some 24)), some (.inr (.inl y1)), some (.inr (.inl y2)), some (.inr (.inl y3)), some (.inr (.inl (zmax y4 (s102 23 y2)))), some (.inr (.inl y5))]) (pc' := 51) rfl rfl rfl rfl).trans ?_
      refine (zq_iinc hm (ls' := [some (.inl (some 24)), some (.inr (.inl y1)), some (.inr (.inl y2)), some (.inr (.inl y3)), some (.inr (.inl (zmax y4 (s102 23 y2)))), some (.inr (.inl (zw (y5 + 1))))]) (pc' := 54) rfl rfl rfl rfl rfl rfl).trans ?_
      exact (zc_goto hm rfl rfl).trans rfl
    · refine (zJ_n rfl).trans ?_
      refine (zq_il hm (pc' := 59) rfl rfl rfl rfl).trans ?_
      exact zq_ri hm rfl rfl
  · refine (zJ_n rfl).trans ?_
    refine (zq_il hm (pc' := 59) rfl rfl rfl rfl).trans ?_
    exact zq_ri hm rfl rfl
noncomputable def P_X6_draw_29 (d : Nat) (y1 : Int) (y2 : Int) (y3 : Int) (y4 : Int) (y5 : Int) (y6 : Int) (y7 : Int) (σ : zF) : Option zR := zrunL zX2 (zexec zX2 zMT d) K_X6_draw U_X6_draw 29 [some (.inl (some 24)), none, some (.inr (.inl y1)), some (.inr (.inl y2)), some (.inr (.inl y3)), some (.inr (.inl y4)), some (.inr (.inl y5)), some (.inr (.inl y6)), some (.inr (.inl y7)), none, none] [] (LAY, σ)
noncomputable def P_X6_draw_45 (d : Nat) (y1 : Int) (y2 : Int) (y3 : Int) (y4 : Int) (y5 : Int) (y6 : Int) (y7 : Int) (y8 : Int) (σ : zF) : Option zR := zrunL zX2 (zexec zX2 zMT d) K_X6_draw U_X6_draw 45 [some (.inl (some 24)), none, some (.inr (.inl y1)), some (.inr (.inl y2)), some (.inr (.inl y3)), some (.inr (.inl y4)), some (.inr (.inl y5)), some (.inr (.inl y6)), some (.inr (.inl y7)), some (.inr (.inl y8)), none] [] (LAY, σ)
set_option maxRecDepth 100000 in
set_option maxHeartbeats 4000000 in
theorem e_X6_draw (d : Nat) (x1 : Int) (x2 : Int) (x3 : Int) (x4 : Int) (x5 : Int) (σ : zF) : zx (d + 1) 66 [.inl (some 24), .inr (.inl x1), .inr (.inl x2), .inr (.inl x3), .inr (.inl x4), .inr (.inl x5)] σ = (
if (σ 1 0) = 0 then (
zri 0 σ) else (
zCV LAY (zx d 87 [.inl (some 17), .inr (.inl (-1))] σ) fun s1 =>
P_X6_draw_29 d x2 x3 x4 x5 x1 0 0 s1)) := by
  unfold zx
  have hm := zexec_m zX2 zMT d
  refine (zexec_eq mt_66 _ rfl (LAY, σ) 0).trans ?_
  show zrunL zX2 (zexec zX2 zMT d) K_X6_draw U_X6_draw 0 [some (.inl (some 24)), some (.inr (.inl x1)), some (.inr (.inl x2)), some (.inr (.inl x3)), some (.inr (.inl x4)), some (.inr (.inl x5)), none, none, none, none, none] [] (LAY, σ) = _
  refine (zq_aln hm (pc' := 1) rfl rfl rfl rfl).trans ?_
  refine (zq_gr hm (pc' := 4) rfl lay_24 rfl rfl).trans ?_
  refine (zJ_n rfl).trans ?_
  refine (zq_gf hm (v := (σ 1 0)) (pc' := 7) rfl lay_1 rfl rfl rfl).trans ?_
  refine (zJ_n rfl).trans ?_
  refine (zq_zne hm (pc' := 10) rfl rfl).trans (zite ?_ ?_)
  · refine (zJ_n rfl).trans ?_
    refine (zq_ic hm (pc' := 11) rfl rfl rfl rfl).trans ?_
    exact zq_ri hm rfl rfl
  · refine (zJ_n rfl).trans ?_
    refine (zq_aln hm (pc' := 13) rfl rfl rfl rfl).trans ?_
    refine (zq_gr hm (pc' := 16) rfl lay_24 rfl rfl).trans ?_
    refine (zJ_n rfl).trans ?_
    refine (zq_ic hm (pc' := 17) rfl rfl rfl rfl).trans ?_
    refine (zq_v0 hm (pc' := 20) rfl rfl rfl (cls_17_9) rfl rfl).trans (zCV_c rfl (fun s1 => ?_))
    refine (zJ_n rfl).trans ?_
    refine (zq_iln hm (pc' := 21) rfl rfl rfl rfl).trans ?_
    refine (zq_is hm (ls' := [some (.inl (some 24)), some (.inr (.inl x1)), some (.inr (.inl x2)), some (.inr (.inl x3)), some (.inr (.inl x4)), some (.inr (.inl x5)), some (.inr (.inl x1)), none, none, none, none]) (pc' := 23) rfl rfl rfl rfl).trans ?_
    refine (zq_ic hm (pc' := 24) rfl rfl rfl rfl).trans ?_
    refine (zq_is hm (ls' := [some (.inl (some 24)), some (.inr (.inl x1)), some (.inr (.inl x2)), some (.inr (.inl x3)), some (.inr (.inl x4)), some (.inr (.inl x5)), some (.inr (.inl x1)), some (.inr (.inl 0)), none, none, none]) (pc' := 26) rfl rfl rfl rfl).trans ?_
    refine (zq_ic hm (pc' := 27) rfl rfl rfl rfl).trans ?_
    exact (zc_is hm (ls' := [some (.inl (some 24)), some (.inr (.inl x1)), some (.inr (.inl x2)), some (.inr (.inl x3)), some (.inr (.inl x4)), some (.inr (.inl x5)), some (.inr (.inl x1)), some (.inr (.inl 0)), some (.inr (.inl 0)), none, none]) (pc' := 29) rfl rfl rfl rfl).trans rfl
set_option maxRecDepth 100000 in
set_option maxHeartbeats 4000000 in
theorem e_X6_draw_29 (d : Nat) (y1 : Int) (y2 : Int) (y3 : Int) (y4 : Int) (y5 : Int) (y6 : Int) (y7 : Int) (σ : zF) : P_X6_draw_29 d y1 y2 y3 y4 y5 y6 y7 σ = (
if y7 < y1 then (
zCV LAY (zx d 88 [.inl (some 17)] σ) fun s101 =>
P_X6_draw_45 d y1 y2 y3 y4 y5 y6 y7 0 s101) else (
zri y6 σ)) := by
  have hm := zexec_m zX2 zMT d
  show zrunL zX2 (zexec zX2 zMT d) K_X6_draw U_X6_draw 29 [some (.inl (some 24)), none, some (.inr (.inl y1)), some (.inr (.inl y2)), some (.inr (.inl y3)), some (.inr (.inl y4)), some (.inr (.inl y5)), some (.inr (.inl y6)), some (.inr (.inl y7)), none, none] [] (LAY, σ) = _
  refine (zq_il hm (pc' := 31) rfl rfl rfl rfl).trans ?_
  refine (zq_iln hm (pc' := 32) rfl rfl rfl rfl).trans ?_
  refine (zq_ige hm (pc' := 35) rfl rfl).trans (zite ?_ ?_)
  · refine (zJ_n rfl).trans ?_
    refine (zq_aln hm (pc' := 36) rfl rfl rfl rfl).trans ?_
    refine (zq_gr hm (pc' := 39) rfl lay_24 rfl rfl).trans ?_
    refine (zJ_n rfl).trans ?_
    refine (zq_v0 hm (pc' := 42) rfl rfl rfl (cls_17_9) rfl rfl).trans (zCV_c rfl (fun s101 => ?_))
    refine (zJ_n rfl).trans ?_
    refine (zq_ic hm (pc' := 43) rfl rfl rfl rfl).trans ?_
    exact (zc_is hm (ls' := [some (.inl (some 24)), none, some (.inr (.inl y1)), some (.inr (.inl y2)), some (.inr (.inl y3)), some (.inr (.inl y4)), some (.inr (.inl y5)), some (.inr (.inl y6)), some (.inr (.inl y7)), some (.inr (.inl 0)), none]) (pc' := 45) rfl rfl rfl rfl).trans rfl
  · refine (zJ_n rfl).trans ?_
    refine (zq_il hm (pc' := 164) rfl rfl rfl rfl).trans ?_
    exact zq_ri hm rfl rfl
set_option maxRecDepth 100000 in
set_option maxHeartbeats 4000000 in
theorem e_X6_draw_45 (d : Nat) (y1 : Int) (y2 : Int) (y3 : Int) (y4 : Int) (y5 : Int) (y6 : Int) (y7 : Int) (y8 : Int) (σ : zF) : P_X6_draw_45 d y1 y2 y3 y4 y5 y6 y7 y8 σ = (
if y8 < y2 then (
if (12 : Int) = 0 then none else (
if zrem (zushr (zw ((zw (y5 * 1103515245)) + 12345)) 16) 12 < y3 then (
if (σ 1 0) = 0 then none else (
if (1 : Int) = 0 then (
zCV LAY (zx d 25 [.inl (some 1), .inl (some 18), .inr (.inl (zrem (zushr (zw ((zw (y5 * 1103515245)) + 12345)) 8) (σ 1 0))), .inr (.inl 2)] σ) fun s105 =>
P_X6_draw_45 d y1 y2 y3 y4 (zw ((zw (y5 * 1103515245)) + 12345)) y6 y7 (zw (y8 + 1)) s105) else (
zCV LAY (zx d 25 [.inl (some 1), .inl (some 18), .inr (.inl (zrem (zushr (zw ((zw (y5 * 1103515245)) + 12345)) 8) (σ 1 0))), .inr (.inl 1)] σ) fun s106 =>
P_X6_draw_45 d y1 y2 y3 y4 (zw ((zw (y5 * 1103515245)) + 12345)) y6 y7 (zw (y8 + 1)) s106))) else (
if (σ 1 0) = 0 then none else (
if (0 : Int) = 0 then (
zCV LAY (zx d 25 [.inl (some 1), .inl (some 18), .inr (.inl (zrem (zushr (zw ((zw (y5 * 1103515245)) + 12345)) 8) (σ 1 0))), .inr (.inl 2)] σ) fun s103 =>
P_X6_draw_45 d y1 y2 y3 y4 (zw ((zw (y5 * 1103515245)) + 12345)) y6 y7 (zw (y8 + 1)) s103) else (
zCV LAY (zx d 25 [.inl (some 1), .inl (some 18), .inr (.inl (zrem (zushr (zw ((zw (y5 * 1103515245)) + 12345)) 8) (σ 1 0))), .inr (.inl 1)] σ) fun s104 =>
P_X6_draw_45 d y1 y2 y3 y4 (zw ((zw (y5 * 1103515245)) + 12345)) y6 y7 (zw (y8 + 1)) s104))))) else (
if y4 = (-1) then (
zCI LAY (zx d 93 [.inl (some 17)] σ) fun r102 s101 =>
P_X6_draw_29 d y1 y2 y3 y4 y5 (zw (y6 + r102)) (zw (y7 + 1)) s101) else (
if 0 ≤ y4 ∧ y4 < 12 then (
P_X6_draw_29 d y1 y2 y3 y4 y5 (zw (y6 + (σ 18 y4))) (zw (y7 + 1)) σ) else (
none)))) := by
  have hm := zexec_m zX2 zMT d
  show zrunL zX2 (zexec zX2 zMT d) K_X6_draw U_X6_draw 45 [some (.inl (some 24)), none, some (.inr (.inl y1)), some (.inr (.inl y2)), some (.inr (.inl y3)), some (.inr (.inl y4)), some (.inr (.inl y5)), some (.inr (.inl y6)), some (.inr (.inl y7)), some (.inr (.inl y8)), none] [] (LAY, σ) = _
  refine (zq_il hm (pc' := 47) rfl rfl rfl rfl).trans ?_
  refine (zq_iln hm (pc' := 48) rfl rfl rfl rfl).trans ?_
  refine (zq_ige hm (pc' := 51) rfl rfl).trans (zite ?_ ?_)
  · refine (zJ_n rfl).trans ?_
    refine (zq_il hm (pc' := 53) rfl rfl rfl rfl).trans ?_
    refine (zq_ld hm (pc' := 55) rfl rfl rfl rfl).trans ?_
    refine (zq_imul hm (pc' := 56) rfl rfl rfl).trans ?_
    refine (zq_si hm (pc' := 59) rfl rfl rfl rfl).trans ?_
    refine (zq_iadd hm (pc' := 60) rfl rfl rfl).trans ?_
    refine (zq_is hm (ls' := [some (.inl (some 24)), none, some (.inr (.inl y1)), some (.inr (.inl y2)), some (.inr (.inl y3)), some (.inr (.inl y4)), some (.inr (.inl (zw ((zw (y5 * 1103515245)) + 12345)))), some (.inr (.inl y6)), some (.inr (.inl y7)), some (.inr (.inl y8)), none]) (pc' := 62) rfl rfl rfl rfl).trans ?_
    refine (zq_il hm (pc' := 64) rfl rfl rfl rfl).trans ?_
    refine (zq_bi hm (pc' := 66) rfl rfl rfl rfl).trans ?_
    refine (zq_iushr hm (pc' := 67) rfl rfl rfl).trans ?_
    refine (zq_bi hm (pc' := 69) rfl rfl rfl rfl).trans ?_
    refine (zq_irem hm (pc' := 70) rfl rfl).trans (zite rfl ?_)
    refine (zJ_n rfl).trans ?_
    refine (zq_il hm (pc' := 72) rfl rfl rfl rfl).trans ?_
    refine (zq_ige hm (pc' := 75) rfl rfl).trans (zite ?_ ?_)
    · refine (zJ_n rfl).trans ?_
      refine (zq_ic hm (pc' := 76) rfl rfl rfl rfl).trans ?_
      refine (zq_goto hm rfl rfl).trans ?_
      refine (zq_is hm (ls' := [some (.inl (some 24)), none, some (.inr (.inl y1)), some (.inr (.inl y2)), some (.inr (.inl y3)), some (.inr (.inl y4)), some (.inr (.inl (zw ((zw (y5 * 1103515245)) + 12345)))), some (.inr (.inl y6)), some (.inr (.inl y7)), some (.inr (.inl y8)), some (.inr (.inl 1))]) (pc' := 82) rfl rfl rfl rfl).trans ?_
      refine (zq_aln hm (pc' := 83) rfl rfl rfl rfl).trans ?_
      refine (zq_gr hm (pc' := 86) rfl lay_24 rfl rfl).trans ?_
      refine (zJ_n rfl).trans ?_
      refine (zq_aln hm (pc' := 87) rfl rfl rfl rfl).trans ?_
      refine (zq_gr hm (pc' := 90) rfl lay_24 rfl rfl).trans ?_
      refine (zJ_n rfl).trans ?_
      refine (zq_gr hm (pc' := 93) rfl lay_17 rfl rfl).trans ?_
      refine (zJ_n rfl).trans ?_
      refine (zq_il hm (pc' := 95) rfl rfl rfl rfl).trans ?_
      refine (zq_bi hm (pc' := 97) rfl rfl rfl rfl).trans ?_
      refine (zq_iushr hm (pc' := 98) rfl rfl rfl).trans ?_
      refine (zq_aln hm (pc' := 99) rfl rfl rfl rfl).trans ?_
      refine (zq_gr hm (pc' := 102) rfl lay_24 rfl rfl).trans ?_
      refine (zJ_n rfl).trans ?_
      refine (zq_gf hm (v := (σ 1 0)) (pc' := 105) rfl lay_1 rfl rfl rfl).trans ?_
      refine (zJ_n rfl).trans ?_
      refine (zq_irem hm (pc' := 106) rfl rfl).trans (zite rfl ?_)
      refine (zJ_n rfl).trans ?_
      refine (zq_il hm (pc' := 108) rfl rfl rfl rfl).trans ?_
      refine (zq_zeq hm (pc' := 111) rfl rfl).trans (zite ?_ ?_)
      · refine (zJ_n rfl).trans ?_
        refine (zq_ic hm (pc' := 116) rfl rfl rfl rfl).trans ?_
        refine (zq_v0 hm (pc' := 119) rfl rfl rfl (cls_1_3) rfl rfl).trans (zCV_c rfl (fun s105 => ?_))
        refine (zJ_n rfl).trans ?_
        refine (zq_iinc hm (ls' := [some (.inl (some 24)), none, some (.inr (.inl y1)), some (.inr (.inl y2)), some (.inr (.inl y3)), some (.inr (.inl y4)), some (.inr (.inl (zw ((zw (y5 * 1103515245)) + 12345)))), some (.inr (.inl y6)), some (.inr (.inl y7)), some (.inr (.inl (zw (y8 + 1)))), some (.inr (.inl 1))]) (pc' := 122) rfl rfl rfl rfl rfl rfl).trans ?_
        exact (zc_goto hm rfl rfl).trans rfl
      · refine (zJ_n rfl).trans ?_
        refine (zq_ic hm (pc' := 112) rfl rfl rfl rfl).trans ?_
        refine (zq_goto hm rfl rfl).trans ?_
        refine (zq_v0 hm (pc' := 119) rfl rfl rfl (cls_1_3) rfl rfl).trans (zCV_c rfl (fun s106 => ?_))
        refine (zJ_n rfl).trans ?_
        refine (zq_iinc hm (ls' := [some (.inl (some 24)), none, some (.inr (.inl y1)), some (.inr (.inl y2)), some (.inr (.inl y3)), some (.inr (.inl y4)), some (.inr (.inl (zw ((zw (y5 * 1103515245)) + 12345)))), some (.inr (.inl y6)), some (.inr (.inl y7)), some (.inr (.inl (zw (y8 + 1)))), some (.inr (.inl 1))]) (pc' := 122) rfl rfl rfl rfl rfl rfl).trans ?_
        exact (zc_goto hm rfl rfl).trans rfl
    · refine (zJ_n rfl).trans ?_
      refine (zq_ic hm (pc' := 80) rfl rfl rfl rfl).trans ?_
      refine (zq_is hm (ls' := [some (.inl (some 24)), none, some (.inr (.inl y1)), some (.inr (.inl y2)), some (.inr (.inl y3)), some (.inr (.inl y4)), some (.inr (.inl (zw ((zw (y5 * 1103515245)) + 12345)))), some (.inr (.inl y6)), some (.inr (.inl y7)), some (.inr (.inl y8)), some (.inr (.inl 0))]) (pc' := 82) rfl rfl rfl rfl).trans ?_
      refine (zq_aln hm (pc' := 83) rfl rfl rfl rfl).trans ?_
      refine (zq_gr hm (pc' := 86) rfl lay_24 rfl rfl).trans ?_
      refine (zJ_n rfl).trans ?_
      refine (zq_aln hm (pc' := 87) rfl rfl rfl rfl).trans ?_
      refine (zq_gr hm (pc' := 90) rfl lay_24 rfl rfl).trans ?_
      refine (zJ_n rfl).trans ?_
      refine (zq_gr hm (pc' := 93) rfl lay_17 rfl rfl).trans ?_
      refine (zJ_n rfl).trans ?_
      refine (zq_il hm (pc' := 95) rfl rfl rfl rfl).trans ?_
      refine (zq_bi hm (pc' := 97) rfl rfl rfl rfl).trans ?_
      refine (zq_iushr hm (pc' := 98) rfl rfl rfl).trans ?_
      refine (zq_aln hm (pc' := 99) rfl rfl rfl rfl).trans ?_
      refine (zq_gr hm (pc' := 102) rfl lay_24 rfl rfl).trans ?_
      refine (zJ_n rfl).trans ?_
      refine (zq_gf hm (v := (σ 1 0)) (pc' := 105) rfl lay_1 rfl rfl rfl).trans ?_
      refine (zJ_n rfl).trans ?_
      refine (zq_irem hm (pc' := 106) rfl rfl).trans (zite rfl ?_)
      refine (zJ_n rfl).trans ?_
      refine (zq_il hm (pc' := 108) rfl rfl rfl rfl).trans ?_
      refine (zq_zeq hm (pc' := 111) rfl rfl).trans (zite ?_ ?_)
      · refine (zJ_n rfl).trans ?_
        refine (zq_ic hm (pc' := 116) rfl rfl rfl rfl).trans ?_
        refine (zq_v0 hm (pc' := 119) rfl rfl rfl (cls_1_3) rfl rfl).trans (zCV_c rfl (fun s103 => ?_))
        refine (zJ_n rfl).trans ?_
        refine (zq_iinc hm (ls' := [some (.inl (some 24)), none, some (.inr (.inl y1)), some (.inr (.inl y2)), some (.inr (.inl y3)), some (.inr (.inl y4)), some (.inr (.inl (zw ((zw (y5 * 1103515245)) + 12345)))), some (.inr (.inl y6)), some (.inr (.inl y7)), some (.inr (.inl (zw (y8 + 1)))), some (.inr (.inl 0))]) (pc' := 122) rfl rfl rfl rfl rfl rfl).trans ?_
        exact (zc_goto hm rfl rfl).trans rfl
      · refine (zJ_n rfl).trans ?_
        refine (zq_ic hm (pc' := 112) rfl rfl rfl rfl).trans ?_
        refine (zq_goto hm rfl rfl).trans ?_
        refine (zq_v0 hm (pc' := 119) rfl rfl rfl (cls_1_3) rfl rfl).trans (zCV_c rfl (fun s104 => ?_))
        refine (zJ_n rfl).trans ?_
        refine (zq_iinc hm (ls' := [some (.inl (some 24)), none, some (.inr (.inl y1)), some (.inr (.inl y2)), some (.inr (.inl y3)), some (.inr (.inl y4)), some (.inr (.inl (zw ((zw (y5 * 1103515245)) + 12345)))), some (.inr (.inl y6)), some (.inr (.inl y7)), some (.inr (.inl (zw (y8 + 1)))), some (.inr (.inl 0))]) (pc' := 122) rfl rfl rfl rfl rfl rfl).trans ?_
        exact (zc_goto hm rfl rfl).trans rfl
  · refine (zJ_n rfl).trans ?_
    refine (zq_il hm (pc' := 127) rfl rfl rfl rfl).trans ?_
    refine (zq_il hm (pc' := 129) rfl rfl rfl rfl).trans ?_
    refine (zq_ic hm (pc' := 130) rfl rfl rfl rfl).trans ?_
    refine (zq_ine hm (pc' := 133) rfl rfl).trans (zite ?_ ?_)
    · refine (zJ_n rfl).trans ?_
      refine (zq_aln hm (pc' := 134) rfl rfl rfl rfl).trans ?_
      refine (zq_gr hm (pc' := 137) rfl lay_24 rfl rfl).trans ?_
      refine (zJ_n rfl).trans ?_
      refine (zq_v1 hm (pc' := 140) rfl rfl rfl (cls_17_9) rfl rfl).trans (zCI_c rfl (fun r102 s101 => ?_))
      refine (zJ_n rfl).trans ?_
      refine (zq_goto hm rfl rfl).trans ?_
      refine (zq_iadd hm (pc' := 154) rfl rfl rfl).trans ?_
      refine (zq_is hm (ls' := [some (.inl (some 24)), none, some (.inr (.inl y1)), some (.inr (.inl y2)), some (.inr (.inl y3)), some (.inr (.inl y4)), some (.inr (.inl y5)), some (.inr (.inl (zw (y6 + r102)))), some (.inr (.inl y7)), some (.inr (.inl y8)), none]) (pc' := 156) rfl rfl rfl rfl).trans ?_
      refine (zq_iinc hm (ls' := [some (.inl (some 24)), none, some (.inr (.inl y1)), some (.inr (.inl y2)), some (.inr (.inl y3)), some (.inr (.inl y4)), some (.inr (.inl y5)), some (.inr (.inl (zw (y6 + r102)))), some (.inr (.inl (zw (y7 + 1)))), some (.inr (.inl y8)), none]) (pc' := 159) rfl rfl rfl rfl rfl rfl).trans ?_
      exact (zc_goto hm rfl rfl).trans rfl
    · refine (zJ_n rfl).trans ?_
      refine (zq_aln hm (pc' := 144) rfl rfl rfl rfl).trans ?_
      refine (zq_gr hm (pc' := 147) rfl lay_24 rfl rfl).trans ?_
      refine (zJ_n rfl).trans ?_
      refine (zq_gr hm (pc' := 150) rfl lay_17 rfl rfl).trans ?_
      refine (zJ_n rfl).trans ?_
      refine (zq_il hm (pc' := 152) rfl rfl rfl rfl).trans ?_
      refine (zq_ia hm (v := (σ 18 y4)) (pc' := 153) rfl lay_18 rfl rfl).trans (zite ?_ rfl)
      refine (zJ_n rfl).trans ?_
      refine (zq_iadd hm (pc' := 154) rfl rfl rfl).trans ?_
      refine (zq_is hm (ls' := [some (.inl (some 24)), none, some (.inr (.inl y1)), some (.inr (.inl y2)), some (.inr (.inl y3)), some (.inr (.inl y4)), some (.inr (.inl y5)), some (.inr (.inl (zw (y6 + (σ 18 y4))))), some (.inr (.inl y7)), some (.inr (.inl y8)), none]) (pc' := 156) rfl rfl rfl rfl).trans ?_
      refine (zq_iinc hm (ls' := [some (.inl (some 24)), none, some (.inr (.inl y1)), some (.inr (.inl y2)), some (.inr (.inl y3)), some (.inr (.inl y4)), some (.inr (.inl y5)), some (.inr (.inl (zw (y6 + (σ 18 y4))))), some (.inr (.inl (zw (y7 + 1)))), some (.inr (.inl y8)), none]) (pc' := 159) rfl rfl rfl rfl rfl rfl).trans ?_
      exact (zc_goto hm rfl rfl).trans rfl
set_option maxRecDepth 100000 in
set_option maxHeartbeats 4000000 in
theorem e_X7_isRow (d : Nat) (k : Nat) (σ : zF) : zx (d + 1) 68 [.inl (some k)] σ = (
zfld LAY k 7 0 (
if (σ k 0) = (-1) then (
zri 0 σ) else (
zri 1 σ)) (fun _ => none)) := by
  unfold zx
  have hm := zexec_m zX2 zMT d
  refine (zexec_eq mt_68 _ rfl (LAY, σ) 0).trans ?_
  show zrunL zX2 (zexec zX2 zMT d) K_X7_isRow U_X7_isRow 0 [some (.inl (some k))] [] (LAY, σ) = _
  refine (zq_aln hm (pc' := 1) rfl rfl rfl rfl).trans ?_
  refine (zq_gs hm (pc' := 4) rfl rfl).trans (zfld_i lay_num_7_0 ?_)
  refine (zJ_n rfl).trans ?_
  refine (zq_ic hm (pc' := 5) rfl rfl rfl rfl).trans ?_
  refine (zq_ieq hm (pc' := 8) rfl rfl).trans (zite ?_ ?_)
  · refine (zJ_n rfl).trans ?_
    refine (zq_ic hm (pc' := 13) rfl rfl rfl rfl).trans ?_
    exact (zq_rb hm rfl rfl).trans (zif1 (by decide))
  · refine (zJ_n rfl).trans ?_
    refine (zq_ic hm (pc' := 9) rfl rfl rfl rfl).trans ?_
    refine (zq_goto hm rfl rfl).trans ?_
    exact (zq_rb hm rfl rfl).trans (zif1 (by decide))
set_option maxRecDepth 100000 in
set_option maxHeartbeats 4000000 in
theorem e_X7_isRowOf (d : Nat) (k : Nat) (x1 : Int) (σ : zF) : zx (d + 1) 69 [.inl (some k), .inr (.inl x1)] σ = (
bif zcls LAY k 7 && true then (
zCI LAY (zx d 68 [.inl (some k)] σ) fun r2 s1 =>
if r2 = 0 then (
zri 0 s1) else (
zfld LAY k 7 0 (
if (s1 k 0) = x1 then (
zri 1 s1) else (
zri 0 s1)) (fun _ => none))) else none) := by
  unfold zx
  have hm := zexec_m zX2 zMT d
  refine (zexec_eq mt_69 _ rfl (LAY, σ) 0).trans ?_
  show zrunL zX2 (zexec zX2 zMT d) K_X7_isRowOf U_X7_isRowOf 0 [some (.inl (some k)), some (.inr (.inl x1))] [] (LAY, σ) = _
  refine (zq_aln hm (pc' := 1) rfl rfl rfl rfl).trans ?_
  refine (zq_vy1 hm (pc' := 4) rfl rfl rfl rfl rfl).trans (zbif_c (zCI_c rfl (fun r2 s1 => ?_)))
  refine (zJ_n rfl).trans ?_
  refine (zq_zeq hm (pc' := 7) rfl rfl).trans (zite ?_ ?_)
  · refine (zJ_n rfl).trans ?_
    refine (zq_ic hm (pc' := 20) rfl rfl rfl rfl).trans ?_
    exact (zq_rb hm rfl rfl).trans (zif1 (by decide))
  · refine (zJ_n rfl).trans ?_
    refine (zq_aln hm (pc' := 8) rfl rfl rfl rfl).trans ?_
    refine (zq_gs hm (pc' := 11) rfl rfl).trans (zfld_i lay_num_7_0 ?_)
    refine (zJ_n rfl).trans ?_
    refine (zq_iln hm (pc' := 12) rfl rfl rfl rfl).trans ?_
    refine (zq_ine hm (pc' := 15) rfl rfl).trans (zite ?_ ?_)
    · refine (zJ_n rfl).trans ?_
      refine (zq_ic hm (pc' := 16) rfl rfl rfl rfl).trans ?_
      refine (zq_goto hm rfl rfl).trans ?_
      exact (zq_rb hm rfl rfl).trans (zif1 (by decide))
    · refine (zJ_n rfl).trans ?_
      refine (zq_ic hm (pc' := 20) rfl rfl rfl rfl).trans ?_
      exact (zq_rb hm rfl rfl).trans (zif1 (by decide))
set_option maxRecDepth 100000 in
set_option maxHeartbeats 4000000 in
theorem e_X7_isEmpty (d : Nat) (k : Nat) (σ : zF) : zx (d + 1) 70 [.inl (some k)] σ = (
bif zcls LAY k 7 && true then (
zCI LAY (zx d 68 [.inl (some k)] σ) fun r2 s1 =>
if r2 = 0 then (
zfld LAY k 7 2 (
if (s1 k 2) = (-1) then (
zri 1 s1) else (
zri 0 s1)) (fun _ => none)) else (
zri 0 s1)) else none) := by
  unfold zx
  have hm := zexec_m zX2 zMT d
  refine (zexec_eq mt_70 _ rfl (LAY, σ) 0).trans ?_
  show zrunL zX2 (zexec zX2 zMT d) K_X7_isEmpty U_X7_isEmpty 0 [some (.inl (some k))] [] (LAY, σ) = _
  refine (zq_aln hm (pc' := 1) rfl rfl rfl rfl).trans ?_
  refine (zq_vy1 hm (pc' := 4) rfl rfl rfl rfl rfl).trans (zbif_c (zCI_c rfl (fun r2 s1 => ?_)))
  refine (zJ_n rfl).trans ?_
  refine (zq_zne hm (pc' := 7) rfl rfl).trans (zite ?_ ?_)
  · refine (zJ_n rfl).trans ?_
    refine (zq_aln hm (pc' := 8) rfl rfl rfl rfl).trans ?_
    refine (zq_gs hm (pc' := 11) rfl rfl).trans (zfld_i lay_num_7_2 ?_)
    refine (zJ_n rfl).trans ?_
    refine (zq_ic hm (pc' := 12) rfl rfl rfl rfl).trans ?_
    refine (zq_ine hm (pc' := 15) rfl rfl).trans (zite ?_ ?_)
    · refine (zJ_n rfl).trans ?_
      refine (zq_ic hm (pc' := 16) rfl rfl rfl rfl).trans ?_
      refine (zq_goto hm rfl rfl).trans ?_
      exact (zq_rb hm rfl rfl).trans (zif1 (by decide))
    · refine (zJ_n rfl).trans ?_
      refine (zq_ic hm (pc' := 20) rfl rfl rfl rfl).trans ?_
      exact (zq_rb hm rfl rfl).trans (zif1 (by decide))
  · refine (zJ_n rfl).trans ?_
    refine (zq_ic hm (pc' := 20) rfl rfl rfl rfl).trans ?_
    exact (zq_rb hm rfl rfl).trans (zif1 (by decide))
set_option maxRecDepth 100000 in
set_option maxHeartbeats 4000000 in
theorem e_X7_holdStone (d : Nat) (k : Nat) (x1 : Int) (σ : zF) : zx (d + 1) 71 [.inl (some k), .inr (.inl x1)] σ = (
zputK LAY k 7 0 0 (-1) (
zputK LAY k 7 1 0 0 (
zputK LAY k 7 2 0 x1 (
zrv (zset (zset (zset σ k 0 (-1)) k 1 0) k 2 x1))))) := by
  unfold zx
  have hm := zexec_m zX2 zMT d
  refine (zexec_eq mt_71 _ rfl (LAY, σ) 0).trans ?_
  show zrunL zX2 (zexec zX2 zMT d) K_X7_holdStone U_X7_holdStone 0 [some (.inl (some k)), some (.inr (.inl x1))] [] (LAY, σ) = _
  refine (zq_aln hm (pc' := 1) rfl rfl rfl rfl).trans ?_
  refine (zq_ic hm (pc' := 2) rfl rfl rfl rfl).trans ?_
  refine (zq_ps hm (pc' := 5) rfl rfl).trans (zputK_c ?_)
  refine (zJ_n rfl).trans ?_
  refine (zq_aln hm (pc' := 6) rfl rfl rfl rfl).trans ?_
  refine (zq_ic hm (pc' := 7) rfl rfl rfl rfl).trans ?_
  refine (zq_ps hm (pc' := 10) rfl rfl).trans (zputK_c ?_)
  refine (zJ_n rfl).trans ?_
  refine (zq_aln hm (pc' := 11) rfl rfl rfl rfl).trans ?_
  refine (zq_iln hm (pc' := 12) rfl rfl rfl rfl).trans ?_
  refine (zq_ps hm (pc' := 15) rfl rfl).trans (zputK_c ?_)
  refine (zJ_n rfl).trans ?_
  exact zq_rv hm rfl
set_option maxRecDepth 100000 in
set_option maxHeartbeats 4000000 in
theorem e_X7_holdRow (d : Nat) (k : Nat) (x1 : Int) (x2 : Int) (σ : zF) : zx (d + 1) 72 [.inl (some k), .inr (.inl x1), .inr (.inl x2)] σ = (
zputK LAY k 7 0 0 x1 (
zputK LAY k 7 1 0 x2 (
zputK LAY k 7 2 0 (-1) (
zfld LAY k 7 3 none (fun t1 =>
zCV LAY (zx d 254 [.inl (some t1), .inr (.inr 0)] (zset (zset (zset σ k 0 x1) k 1 x2) k 2 (-1))) fun s2 =>
zrv s2))))) := by
  unfold zx
  have hm := zexec_m zX2 zMT d
  refine (zexec_eq mt_72 _ rfl (LAY, σ) 0).trans ?_
  show zrunL zX2 (zexec zX2 zMT d) K_X7_holdRow U_X7_holdRow 0 [some (.inl (some k)), some (.inr (.inl x1)), some (.inr (.inl x2))] [] (LAY, σ) = _
  refine (zq_aln hm (pc' := 1) rfl rfl rfl rfl).trans ?_
  refine (zq_iln hm (pc' := 2) rfl rfl rfl rfl).trans ?_
  refine (zq_ps hm (pc' := 5) rfl rfl).trans (zputK_c ?_)
  refine (zJ_n rfl).trans ?_
  refine (zq_aln hm (pc' := 6) rfl rfl rfl rfl).trans ?_
  refine (zq_iln hm (pc' := 7) rfl rfl rfl rfl).trans ?_
  refine (zq_ps hm (pc' := 10) rfl rfl).trans (zputK_c ?_)
  refine (zJ_n rfl).trans ?_
  refine (zq_aln hm (pc' := 11) rfl rfl rfl rfl).trans ?_
  refine (zq_ic hm (pc' := 12) rfl rfl rfl rfl).trans ?_
  refine (zq_ps hm (pc' := 15) rfl rfl).trans (zputK_c ?_)
  refine (zJ_n rfl).trans ?_
  refine (zq_aln hm (pc' := 16) rfl rfl rfl rfl).trans ?_
  refine (zq_gs hm (pc' := 19) rfl rfl).trans (zfld_r lay_ref_7_3 (fun t1 => ?_))
  refine (zJ_n rfl).trans ?_
  refine (zq_lc hm (pc' := 20) rfl rfl rfl rfl).trans ?_
  refine (zq_s0 hm (pc' := 23) rfl rfl rfl rfl rfl rfl).trans (zCV_c rfl (fun s2 => ?_))
  refine (zJ_n rfl).trans ?_
  exact zq_rv hm rfl
set_option maxRecDepth 100000 in
set_option maxHeartbeats 4000000 in
theorem e_X7_refusalOf (d : Nat) (k : Nat) (x1 : Int) (σ : zF) : zx (d + 1) 73 [.inl (some k), .inr (.inl x1)] σ = (
bif zcls LAY k 7 && true then (
zCI LAY (zx d 70 [.inl (some k)] σ) fun r2 s1 =>
if r2 = 0 then (
bif zcls LAY k 7 && true then (
zCI LAY (zx d 69 [.inl (some k), .inr (.inl x1)] s1) fun r4 s3 =>
if r4 = 0 then (
zri (-12) s3) else (
zri 0 s3)) else none) else (
zri (-11) s1)) else none) := by
  unfold zx
  have hm := zexec_m zX2 zMT d
  refine (zexec_eq mt_73 _ rfl (LAY, σ) 0).trans ?_
  show zrunL zX2 (zexec zX2 zMT d) K_X7_refusalOf U_X7_refusalOf 0 [some (.inl (some k)), some (.inr (.inl x1))] [] (LAY, σ) = _
  refine (zq_aln hm (pc' := 1) rfl rfl rfl rfl).trans ?_
  refine (zq_vy1 hm (pc' := 4) rfl rfl rfl rfl rfl).trans (zbif_c (zCI_c rfl (fun r2 s1 => ?_)))
  refine (zJ_n rfl).trans ?_
  refine (zq_zeq hm (pc' := 7) rfl rfl).trans (zite ?_ ?_)
  · refine (zJ_n rfl).trans ?_
    refine (zq_aln hm (pc' := 11) rfl rfl rfl rfl).trans ?_
    refine (zq_iln hm (pc' := 12) rfl rfl rfl rfl).trans ?_
    refine (zq_vy1 hm (pc' := 15) rfl rfl rfl rfl rfl).trans (zbif_c (zCI_c rfl (fun r4 s3 => ?_)))
    refine (zJ_n rfl).trans ?_
    refine (zq_zeq hm (pc' := 18) rfl rfl).trans (zite ?_ ?_)
    · refine (zJ_n rfl).trans ?_
      refine (zq_bi hm (pc' := 24) rfl rfl rfl rfl).trans ?_
      exact zq_ri hm rfl rfl
    · refine (zJ_n rfl).trans ?_
      refine (zq_ic hm (pc' := 19) rfl rfl rfl rfl).trans ?_
      refine (zq_goto hm rfl rfl).trans ?_
      exact zq_ri hm rfl rfl
  · refine (zJ_n rfl).trans ?_
    refine (zq_bi hm (pc' := 9) rfl rfl rfl rfl).trans ?_
    exact zq_ri hm rfl rfl
set_option maxRecDepth 100000 in
set_option maxHeartbeats 4000000 in
theorem e_X7_refusalAt (d : Nat) (k : Nat) (x1 : Int) (σ : zF) : zx (d + 1) 74 [.inl (some k), .inr (.inl x1)] σ = (
bif zcls LAY k 7 && true then (
zCI LAY (zx d 70 [.inl (some k)] σ) fun r2 s1 =>
if r2 = 0 then (
bif zcls LAY k 7 && true then (
zCI LAY (zx d 68 [.inl (some k)] s1) fun r4 s3 =>
if r4 = 0 then (
zri (-12) s3) else (
if x1 < 0 then (
zri (-13) s3) else (
zfld LAY k 7 1 (
if x1 < (s3 k 1) then (
zri 0 s3) else (
zri (-13) s3)) (fun _ => none)))) else none) else (
zri (-11) s1)) else none) := by
  unfold zx
  have hm := zexec_m zX2 zMT d
  refine (zexec_eq mt_74 _ rfl (LAY, σ) 0).trans ?_
  show zrunL zX2 (zexec zX2 zMT d) K_X7_refusalAt U_X7_refusalAt 0 [some (.inl (some k)), some (.inr (.inl x1))] [] (LAY, σ) = _
  refine (zq_aln hm (pc' := 1) rfl rfl rfl rfl).trans ?_
  refine (zq_vy1 hm (pc' := 4) rfl rfl rfl rfl rfl).trans (zbif_c (zCI_c rfl (fun r2 s1 => ?_)))
  refine (zJ_n rfl).trans ?_
  refine (zq_zeq hm (pc' := 7) rfl rfl).trans (zite ?_ ?_)
  · refine (zJ_n rfl).trans ?_
    refine (zq_aln hm (pc' := 11) rfl rfl rfl rfl).trans ?_
    refine (zq_vy1 hm (pc' := 14) rfl rfl rfl rfl rfl).trans (zbif_c (zCI_c rfl (fun r4 s3 => ?_)))
    refine (zJ_n rfl).trans ?_
    refine (zq_zne hm (pc' := 17) rfl rfl).trans (zite ?_ ?_)
    · refine (zJ_n rfl).trans ?_
      refine (zq_bi hm (pc' := 19) rfl rfl rfl rfl).trans ?_
      exact zq_ri hm rfl rfl
    · refine (zJ_n rfl).trans ?_
      refine (zq_iln hm (pc' := 21) rfl rfl rfl rfl).trans ?_
      refine (zq_zlt hm (pc' := 24) rfl rfl).trans (zite ?_ ?_)
      · refine (zJ_n rfl).trans ?_
        refine (zq_bi hm (pc' := 38) rfl rfl rfl rfl).trans ?_
        exact zq_ri hm rfl rfl
      · refine (zJ_n rfl).trans ?_
        refine (zq_iln hm (pc' := 25) rfl rfl rfl rfl).trans ?_
        refine (zq_aln hm (pc' := 26) rfl rfl rfl rfl).trans ?_
        refine (zq_gs hm (pc' := 29) rfl rfl).trans (zfld_i lay_num_7_1 ?_)
        refine (zJ_n rfl).trans ?_
        refine (zq_ige hm (pc' := 32) rfl rfl).trans (zite ?_ ?_)
        · refine (zJ_n rfl).trans ?_
          refine (zq_ic hm (pc' := 33) rfl rfl rfl rfl).trans ?_
          refine (zq_goto hm rfl rfl).trans ?_
          exact zq_ri hm rfl rfl
        · refine (zJ_n rfl).trans ?_
          refine (zq_bi hm (pc' := 38) rfl rfl rfl rfl).trans ?_
          exact zq_ri hm rfl rfl
  · refine (zJ_n rfl).trans ?_
    refine (zq_bi hm (pc' := 9) rfl rfl rfl rfl).trans ?_
    exact zq_ri hm rfl rfl
set_option maxRecDepth 100000 in
set_option maxHeartbeats 4000000 in
theorem e_X7_hasSpan (d : Nat) (k : Nat) (x1 : Int) (x2 : Int) (σ : zF) : zx (d + 1) 75 [.inl (some k), .inr (.inl x1), .inr (.inl x2)] σ = (
if x1 < 0 then (
zri 0 σ) else (
if x2 < 0 then (
zri 0 σ) else (
zfld LAY k 7 1 (
if zw ((σ k 1) - x2) < x1 then (
zri 0 σ) else (
zri 1 σ)) (fun _ => none)))) := by
  unfold zx
  have hm := zexec_m zX2 zMT d
  refine (zexec_eq mt_75 _ rfl (LAY, σ) 0).trans ?_
  show zrunL zX2 (zexec zX2 zMT d) K_X7_hasSpan U_X7_hasSpan 0 [some (.inl (some k)), some (.inr (.inl x1)), some (.inr (.inl x2))] [] (LAY, σ) = _
  refine (zq_iln hm (pc' := 1) rfl rfl rfl rfl).trans ?_
  refine (zq_zlt hm (pc' := 4) rfl rfl).trans (zite ?_ ?_)
  · refine (zJ_n rfl).trans ?_
    refine (zq_ic hm (pc' := 23) rfl rfl rfl rfl).trans ?_
    exact (zq_rb hm rfl rfl).trans (zif1 (by decide))
  · refine (zJ_n rfl).trans ?_
    refine (zq_iln hm (pc' := 5) rfl rfl rfl rfl).trans ?_
    refine (zq_zlt hm (pc' := 8) rfl rfl).trans (zite ?_ ?_)
    · refine (zJ_n rfl).trans ?_
      refine (zq_ic hm (pc' := 23) rfl rfl rfl rfl).trans ?_
      exact (zq_rb hm rfl rfl).trans (zif1 (by decide))
    · refine (zJ_n rfl).trans ?_
      refine (zq_iln hm (pc' := 9) rfl rfl rfl rfl).trans ?_
      refine (zq_aln hm (pc' := 10) rfl rfl rfl rfl).trans ?_
      refine (zq_gs hm (pc' := 13) rfl rfl).trans (zfld_i lay_num_7_1 ?_)
      refine (zJ_n rfl).trans ?_
      refine (zq_iln hm (pc' := 14) rfl rfl rfl rfl).trans ?_
      refine (zq_isub hm (pc' := 15) rfl rfl rfl).trans ?_
      refine (zq_igt hm (pc' := 18) rfl rfl).trans (zite ?_ ?_)
      · refine (zJ_n rfl).trans ?_
        refine (zq_ic hm (pc' := 23) rfl rfl rfl rfl).trans ?_
        exact (zq_rb hm rfl rfl).trans (zif1 (by decide))
      · refine (zJ_n rfl).trans ?_
        refine (zq_ic hm (pc' := 19) rfl rfl rfl rfl).trans ?_
        refine (zq_goto hm rfl rfl).trans ?_
        exact (zq_rb hm rfl rfl).trans (zif1 (by decide))
set_option maxRecDepth 100000 in
set_option maxHeartbeats 4000000 in
theorem e_X7_cut (d : Nat) (k : Nat) (x1 : Int) (σ : zF) : zx (d + 1) 76 [.inl (some k), .inr (.inr x1)] σ = (
zfld LAY k 7 0 (
if (σ k 0) = 0 then (
zrj (zi2b (zw x1)) σ) else (
if (σ k 0) = 1 then (
zrj (zi2s (zw x1)) σ) else (
if (σ k 0) = 2 then (
zrj (zw x1) σ) else (
if (σ k 0) = 3 then (
zrj x1 σ) else (
if (σ k 0) = 4 then (
if zcmpl x1 0 = 0 then (
zrj 0 σ) else (
zrj 1 σ)) else (
zrj x1 σ)))))) (fun _ => none)) := by
  unfold zx
  have hm := zexec_m zX2 zMT d
  refine (zexec_eq mt_76 _ rfl (LAY, σ) 0).trans ?_
  show zrunL zX2 (zexec zX2 zMT d) K_X7_cut U_X7_cut 0 [some (.inl (some k)), some (.inr (.inr x1)), none] [] (LAY, σ) = _
  refine (zq_aln hm (pc' := 1) rfl rfl rfl rfl).trans ?_
  refine (zq_gs hm (pc' := 4) rfl rfl).trans (zfld_i lay_num_7_0 ?_)
  refine (zJ_n rfl).trans ?_
  refine (zq_ts hm rfl).trans (zsw_c (k' := fun _ => none) ?_ (zsw_c (k' := fun _ => none) ?_ (zsw_c (k' := fun _ => none) ?_ (zsw_c (k' := fun _ => none) ?_ (zsw_c (k' := fun _ => none) ?_ (zsw_n ?_))))))
  · refine (zJ_n rfl).trans ?_
    refine (zq_lln hm (pc' := 41) rfl rfl rfl rfl).trans ?_
    refine (zq_l2i hm (pc' := 42) rfl rfl rfl).trans ?_
    refine (zq_i2b hm (pc' := 43) rfl rfl rfl).trans ?_
    refine (zq_i2l hm (pc' := 44) rfl rfl rfl).trans ?_
    exact zq_rj hm rfl
  · refine (zJ_n rfl).trans ?_
    refine (zq_lln hm (pc' := 46) rfl rfl rfl rfl).trans ?_
    refine (zq_l2i hm (pc' := 47) rfl rfl rfl).trans ?_
    refine (zq_i2s hm (pc' := 48) rfl rfl rfl).trans ?_
    refine (zq_i2l hm (pc' := 49) rfl rfl rfl).trans ?_
    exact zq_rj hm rfl
  · refine (zJ_n rfl).trans ?_
    refine (zq_lln hm (pc' := 51) rfl rfl rfl rfl).trans ?_
    refine (zq_l2i hm (pc' := 52) rfl rfl rfl).trans ?_
    refine (zq_i2l hm (pc' := 53) rfl rfl rfl).trans ?_
    exact zq_rj hm rfl
  · refine (zJ_n rfl).trans ?_
    refine (zq_lln hm (pc' := 67) rfl rfl rfl rfl).trans ?_
    exact zq_rj hm rfl
  · refine (zJ_n rfl).trans ?_
    refine (zq_lln hm (pc' := 55) rfl rfl rfl rfl).trans ?_
    refine (zq_lc hm (pc' := 56) rfl rfl rfl rfl).trans ?_
    refine (zq_lcmp hm (pc' := 57) rfl rfl rfl).trans ?_
    refine (zq_zeq hm (pc' := 60) rfl rfl).trans (zite ?_ ?_)
    · refine (zJ_n rfl).trans ?_
      refine (zq_lc hm (pc' := 65) rfl rfl rfl rfl).trans ?_
      exact zq_rj hm rfl
    · refine (zJ_n rfl).trans ?_
      refine (zq_lc hm (pc' := 61) rfl rfl rfl rfl).trans ?_
      refine (zq_goto hm rfl rfl).trans ?_
      exact zq_rj hm rfl
  · refine (zJ_n rfl).trans ?_
    refine (zq_lln hm (pc' := 67) rfl rfl rfl rfl).trans ?_
    exact zq_rj hm rfl
set_option maxRecDepth 100000 in
set_option maxHeartbeats 4000000 in
theorem e_X8_add (d : Nat) (x1 : Int) (σ : zF) : zx (d + 1) 78 [.inl (some 41), .inr (.inl x1)] σ = (
if (σ 41 0) < 50 then (
if 0 ≤ (σ 41 0) ∧ (σ 41 0) < 50 then (
zri (zw ((zw ((σ 41 0) + 1)) - 1)) (zset (zset σ 42 (σ 41 0) x1) 41 0 (zw ((σ 41 0) + 1)))) else (
none)) else (
zri (-3) σ)) := by
  unfold zx
  have hm := zexec_m zX2 zMT d
  refine (zexec_eq mt_78 _ rfl (LAY, σ) 0).trans ?_
  show zrunL zX2 (zexec zX2 zMT d) K_X8_add U_X8_add 0 [some (.inl (some 41)), some (.inr (.inl x1))] [] (LAY, σ) = _
  refine (zq_aln hm (pc' := 1) rfl rfl rfl rfl).trans ?_
  refine (zq_gf hm (v := (σ 41 0)) (pc' := 4) rfl lay_41 rfl rfl rfl).trans ?_
  refine (zJ_n rfl).trans ?_
  refine (zq_bi hm (pc' := 6) rfl rfl rfl rfl).trans ?_
  refine (zq_ilt hm (pc' := 9) rfl rfl).trans (zite ?_ ?_)
  · refine (zJ_n rfl).trans ?_
    refine (zq_aln hm (pc' := 13) rfl rfl rfl rfl).trans ?_
    refine (zq_gr hm (pc' := 16) rfl lay_41 rfl rfl).trans ?_
    refine (zJ_n rfl).trans ?_
    refine (zq_aln hm (pc' := 17) rfl rfl rfl rfl).trans ?_
    refine (zq_gf hm (v := (σ 41 0)) (pc' := 20) rfl lay_41 rfl rfl rfl).trans ?_
    refine (zJ_n rfl).trans ?_
    refine (zq_iln hm (pc' := 21) rfl rfl rfl rfl).trans ?_
    refine (zq_ist hm (pc' := 22) rfl lay_42 rfl).trans (zite ?_ rfl)
    refine (zJ_n rfl).trans ?_
    refine (zq_aln hm (pc' := 23) rfl rfl rfl rfl).trans ?_
    refine (zq_dup hm (pc' := 24) rfl rfl rfl rfl).trans ?_
    refine (zq_gf hm (v := (σ 41 0)) (pc' := 27) rfl lay_41 rfl (zsn rfl) rfl).trans ?_
    refine (zJ_n rfl).trans ?_
    refine (zq_ic hm (pc' := 28) rfl rfl rfl rfl).trans ?_
    refine (zq_iadd hm (pc' := 29) rfl rfl rfl).trans ?_
    refine (zq_pf hm (pc' := 32) rfl lay_41 rfl rfl rfl).trans ?_
    refine (zJ_n rfl).trans ?_
    refine (zq_aln hm (pc' := 33) rfl rfl rfl rfl).trans ?_
    refine (zq_gf hm (v := zw ((σ 41 0) + 1)) (pc' := 36) rfl lay_41 rfl zsh rfl).trans ?_
    refine (zJ_n rfl).trans ?_
    refine (zq_ic hm (pc' := 37) rfl rfl rfl rfl).trans ?_
    refine (zq_isub hm (pc' := 38) rfl rfl rfl).trans ?_
    exact zq_ri hm rfl rfl
  · refine (zJ_n rfl).trans ?_
    refine (zq_bi hm (pc' := 11) rfl rfl rfl rfl).trans ?_
    exact zq_ri hm rfl rfl
set_option maxRecDepth 100000 in
set_option maxHeartbeats 4000000 in
theorem e_X8_isThere (d : Nat) (x1 : Int) (σ : zF) : zx (d + 1) 79 [.inl (some 41), .inr (.inl x1)] σ = (
if x1 < 0 then (
zri 0 σ) else (
if x1 < (σ 41 0) then (
zri 1 σ) else (
zri 0 σ))) := by
  unfold zx
  have hm := zexec_m zX2 zMT d
  refine (zexec_eq mt_79 _ rfl (LAY, σ) 0).trans ?_
  show zrunL zX2 (zexec zX2 zMT d) K_X8_isThere U_X8_isThere 0 [some (.inl (some 41)), some (.inr (.inl x1))] [] (LAY, σ) = _
  refine (zq_iln hm (pc' := 1) rfl rfl rfl rfl).trans ?_
  refine (zq_zlt hm (pc' := 4) rfl rfl).trans (zite ?_ ?_)
  · refine (zJ_n rfl).trans ?_
    refine (zq_ic hm (pc' := 17) rfl rfl rfl rfl).trans ?_
    exact (zq_rb hm rfl rfl).trans (zif1 (by decide))
  · refine (zJ_n rfl).trans ?_
    refine (zq_iln hm (pc' := 5) rfl rfl rfl rfl).trans ?_
    refine (zq_aln hm (pc' := 6) rfl rfl rfl rfl).trans ?_
    refine (zq_gf hm (v := (σ 41 0)) (pc' := 9) rfl lay_41 rfl rfl rfl).trans ?_
    refine (zJ_n rfl).trans ?_
    refine (zq_ige hm (pc' := 12) rfl rfl).trans (zite ?_ ?_)
    · refine (zJ_n rfl).trans ?_
      refine (zq_ic hm (pc' := 13) rfl rfl rfl rfl).trans ?_
      refine (zq_goto hm rfl rfl).trans ?_
      exact (zq_rb hm rfl rfl).trans (zif1 (by decide))
    · refine (zJ_n rfl).trans ?_
      refine (zq_ic hm (pc' := 17) rfl rfl rfl rfl).trans ?_
      exact (zq_rb hm rfl rfl).trans (zif1 (by decide))
noncomputable def P_X8_isUnder_4 (d : Nat) (y0 : Int) (y1 : Int) (y2 : Int) (σ : zF) : Option zR := zrunL zX2 (zexec zX2 zMT d) K_X8_isUnder U_X8_isUnder 4 [none, some (.inr (.inl y0)), some (.inr (.inl y1)), some (.inr (.inl y2))] [] (LAY, σ)
set_option maxRecDepth 100000 in
set_option maxHeartbeats 4000000 in
theorem e_X8_isUnder (d : Nat) (x0 : Int) (x1 : Int) (σ : zF) : zx (d + 1) 80 [.inr (.inl x0), .inr (.inl x1)] σ = (
P_X8_isUnder_4 d x1 x0 0 σ) := by
  unfold zx
  have hm := zexec_m zX2 zMT d
  refine (zexec_eq mt_80 _ rfl (LAY, σ) 0).trans ?_
  show zrunL zX2 (zexec zX2 zMT d) K_X8_isUnder U_X8_isUnder 0 [some (.inr (.inl x0)), some (.inr (.inl x1)), none, none] [] (LAY, σ) = _
  refine (zq_iln hm (pc' := 1) rfl rfl rfl rfl).trans ?_
  refine (zq_isn hm (ls' := [some (.inr (.inl x0)), some (.inr (.inl x1)), some (.inr (.inl x0)), none]) (pc' := 2) rfl rfl rfl rfl).trans ?_
  refine (zq_ic hm (pc' := 3) rfl rfl rfl rfl).trans ?_
  exact (zc_isn hm (ls' := [some (.inr (.inl x0)), some (.inr (.inl x1)), some (.inr (.inl x0)), some (.inr (.inl 0))]) (pc' := 4) rfl rfl rfl rfl).trans rfl
set_option maxRecDepth 100000 in
set_option maxHeartbeats 4000000 in
theorem e_X8_isUnder_4 (d : Nat) (y0 : Int) (y1 : Int) (y2 : Int) (σ : zF) : P_X8_isUnder_4 d y0 y1 y2 σ = (
if y2 < 8 then (
if y1 = (-1) then (
zri 0 σ) else (
if y1 = y0 then (
zri 1 σ) else (
if 0 ≤ y1 ∧ y1 < 8 then (
P_X8_isUnder_4 d y0 (zABV (y1 : Int).toNat) (zw (y2 + 1)) σ) else (
none)))) else (
zri 0 σ)) := by
  have hm := zexec_m zX2 zMT d
  show zrunL zX2 (zexec zX2 zMT d) K_X8_isUnder U_X8_isUnder 4 [none, some (.inr (.inl y0)), some (.inr (.inl y1)), some (.inr (.inl y2))] [] (LAY, σ) = _
  refine (zq_iln hm (pc' := 5) rfl rfl rfl rfl).trans ?_
  refine (zq_bi hm (pc' := 7) rfl rfl rfl rfl).trans ?_
  refine (zq_ige hm (pc' := 10) rfl rfl).trans (zite ?_ ?_)
  · refine (zJ_n rfl).trans ?_
    refine (zq_iln hm (pc' := 11) rfl rfl rfl rfl).trans ?_
    refine (zq_ic hm (pc' := 12) rfl rfl rfl rfl).trans ?_
    refine (zq_ieq hm (pc' := 15) rfl rfl).trans (zite ?_ ?_)
    · refine (zJ_n rfl).trans ?_
      refine (zq_ic hm (pc' := 35) rfl rfl rfl rfl).trans ?_
      exact (zq_rb hm rfl rfl).trans (zif1 (by decide))
    · refine (zJ_n rfl).trans ?_
      refine (zq_iln hm (pc' := 16) rfl rfl rfl rfl).trans ?_
      refine (zq_iln hm (pc' := 17) rfl rfl rfl rfl).trans ?_
      refine (zq_ine hm (pc' := 20) rfl rfl).trans (zite ?_ ?_)
      · refine (zJ_n rfl).trans ?_
        refine (zq_ic hm (pc' := 21) rfl rfl rfl rfl).trans ?_
        exact (zq_rb hm rfl rfl).trans (zif1 (by decide))
      · refine (zJ_n rfl).trans ?_
        refine (zq_gst hm (pc' := 25) rfl rfl).trans ?_
        refine (zJ_n rfl).trans ?_
        refine (zq_iln hm (pc' := 26) rfl rfl rfl rfl).trans ?_
        refine (zq_ix hm (pc' := 27) rfl rfl rfl rfl rfl).trans (zite ?_ rfl)
        refine (zJ_n rfl).trans ?_
        refine (zq_isn hm (ls' := [none, some (.inr (.inl y0)), some (.inr (.inl (zABV (y1 : Int).toNat))), some (.inr (.inl y2))]) (pc' := 28) rfl rfl rfl rfl).trans ?_
        refine (zq_iinc hm (ls' := [none, some (.inr (.inl y0)), some (.inr (.inl (zABV (y1 : Int).toNat))), some (.inr (.inl (zw (y2 + 1))))]) (pc' := 31) rfl rfl rfl rfl rfl rfl).trans ?_
        exact (zc_goto hm rfl rfl).trans rfl
  · refine (zJ_n rfl).trans ?_
    refine (zq_ic hm (pc' := 35) rfl rfl rfl rfl).trans ?_
    exact (zq_rb hm rfl rfl).trans (zif1 (by decide))
set_option maxRecDepth 100000 in
set_option maxHeartbeats 4000000 in
theorem e_X8_noted (d : Nat) (σ : zF) : zx (d + 1) 81 [.inl (some 41)] σ = (
zri (zmin (σ 41 3) 24) σ) := by
  unfold zx
  have hm := zexec_m zX2 zMT d
  refine (zexec_eq mt_81 _ rfl (LAY, σ) 0).trans ?_
  show zrunL zX2 (zexec zX2 zMT d) K_X8_noted U_X8_noted 0 [some (.inl (some 41))] [] (LAY, σ) = _
  refine (zq_aln hm (pc' := 1) rfl rfl rfl rfl).trans ?_
  refine (zq_gf hm (v := (σ 41 3)) (pc' := 4) rfl lay_41 rfl rfl rfl).trans ?_
  refine (zJ_n rfl).trans ?_
  refine (zq_bi hm (pc' := 6) rfl rfl rfl rfl).trans ?_
  refine (zq_min hm (pc' := 9) rfl rfl rfl rfl).trans ?_
  refine (zJ_n rfl).trans ?_
  exact zq_ri hm rfl rfl
set_option maxRecDepth 100000 in
set_option maxHeartbeats 4000000 in
theorem e_X8_perform (d : Nat) (x1 : Int) (x2 : Int) (x3 : Int) (σ : zF) : zx (d + 1) 82 [.inl (some 41), .inr (.inl x1), .inr (.inl x2), .inr (.inl x3)] σ = (
zCI LAY (zx d 79 [.inl (some 41), .inr (.inl x1)] (zset σ 41 3 0)) fun r2 s1 =>
if r2 = 0 then (
zri 0 s1) else (
if x2 < 0 then (
zri 0 s1) else (
if x2 < 4 then (
if 0 ≤ x1 ∧ x1 < 50 then (
zCI LAY (zx d 85 [.inl (some 41), .inr (.inl (s1 42 x1)), .inr (.inl x2), .inr (.inl x3), .inr (.inl 0)] (zset (zset s1 41 5 x1) 41 4 (s1 42 x1))) fun r4 s3 =>
zri r4 s3) else (
none)) else (
zri 0 s1)))) := by
  unfold zx
  have hm := zexec_m zX2 zMT d
  refine (zexec_eq mt_82 _ rfl (LAY, σ) 0).trans ?_
  show zrunL zX2 (zexec zX2 zMT d) K_X8_perform U_X8_perform 0 [some (.inl (some 41)), some (.inr (.inl x1)), some (.inr (.inl x2)), some (.inr (.inl x3))] [] (LAY, σ) = _
  refine (zq_aln hm (pc' := 1) rfl rfl rfl rfl).trans ?_
  refine (zq_ic hm (pc' := 2) rfl rfl rfl rfl).trans ?_
  refine (zq_pf hm (pc' := 5) rfl lay_41 rfl rfl rfl).trans ?_
  refine (zJ_n rfl).trans ?_
  refine (zq_aln hm (pc' := 6) rfl rfl rfl rfl).trans ?_
  refine (zq_iln hm (pc' := 7) rfl rfl rfl rfl).trans ?_
  refine (zq_v1 hm (pc' := 10) rfl rfl rfl (cls_41_8) rfl rfl).trans (zCI_c rfl (fun r2 s1 => ?_))
  refine (zJ_n rfl).trans ?_
  refine (zq_zeq hm (pc' := 13) rfl rfl).trans (zite ?_ ?_)
  · refine (zJ_n rfl).trans ?_
    refine (zq_ic hm (pc' := 23) rfl rfl rfl rfl).trans ?_
    exact zq_ri hm rfl rfl
  · refine (zJ_n rfl).trans ?_
    refine (zq_iln hm (pc' := 14) rfl rfl rfl rfl).trans ?_
    refine (zq_zlt hm (pc' := 17) rfl rfl).trans (zite ?_ ?_)
    · refine (zJ_n rfl).trans ?_
      refine (zq_ic hm (pc' := 23) rfl rfl rfl rfl).trans ?_
      exact zq_ri hm rfl rfl
    · refine (zJ_n rfl).trans ?_
      refine (zq_iln hm (pc' := 18) rfl rfl rfl rfl).trans ?_
      refine (zq_ic hm (pc' := 19) rfl rfl rfl rfl).trans ?_
      refine (zq_ilt hm (pc' := 22) rfl rfl).trans (zite ?_ ?_)
      · refine (zJ_n rfl).trans ?_
        refine (zq_aln hm (pc' := 25) rfl rfl rfl rfl).trans ?_
        refine (zq_iln hm (pc' := 26) rfl rfl rfl rfl).trans ?_
        refine (zq_pf hm (pc' := 29) rfl lay_41 rfl rfl rfl).trans ?_
        refine (zJ_n rfl).trans ?_
        refine (zq_aln hm (pc' := 30) rfl rfl rfl rfl).trans ?_
        refine (zq_aln hm (pc' := 31) rfl rfl rfl rfl).trans ?_
        refine (zq_gr hm (pc' := 34) rfl lay_41 rfl rfl).trans ?_
        refine (zJ_n rfl).trans ?_
        refine (zq_iln hm (pc' := 35) rfl rfl rfl rfl).trans ?_
        refine (zq_ia hm (v := (s1 42 x1)) (pc' := 36) rfl lay_42 (zsn rfl) rfl).trans (zite ?_ rfl)
        refine (zJ_n rfl).trans ?_
        refine (zq_pf hm (pc' := 39) rfl lay_41 rfl rfl rfl).trans ?_
        refine (zJ_n rfl).trans ?_
        refine (zq_aln hm (pc' := 40) rfl rfl rfl rfl).trans ?_
        refine (zq_aln hm (pc' := 41) rfl rfl rfl rfl).trans ?_
        refine (zq_gf hm (v := (s1 42 x1)) (pc' := 44) rfl lay_41 rfl zsh rfl).trans ?_
        refine (zJ_n rfl).trans ?_
        refine (zq_iln hm (pc' := 45) rfl rfl rfl rfl).trans ?_
        refine (zq_iln hm (pc' := 46) rfl rfl rfl rfl).trans ?_
        refine (zq_ic hm (pc' := 47) rfl rfl rfl rfl).trans ?_
        refine (zq_v1 hm (pc' := 50) rfl rfl rfl (cls_41_8) rfl rfl).trans (zCI_c rfl (fun r4 s3 => ?_))
        refine (zJ_n rfl).trans ?_
        exact zq_ri hm rfl rfl
      · refine (zJ_n rfl).trans ?_
        refine (zq_ic hm (pc' := 23) rfl rfl rfl rfl).trans ?_
        exact zq_ri hm rfl rfl
noncomputable def P_X8_holderOf_4 (d : Nat) (y0 : Int) (y1 : Int) (y2 : Int) (σ : zF) : Option zR := zrunL zX2 (zexec zX2 zMT d) K_X8_holderOf U_X8_holderOf 4 [none, some (.inr (.inl y0)), some (.inr (.inl y1)), some (.inr (.inl y2))] [] (LAY, σ)
set_option maxRecDepth 100000 in
set_option maxHeartbeats 4000000 in
theorem e_X8_holderOf (d : Nat) (x0 : Int) (x1 : Int) (σ : zF) : zx (d + 1) 83 [.inr (.inl x0), .inr (.inl x1)] σ = (
P_X8_holderOf_4 d x1 x0 0 σ) := by
  unfold zx
  have hm := zexec_m zX2 zMT d
  refine (zexec_eq mt_83 _ rfl (LAY, σ) 0).trans ?_
  show zrunL zX2 (zexec zX2 zMT d) K_X8_holderOf U_X8_holderOf 0 [some (.inr (.inl x0)), some (.inr (.inl x1)), none, none] [] (LAY, σ) = _
  refine (zq_iln hm (pc' := 1) rfl rfl rfl rfl).trans ?_
  refine (zq_isn hm (ls' := [some (.inr (.inl x0)), some (.inr (.inl x1)), some (.inr (.inl x0)), none]) (pc' := 2) rfl rfl rfl rfl).trans ?_
  refine (zq_ic hm (pc' := 3) rfl rfl rfl rfl).trans ?_
  exact (zc_isn hm (ls' := [some (.inr (.inl x0)), some (.inr (.inl x1)), some (.inr (.inl x0)), some (.inr (.inl 0))]) (pc' := 4) rfl rfl rfl rfl).trans rfl
set_option maxRecDepth 100000 in
set_option maxHeartbeats 4000000 in
theorem e_X8_holderOf_4 (d : Nat) (y0 : Int) (y1 : Int) (y2 : Int) (σ : zF) : P_X8_holderOf_4 d y0 y1 y2 σ = (
if y2 < 8 then (
if (0 : Int) < y1 then (
if 0 ≤ zw ((zw (y1 * 4)) + y0) ∧ zw ((zw (y1 * 4)) + y0) < 32 then (
if zOWN (zw ((zw (y1 * 4)) + y0) : Int).toNat = 0 then (
if 0 ≤ y1 ∧ y1 < 8 then (
P_X8_holderOf_4 d y0 (zABV (y1 : Int).toNat) (zw (y2 + 1)) σ) else (
none)) else (
zri (zmax 0 y1) σ)) else (
none)) else (
zri (zmax 0 y1) σ)) else (
zri (zmax 0 y1) σ)) := by
  have hm := zexec_m zX2 zMT d
  show zrunL zX2 (zexec zX2 zMT d) K_X8_holderOf U_X8_holderOf 4 [none, some (.inr (.inl y0)), some (.inr (.inl y1)), some (.inr (.inl y2))] [] (LAY, σ) = _
  refine (zq_iln hm (pc' := 5) rfl rfl rfl rfl).trans ?_
  refine (zq_bi hm (pc' := 7) rfl rfl rfl rfl).trans ?_
  refine (zq_ige hm (pc' := 10) rfl rfl).trans (zite ?_ ?_)
  · refine (zJ_n rfl).trans ?_
    refine (zq_iln hm (pc' := 11) rfl rfl rfl rfl).trans ?_
    refine (zq_zle hm (pc' := 14) rfl rfl).trans (zite ?_ ?_)
    · refine (zJ_n rfl).trans ?_
      refine (zq_gst hm (pc' := 17) rfl rfl).trans ?_
      refine (zJ_n rfl).trans ?_
      refine (zq_iln hm (pc' := 18) rfl rfl rfl rfl).trans ?_
      refine (zq_ic hm (pc' := 19) rfl rfl rfl rfl).trans ?_
      refine (zq_imul hm (pc' := 20) rfl rfl rfl).trans ?_
      refine (zq_iln hm (pc' := 21) rfl rfl rfl rfl).trans ?_
      refine (zq_iadd hm (pc' := 22) rfl rfl rfl).trans ?_
      refine (zq_ix hm (pc' := 23) rfl rfl rfl rfl rfl).trans (zite ?_ rfl)
      refine (zJ_n rfl).trans ?_
      refine (zq_zne hm (pc' := 26) rfl rfl).trans (zite ?_ ?_)
      · refine (zJ_n rfl).trans ?_
        refine (zq_gst hm (pc' := 29) rfl rfl).trans ?_
        refine (zJ_n rfl).trans ?_
        refine (zq_iln hm (pc' := 30) rfl rfl rfl rfl).trans ?_
        refine (zq_ix hm (pc' := 31) rfl rfl rfl rfl rfl).trans (zite ?_ rfl)
        refine (zJ_n rfl).trans ?_
        refine (zq_isn hm (ls' := [none, some (.inr (.inl y0)), some (.inr (.inl (zABV (y1 : Int).toNat))), some (.inr (.inl y2))]) (pc' := 32) rfl rfl rfl rfl).trans ?_
        refine (zq_iinc hm (ls' := [none, some (.inr (.inl y0)), some (.inr (.inl (zABV (y1 : Int).toNat))), some (.inr (.inl (zw (y2 + 1))))]) (pc' := 35) rfl rfl rfl rfl rfl rfl).trans ?_
        exact (zc_goto hm rfl rfl).trans rfl
      · refine (zJ_n rfl).trans ?_
        refine (zq_ic hm (pc' := 39) rfl rfl rfl rfl).trans ?_
        refine (zq_iln hm (pc' := 40) rfl rfl rfl rfl).trans ?_
        refine (zq_max hm (pc' := 43) rfl rfl rfl rfl).trans ?_
        refine (zJ_n rfl).trans ?_
        exact zq_ri hm rfl rfl
    · refine (zJ_n rfl).trans ?_
      refine (zq_ic hm (pc' := 39) rfl rfl rfl rfl).trans ?_
      refine (zq_iln hm (pc' := 40) rfl rfl rfl rfl).trans ?_
      refine (zq_max hm (pc' := 43) rfl rfl rfl rfl).trans ?_
      refine (zJ_n rfl).trans ?_
      exact zq_ri hm rfl rfl
  · refine (zJ_n rfl).trans ?_
    refine (zq_ic hm (pc' := 39) rfl rfl rfl rfl).trans ?_
    refine (zq_iln hm (pc' := 40) rfl rfl rfl rfl).trans ?_
    refine (zq_max hm (pc' := 43) rfl rfl rfl rfl).trans ?_
    refine (zJ_n rfl).trans ?_
    exact zq_ri hm rfl rfl
set_option maxRecDepth 100000 in
set_option maxHeartbeats 4000000 in
theorem e_X8_note (d : Nat) (x1 : Int) (σ : zF) : zx (d + 1) 84 [.inl (some 41), .inr (.inl x1)] σ = (
if (σ 41 3) < 24 then (
if 0 ≤ (σ 41 3) ∧ (σ 41 3) < 24 then (
zrv (zset (zset σ 43 (σ 41 3) x1) 41 3 (zw ((σ 41 3) + 1)))) else (
none)) else (
zrv (zset σ 41 3 (zw ((σ 41 3) + 1))))) := by
  unfold zx
  have hm := zexec_m zX2 zMT d
  refine (zexec_eq mt_84 _ rfl (LAY, σ) 0).trans ?_
  show zrunL zX2 (zexec zX2 zMT d) K_X8_note U_X8_note 0 [some (.inl (some 41)), some (.inr (.inl x1))] [] (LAY, σ) = _
  refine (zq_aln hm (pc' := 1) rfl rfl rfl rfl).trans ?_
  refine (zq_gf hm (v := (σ 41 3)) (pc' := 4) rfl lay_41 rfl rfl rfl).trans ?_
  refine (zJ_n rfl).trans ?_
  refine (zq_bi hm (pc' := 6) rfl rfl rfl rfl).trans ?_
  refine (zq_ige hm (pc' := 9) rfl rfl).trans (zite ?_ ?_)
  · refine (zJ_n rfl).trans ?_
    refine (zq_aln hm (pc' := 10) rfl rfl rfl rfl).trans ?_
    refine (zq_gr hm (pc' := 13) rfl lay_41 rfl rfl).trans ?_
    refine (zJ_n rfl).trans ?_
    refine (zq_aln hm (pc' := 14) rfl rfl rfl rfl).trans ?_
    refine (zq_gf hm (v := (σ 41 3)) (pc' := 17) rfl lay_41 rfl rfl rfl).trans ?_
    refine (zJ_n rfl).trans ?_
    refine (zq_iln hm (pc' := 18) rfl rfl rfl rfl).trans ?_
    refine (zq_ist hm (pc' := 19) rfl lay_43 rfl).trans (zite ?_ rfl)
    refine (zJ_n rfl).trans ?_
    refine (zq_aln hm (pc' := 20) rfl rfl rfl rfl).trans ?_
    refine (zq_dup hm (pc' := 21) rfl rfl rfl rfl).trans ?_
    refine (zq_gf hm (v := (σ 41 3)) (pc' := 24) rfl lay_41 rfl (zsn rfl) rfl).trans ?_
    refine (zJ_n rfl).trans ?_
    refine (zq_ic hm (pc' := 25) rfl rfl rfl rfl).trans ?_
    refine (zq_iadd hm (pc' := 26) rfl rfl rfl).trans ?_
    refine (zq_pf hm (pc' := 29) rfl lay_41 rfl rfl rfl).trans ?_
    refine (zJ_n rfl).trans ?_
    exact zq_rv hm rfl
  · refine (zJ_n rfl).trans ?_
    refine (zq_aln hm (pc' := 20) rfl rfl rfl rfl).trans ?_
    refine (zq_dup hm (pc' := 21) rfl rfl rfl rfl).trans ?_
    refine (zq_gf hm (v := (σ 41 3)) (pc' := 24) rfl lay_41 rfl rfl rfl).trans ?_
    refine (zJ_n rfl).trans ?_
    refine (zq_ic hm (pc' := 25) rfl rfl rfl rfl).trans ?_
    refine (zq_iadd hm (pc' := 26) rfl rfl rfl).trans ?_
    refine (zq_pf hm (pc' := 29) rfl lay_41 rfl rfl rfl).trans ?_
    refine (zJ_n rfl).trans ?_
    exact zq_rv hm rfl
set_option maxRecDepth 100000 in
set_option maxHeartbeats 4000000 in
theorem e_X8_run (d : Nat) (x1 : Int) (x2 : Int) (x3 : Int) (x4 : Int) (σ : zF) : zx (d + 1) 85 [.inl (some 41), .inr (.inl x1), .inr (.inl x2), .inr (.inl x3), .inr (.inl x4)] σ = (
if (40 : Int) < x4 then (
zri 0 σ) else (
zCI LAY (zx d 83 [.inr (.inl x1), .inr (.inl x2)] σ) fun r2 s1 =>
if 0 ≤ r2 ∧ r2 < 8 then (
if 0 ≤ zw ((zw (r2 * 4)) + x2) ∧ zw ((zw (r2 * 4)) + x2) < 32 then (
zCV LAY (zx d 84 [.inl (some 41), .inr (.inl (zOWN (zw ((zw (r2 * 4)) + x2) : Int).toNat))] s1) fun s3 =>
if 0 ≤ zw ((zw (r2 * 4)) + x2) ∧ zw ((zw (r2 * 4)) + x2) < 32 then (
if zOWN (zw ((zw (r2 * 4)) + x2) : Int).toNat = 1 then (
zri (zw (x3 + (s3 41 5))) s3) else (
if zOWN (zw ((zw (r2 * 4)) + x2) : Int).toNat = 2 then (
zCI LAY (zx d 85 [.inl (some 41), .inr (.inl (s3 41 4)), .inr (.inl 1), .inr (.inl x3), .inr (.inl (zw (x4 + 1)))] s3) fun r5 s4 =>
zCI LAY (zx d 85 [.inl (some 41), .inr (.inl (s4 41 4)), .inr (.inl 2), .inr (.inl 1), .inr (.inl (zw (x4 + 1)))] s4) fun r7 s6 =>
zri (zw (r5 - r7)) s6) else (
if zOWN (zw ((zw (r2 * 4)) + x2) : Int).toNat = 10 then (
zCI LAY (zx d 85 [.inl (some 41), .inr (.inl (s3 41 4)), .inr (.inl 0), .inr (.inl x3), .inr (.inl (zw (x4 + 1)))] s3) fun r9 s8 =>
zri (zw (r9 * 2)) s8) else (
if zOWN (zw ((zw (r2 * 4)) + x2) : Int).toNat = 11 then (
zri (zxor x3 (s3 41 5)) s3) else (
if zOWN (zw ((zw (r2 * 4)) + x2) : Int).toNat = 20 then (
zCI LAY (zx d 85 [.inl (some 41), .inr (.inl (zABV (r2 : Int).toNat)), .inr (.inl 0), .inr (.inl x3), .inr (.inl (zw (x4 + 1)))] s3) fun r11 s10 =>
zri (zw (r11 + 3)) s10) else (
if zOWN (zw ((zw (r2 * 4)) + x2) : Int).toNat = 30 then (
zCI LAY (zx d 85 [.inl (some 41), .inr (.inl (zABV (r2 : Int).toNat)), .inr (.inl 1), .inr (.inl x3), .inr (.inl (zw (x4 + 1)))] s3) fun r13 s12 =>
zri (zw (-r13)) s12) else (
if zOWN (zw ((zw (r2 * 4)) + x2) : Int).toNat = 40 then (
zCI LAY (zx d 85 [.inl (some 41), .inr (.inl (zABV (r2 : Int).toNat)), .inr (.inl 2), .inr (.inl x3), .inr (.inl (zw (x4 + 1)))] s3) fun r15 s14 =>
zri (zw (r15 * 3)) s14) else (
if zOWN (zw ((zw (r2 * 4)) + x2) : Int).toNat = 41 then (
zCI LAY (zx d 85 [.inl (some 41), .inr (.inl (zABV (r2 : Int).toNat)), .inr (.inl 1), .inr (.inl (zw (x3 + 1))), .inr (.inl (zw (x4 + 1)))] s3) fun r17 s16 =>
zri r17 s16) else (
if zOWN (zw ((zw (r2 * 4)) + x2) : Int).toNat = 50 then (
zCI LAY (zx d 85 [.inl (some 41), .inr (.inl (zABV (r2 : Int).toNat)), .inr (.inl 2), .inr (.inl x3), .inr (.inl (zw (x4 + 1)))] s3) fun r19 s18 =>
zCI LAY (zx d 85 [.inl (some 41), .inr (.inl (s18 41 4)), .inr (.inl 0), .inr (.inl 2), .inr (.inl (zw (x4 + 1)))] s18) fun r21 s20 =>
zri (zw (r19 - r21)) s20) else (
if zOWN (zw ((zw (r2 * 4)) + x2) : Int).toNat = 60 then (
zCI LAY (zx d 85 [.inl (some 41), .inr (.inl (zABV (r2 : Int).toNat)), .inr (.inl 3), .inr (.inl x3), .inr (.inl (zw (x4 + 1)))] s3) fun r23 s22 =>
zri (zxor r23 5) s22) else (
if zOWN (zw ((zw (r2 * 4)) + x2) : Int).toNat = 70 then (
zCI LAY (zx d 85 [.inl (some 41), .inr (.inl (zABV (r2 : Int).toNat)), .inr (.inl 0), .inr (.inl x3), .inr (.inl (zw (x4 + 1)))] s3) fun r25 s24 =>
zri (zw (r25 * 2)) s24) else (
if zOWN (zw ((zw (r2 * 4)) + x2) : Int).toNat = 80 then (
zCI LAY (zx d 85 [.inl (some 41), .inr (.inl (zABV (r2 : Int).toNat)), .inr (.inl 1), .inr (.inl x3), .inr (.inl (zw (x4 + 1)))] s3) fun r27 s26 =>
zCI LAY (zx d 85 [.inl (some 41), .inr (.inl (s26 41 4)), .inr (.inl 2), .inr (.inl 2), .inr (.inl (zw (x4 + 1)))] s26) fun r29 s28 =>
zri (zw (r27 + r29)) s28) else (
if zOWN (zw ((zw (r2 * 4)) + x2) : Int).toNat = 81 then (
zCI LAY (zx d 85 [.inl (some 41), .inr (.inl (zABV (r2 : Int).toNat)), .inr (.inl 3), .inr (.inl x3), .inr (.inl (zw (x4 + 1)))] s3) fun r31 s30 =>
zri (zw (r31 - 1)) s30) else (
zri 0 s3)))))))))))))) else (
none)) else (
none)) else (
none))) := by
  unfold zx
  have hm := zexec_m zX2 zMT d
  refine (zexec_eq mt_85 _ rfl (LAY, σ) 0).trans ?_
  show zrunL zX2 (zexec zX2 zMT d) K_X8_run U_X8_run 0 [some (.inl (some 41)), some (.inr (.inl x1)), some (.inr (.inl x2)), some (.inr (.inl x3)), some (.inr (.inl x4)), none, none, none] [] (LAY, σ) = _
  refine (zq_il hm (pc' := 2) rfl rfl rfl rfl).trans ?_
  refine (zq_bi hm (pc' := 4) rfl rfl rfl rfl).trans ?_
  refine (zq_ile hm (pc' := 7) rfl rfl).trans (zite ?_ ?_)
  · refine (zJ_n rfl).trans ?_
    refine (zq_ic hm (pc' := 8) rfl rfl rfl rfl).trans ?_
    exact zq_ri hm rfl rfl
  · refine (zJ_n rfl).trans ?_
    refine (zq_iln hm (pc' := 10) rfl rfl rfl rfl).trans ?_
    refine (zq_iln hm (pc' := 11) rfl rfl rfl rfl).trans ?_
    refine (zq_s1 hm (pc' := 14) rfl rfl rfl rfl rfl rfl).trans (zCI_c rfl (fun r2 s1 => ?_))
    refine (zJ_n rfl).trans ?_
    refine (zq_is hm (ls' := [some (.inl (some 41)), some (.inr (.inl x1)), some (.inr (.inl x2)), some (.inr (.inl x3)), some (.inr (.inl x4)), some (.inr (.inl r2)), none, none]) (pc' := 16) rfl rfl rfl rfl).trans ?_
    refine (zq_gst hm (pc' := 19) rfl rfl).trans ?_
    refine (zJ_n rfl).trans ?_
    refine (zq_il hm (pc' := 21) rfl rfl rfl rfl).trans ?_
    refine (zq_ix hm (pc' := 22) rfl rfl rfl rfl rfl).trans (zite ?_ rfl)
    refine (zJ_n rfl).trans ?_
    refine (zq_is hm (ls' := [some (.inl (some 41)), some (.inr (.inl x1)), some (.inr (.inl x2)), some (.inr (.inl x3)), some (.inr (.inl x4)), some (.inr (.inl r2)), some (.inr (.inl (zABV (r2 : Int).toNat))), none]) (pc' := 24) rfl rfl rfl rfl).trans ?_
    refine (zq_il hm (pc' := 26) rfl rfl rfl rfl).trans ?_
    refine (zq_ic hm (pc' := 27) rfl rfl rfl rfl).trans ?_
    refine (zq_iadd hm (pc' := 28) rfl rfl rfl).trans ?_
    refine (zq_is hm (ls' := [some (.inl (some 41)), some (.inr (.inl x1)), some (.inr (.inl x2)), some (.inr (.inl x3)), some (.inr (.inl x4)), some (.inr (.inl r2)), some (.inr (.inl (zABV (r2 : Int).toNat))), some (.inr (.inl (zw (x4 + 1))))]) (pc' := 30) rfl rfl rfl rfl).trans ?_
    refine (zq_aln hm (pc' := 31) rfl rfl rfl rfl).trans ?_
    refine (zq_gst hm (pc' := 34) rfl rfl).trans ?_
    refine (zJ_n rfl).trans ?_
    refine (zq_il hm (pc' := 36) rfl rfl rfl rfl).trans ?_
    refine (zq_ic hm (pc' := 37) rfl rfl rfl rfl).trans ?_
    refine (zq_imul hm (pc' := 38) rfl rfl rfl).trans ?_
    refine (zq_iln hm (pc' := 39) rfl rfl rfl rfl).trans ?_
    refine (zq_iadd hm (pc' := 40) rfl rfl rfl).trans ?_
    refine (zq_ix hm (pc' := 41) rfl rfl rfl rfl rfl).trans (zite ?_ rfl)
    refine (zJ_n rfl).trans ?_
    refine (zq_v0 hm (pc' := 44) rfl rfl rfl (cls_41_8) rfl rfl).trans (zCV_c rfl (fun s3 => ?_))
    refine (zJ_n rfl).trans ?_
    refine (zq_gst hm (pc' := 47) rfl rfl).trans ?_
    refine (zJ_n rfl).trans ?_
    refine (zq_il hm (pc' := 49) rfl rfl rfl rfl).trans ?_
    refine (zq_ic hm (pc' := 50) rfl rfl rfl rfl).trans ?_
    refine (zq_imul hm (pc' := 51) rfl rfl rfl).trans ?_
    refine (zq_iln hm (pc' := 52) rfl rfl rfl rfl).trans ?_
    refine (zq_iadd hm (pc' := 53) rfl rfl rfl).trans ?_
    refine (zq_ix hm (pc' := 54) rfl rfl rfl rfl rfl).trans (zite ?_ rfl)
    refine (zJ_n rfl).trans ?_
    refine (zq_lk hm rfl).trans (zsw_c (k' := fun _ => none) ?_ (zsw_c (k' := fun _ => none) ?_ (zsw_c (k' := fun _ => none) ?_ (zsw_c (k' := fun _ => none) ?_ (zsw_c (k' := fun _ => none) ?_ (zsw_c (k' := fun _ => none) ?_ (zsw_c (k' := fun _ => none) ?_ (zsw_c (k' := fun _ => none) ?_ (zsw_c (k' := fun _ => none) ?_ (zsw_c (k' := fun _ => none) ?_ (zsw_c (k' := fun _ => none) ?_ (zsw_c (k' := fun _ => none) ?_ (zsw_c (k' := fun _ => none) ?_ (zsw_n ?_))))))))))))))
    · refine (zJ_n rfl).trans ?_
      refine (zq_iln hm (pc' := 169) rfl rfl rfl rfl).trans ?_
      refine (zq_aln hm (pc' := 170) rfl rfl rfl rfl).trans ?_
      refine (zq_gf hm (v := (s3 41 5)) (pc' := 173) rfl lay_41 rfl rfl rfl).trans ?_
      refine (zJ_n rfl).trans ?_
      refine (zq_iadd hm (pc' := 174) rfl rfl rfl).trans ?_
      exact zq_ri hm rfl rfl
    · refine (zJ_n rfl).trans ?_
      refine (zq_aln hm (pc' := 176) rfl rfl rfl rfl).trans ?_
      refine (zq_aln hm (pc' := 177) rfl rfl rfl rfl).trans ?_
      refine (zq_gf hm (v := (s3 41 4)) (pc' := 180) rfl lay_41 rfl rfl rfl).trans ?_
      refine (zJ_n rfl).trans ?_
      refine (zq_ic hm (pc' := 181) rfl rfl rfl rfl).trans ?_
      refine (zq_iln hm (pc' := 182) rfl rfl rfl rfl).trans ?_
      refine (zq_il hm (pc' := 184) rfl rfl rfl rfl).trans ?_
      refine (zq_v1 hm (pc' := 187) rfl rfl rfl (cls_41_8) rfl rfl).trans (zCI_c rfl (fun r5 s4 => ?_))
      refine (zJ_n rfl).trans ?_
      refine (zq_aln hm (pc' := 188) rfl rfl rfl rfl).trans ?_
      refine (zq_aln hm (pc' := 189) rfl rfl rfl rfl).trans ?_
      refine (zq_gf hm (v := (s4 41 4)) (pc' := 192) rfl lay_41 rfl rfl rfl).trans ?_
      refine (zJ_n rfl).trans ?_
      refine (zq_ic hm (pc' := 193) rfl rfl rfl rfl).trans ?_
      refine (zq_ic hm (pc' := 194) rfl rfl rfl rfl).trans ?_
      refine (zq_il hm (pc' := 196) rfl rfl rfl rfl).trans ?_
      refine (zq_v1 hm (pc' := 199) rfl rfl rfl (cls_41_8) rfl rfl).trans (zCI_c rfl (fun r7 s6 => ?_))
      refine (zJ_n rfl).trans ?_
      refine (zq_isub hm (pc' := 200) rfl rfl rfl).trans ?_
      exact zq_ri hm rfl rfl
    · refine (zJ_n rfl).trans ?_
      refine (zq_aln hm (pc' := 202) rfl rfl rfl rfl).trans ?_
      refine (zq_aln hm (pc' := 203) rfl rfl rfl rfl).trans ?_
      refine (zq_gf hm (v := (s3 41 4)) (pc' := 206) rfl lay_41 rfl rfl rfl).trans ?_
      refine (zJ_n rfl).trans ?_
      refine (zq_ic hm (pc' := 207) rfl rfl rfl rfl).trans ?_
      refine (zq_iln hm (pc' := 208) rfl rfl rfl rfl).trans ?_
      refine (zq_il hm (pc' := 210) rfl rfl rfl rfl).trans ?_
      refine (zq_v1 hm (pc' := 213) rfl rfl rfl (cls_41_8) rfl rfl).trans (zCI_c rfl (fun r9 s8 => ?_))
      refine (zJ_n rfl).trans ?_
      refine (zq_ic hm (pc' := 214) rfl rfl rfl rfl).trans ?_
      refine (zq_imul hm (pc' := 215) rfl rfl rfl).trans ?_
      exact zq_ri hm rfl rfl
    · refine (zJ_n rfl).trans ?_
      refine (zq_iln hm (pc' := 217) rfl rfl rfl rfl).trans ?_
      refine (zq_aln hm (pc' := 218) rfl rfl rfl rfl).trans ?_
      refine (zq_gf hm (v := (s3 41 5)) (pc' := 221) rfl lay_41 rfl rfl rfl).trans ?_
      refine (zJ_n rfl).trans ?_
      refine (zq_ixor hm (pc' := 222) rfl rfl rfl).trans ?_
      exact zq_ri hm rfl rfl
    · refine (zJ_n rfl).trans ?_
      refine (zq_aln hm (pc' := 224) rfl rfl rfl rfl).trans ?_
      refine (zq_il hm (pc' := 226) rfl rfl rfl rfl).trans ?_
      refine (zq_ic hm (pc' := 227) rfl rfl rfl rfl).trans ?_
      refine (zq_iln hm (pc' := 228) rfl rfl rfl rfl).trans ?_
      refine (zq_il hm (pc' := 230) rfl rfl rfl rfl).trans ?_
      refine (zq_v1 hm (pc' := 233) rfl rfl rfl (cls_41_8) rfl rfl).trans (zCI_c rfl (fun r11 s10 => ?_))
      refine (zJ_n rfl).trans ?_
      refine (zq_ic hm (pc' := 234) rfl rfl rfl rfl).trans ?_
      refine (zq_iadd hm (pc' := 235) rfl rfl rfl).trans ?_
      exact zq_ri hm rfl rfl
    · refine (zJ_n rfl).trans ?_
      refine (zq_aln hm (pc' := 237) rfl rfl rfl rfl).trans ?_
      refine (zq_il hm (pc' := 239) rfl rfl rfl rfl).trans ?_
      refine (zq_ic hm (pc' := 240) rfl rfl rfl rfl).trans ?_
      refine (zq_iln hm (pc' := 241) rfl rfl rfl rfl).trans ?_
      refine (zq_il hm (pc' := 243) rfl rfl rfl rfl).trans ?_
      refine (zq_v1 hm (pc' := 246) rfl rfl rfl (cls_41_8) rfl rfl).trans (zCI_c rfl (fun r13 s12 => ?_))
      refine (zJ_n rfl).trans ?_
      refine (zq_ineg hm (pc' := 247) rfl rfl rfl).trans ?_
      exact zq_ri hm rfl rfl
    · refine (zJ_n rfl).trans ?_
      refine (zq_aln hm (pc' := 249) rfl rfl rfl rfl).trans ?_
      refine (zq_il hm (pc' := 251) rfl rfl rfl rfl).trans ?_
      refine (zq_ic hm (pc' := 252) rfl rfl rfl rfl).trans ?_
      refine (zq_iln hm (pc' := 253) rfl rfl rfl rfl).trans ?_
      refine (zq_il hm (pc' := 255) rfl rfl rfl rfl).trans ?_
      refine (zq_v1 hm (pc' := 258) rfl rfl rfl (cls_41_8) rfl rfl).trans (zCI_c rfl (fun r15 s14 => ?_))
      refine (zJ_n rfl).trans ?_
      refine (zq_ic hm (pc' := 259) rfl rfl rfl rfl).trans ?_
      refine (zq_imul hm (pc' := 260) rfl rfl rfl).trans ?_
      exact zq_ri hm rfl rfl
    · refine (zJ_n rfl).trans ?_
      refine (zq_aln hm (pc' := 262) rfl rfl rfl rfl).trans ?_
      refine (zq_il hm (pc' := 264) rfl rfl rfl rfl).trans ?_
      refine (zq_ic hm (pc' := 265) rfl rfl rfl rfl).trans ?_
      refine (zq_iln hm (pc' := 266) rfl rfl rfl rfl).trans ?_
      refine (zq_ic hm (pc' := 267) rfl rfl rfl rfl).trans ?_
      refine (zq_iadd hm (pc' := 268) rfl rfl rfl).trans ?_
      refine (zq_il hm (pc' := 270) rfl rfl rfl rfl).trans ?_
      refine (zq_v1 hm (pc' := 273) rfl rfl rfl (cls_41_8) rfl rfl).trans (zCI_c rfl (fun r17 s16 => ?_))
      refine (zJ_n rfl).trans ?_
      exact zq_ri hm rfl rfl
    · refine (zJ_n rfl).trans ?_
      refine (zq_aln hm (pc' := 275) rfl rfl rfl rfl).trans ?_
      refine (zq_il hm (pc' := 277) rfl rfl rfl rfl).trans ?_
      refine (zq_ic hm (pc' := 278) rfl rfl rfl rfl).trans ?_
      refine (zq_iln hm (pc' := 279) rfl rfl rfl rfl).trans ?_
      refine (zq_il hm (pc' := 281) rfl rfl rfl rfl).trans ?_
      refine (zq_v1 hm (pc' := 284) rfl rfl rfl (cls_41_8) rfl rfl).trans (zCI_c rfl (fun r19 s18 => ?_))
      refine (zJ_n rfl).trans ?_
      refine (zq_aln hm (pc' := 285) rfl rfl rfl rfl).trans ?_
      refine (zq_aln hm (pc' := 286) rfl rfl rfl rfl).trans ?_
      refine (zq_gf hm (v := (s18 41 4)) (pc' := 289) rfl lay_41 rfl rfl rfl).trans ?_
      refine (zJ_n rfl).trans ?_
      refine (zq_ic hm (pc' := 290) rfl rfl rfl rfl).trans ?_
      refine (zq_ic hm (pc' := 291) rfl rfl rfl rfl).trans ?_
      refine (zq_il hm (pc' := 293) rfl rfl rfl rfl).trans ?_
      refine (zq_v1 hm (pc' := 296) rfl rfl rfl (cls_41_8) rfl rfl).trans (zCI_c rfl (fun r21 s20 => ?_))
      refine (zJ_n rfl).trans ?_
      refine (zq_isub hm (pc' := 297) rfl rfl rfl).trans ?_
      exact zq_ri hm rfl rfl
    · refine (zJ_n rfl).trans ?_
      refine (zq_aln hm (pc' := 299) rfl rfl rfl rfl).trans ?_
      refine (zq_il hm (pc' := 301) rfl rfl rfl rfl).trans ?_
      refine (zq_ic hm (pc' := 302) rfl rfl rfl rfl).trans ?_
      refine (zq_iln hm (pc' := 303) rfl rfl rfl rfl).trans ?_
      refine (zq_il hm (pc' := 305) rfl rfl rfl rfl).trans ?_
      refine (zq_v1 hm (pc' := 308) rfl rfl rfl (cls_41_8) rfl rfl).trans (zCI_c rfl (fun r23 s22 => ?_))
      refine (zJ_n rfl).trans ?_
      refine (zq_ic hm (pc' := 309) rfl rfl rfl rfl).trans ?_
      refine (zq_ixor hm (pc' := 310) rfl rfl rfl).trans ?_
      exact zq_ri hm rfl rfl
    · refine (zJ_n rfl).trans ?_
      refine (zq_aln hm (pc' := 312) rfl rfl rfl rfl).trans ?_
      refine (zq_il hm (pc' := 314) rfl rfl rfl rfl).trans ?_
      refine (zq_ic hm (pc' := 315) rfl rfl rfl rfl).trans ?_
      refine (zq_iln hm (pc' := 316) rfl rfl rfl rfl).trans ?_
      refine (zq_il hm (pc' := 318) rfl rfl rfl rfl).trans ?_
      refine (zq_v1 hm (pc' := 321) rfl rfl rfl (cls_41_8) rfl rfl).trans (zCI_c rfl (fun r25 s24 => ?_))
      refine (zJ_n rfl).trans ?_
      refine (zq_ic hm (pc' := 322) rfl rfl rfl rfl).trans ?_
      refine (zq_imul hm (pc' := 323) rfl rfl rfl).trans ?_
      exact zq_ri hm rfl rfl
    · refine (zJ_n rfl).trans ?_
      refine (zq_aln hm (pc' := 325) rfl rfl rfl rfl).trans ?_
      refine (zq_il hm (pc' := 327) rfl rfl rfl rfl).trans ?_
      refine (zq_ic hm (pc' := 328) rfl rfl rfl rfl).trans ?_
      refine (zq_iln hm (pc' := 329) rfl rfl rfl rfl).trans ?_
      refine (zq_il hm (pc' := 331) rfl rfl rfl rfl).trans ?_
      refine (zq_v1 hm (pc' := 334) rfl rfl rfl (cls_41_8) rfl rfl).trans (zCI_c rfl (fun r27 s26 => ?_))
      refine (zJ_n rfl).trans ?_
      refine (zq_aln hm (pc' := 335) rfl rfl rfl rfl).trans ?_
      refine (zq_aln hm (pc' := 336) rfl rfl rfl rfl).trans ?_
      refine (zq_gf hm (v := (s26 41 4)) (pc' := 339) rfl lay_41 rfl rfl rfl).trans ?_
      refine (zJ_n rfl).trans ?_
      refine (zq_ic hm (pc' := 340) rfl rfl rfl rfl).trans ?_
      refine (zq_ic hm (pc' := 341) rfl rfl rfl rfl).trans ?_
      refine (zq_il hm (pc' := 343) rfl rfl rfl rfl).trans ?_
      refine (zq_v1 hm (pc' := 346) rfl rfl rfl (cls_41_8) rfl rfl).trans (zCI_c rfl (fun r29 s28 => ?_))
      refine (zJ_n rfl).trans ?_
      refine (zq_iadd hm (pc' := 347) rfl rfl rfl).trans ?_
      exact zq_ri hm rfl rfl
    · refine (zJ_n rfl).trans ?_
      refine (zq_aln hm (pc' := 349) rfl rfl rfl rfl).trans ?_
      refine (zq_il hm (pc' := 351) rfl rfl rfl rfl).trans ?_
      refine (zq_ic hm (pc' := 352) rfl rfl rfl rfl).trans ?_
      refine (zq_iln hm (pc' := 353) rfl rfl rfl rfl).trans ?_
      refine (zq_il hm (pc' := 355) rfl rfl rfl rfl).trans ?_
      refine (zq_v1 hm (pc' := 358) rfl rfl rfl (cls_41_8) rfl rfl).trans (zCI_c rfl (fun r31 s30 => ?_))
      refine (zJ_n rfl).trans ?_
      refine (zq_ic hm (pc' := 359) rfl rfl rfl rfl).trans ?_
      refine (zq_isub hm (pc' := 360) rfl rfl rfl).trans ?_
      exact zq_ri hm rfl rfl
    · refine (zJ_n rfl).trans ?_
      refine (zq_ic hm (pc' := 362) rfl rfl rfl rfl).trans ?_
      exact zq_ri hm rfl rfl
set_option maxRecDepth 100000 in
set_option maxHeartbeats 4000000 in
theorem e_X9_begin (d : Nat) (x1 : Int) (σ : zF) : zx (d + 1) 87 [.inl (some 17), .inr (.inl x1)] σ = (
zCV LAY (zx d 88 [.inl (some 17)] (zset (zset σ 17 9 x1) 17 5 (zw ((σ 17 5) + 1)))) fun s1 =>
zCV LAY (zx d 255 [.inl (some 21), .inr (.inl (-1))] s1) fun s2 =>
zrv s2) := by
  unfold zx
  have hm := zexec_m zX2 zMT d
  refine (zexec_eq mt_87 _ rfl (LAY, σ) 0).trans ?_
  show zrunL zX2 (zexec zX2 zMT d) K_X9_begin U_X9_begin 0 [some (.inl (some 17)), some (.inr (.inl x1))] [] (LAY, σ) = _
  refine (zq_aln hm (pc' := 1) rfl rfl rfl rfl).trans ?_
  refine (zq_iln hm (pc' := 2) rfl rfl rfl rfl).trans ?_
  refine (zq_pf hm (pc' := 5) rfl lay_17 rfl rfl rfl).trans ?_
  refine (zJ_n rfl).trans ?_
  refine (zq_aln hm (pc' := 6) rfl rfl rfl rfl).trans ?_
  refine (zq_dup hm (pc' := 7) rfl rfl rfl rfl).trans ?_
  refine (zq_gf hm (v := (σ 17 5)) (pc' := 10) rfl lay_17 rfl (zsi (by decide)) rfl).trans ?_
  refine (zJ_n rfl).trans ?_
  refine (zq_ic hm (pc' := 11) rfl rfl rfl rfl).trans ?_
  refine (zq_iadd hm (pc' := 12) rfl rfl rfl).trans ?_
  refine (zq_pf hm (pc' := 15) rfl lay_17 rfl rfl rfl).trans ?_
  refine (zJ_n rfl).trans ?_
  refine (zq_aln hm (pc' := 16) rfl rfl rfl rfl).trans ?_
  refine (zq_v0 hm (pc' := 19) rfl rfl rfl (cls_17_9) rfl rfl).trans (zCV_c rfl (fun s1 => ?_))
  refine (zJ_n rfl).trans ?_
  refine (zq_aln hm (pc' := 20) rfl rfl rfl rfl).trans ?_
  refine (zq_gr hm (pc' := 23) rfl lay_17 rfl rfl).trans ?_
  refine (zJ_n rfl).trans ?_
  refine (zq_ic hm (pc' := 24) rfl rfl rfl rfl).trans ?_
  refine (zq_s0 hm (pc' := 27) rfl rfl rfl rfl rfl rfl).trans (zCV_c rfl (fun s2 => ?_))
  refine (zJ_n rfl).trans ?_
  exact zq_rv hm rfl
set_option maxRecDepth 100000 in
set_option maxHeartbeats 4000000 in
theorem e_X9_moodsAsNow (d : Nat) (σ : zF) : zx (d + 1) 88 [.inl (some 17)] σ = (
if 0 ≤ (12 : Int) ∧ 0 ≤ (0 : Int) ∧ 0 ≤ (0 : Int) ∧ (0 : Int) + 12 ≤ 12 ∧ (0 : Int) + 12 ≤ 12 then (
zrv (zcpy σ 5 0 18 0 12)) else (
none)) := by
  unfold zx
  have hm := zexec_m zX2 zMT d
  refine (zexec_eq mt_88 _ rfl (LAY, σ) 0).trans ?_
  show zrunL zX2 (zexec zX2 zMT d) K_X9_moodsAsNow U_X9_moodsAsNow 0 [some (.inl (some 17))] [] (LAY, σ) = _
  refine (zq_aln hm (pc' := 1) rfl rfl rfl rfl).trans ?_
  refine (zq_gr hm (pc' := 4) rfl lay_17 rfl rfl).trans ?_
  refine (zJ_n rfl).trans ?_
  refine (zq_gr hm (pc' := 7) rfl lay_1 rfl rfl).trans ?_
  refine (zJ_n rfl).trans ?_
  refine (zq_ic hm (pc' := 8) rfl rfl rfl rfl).trans ?_
  refine (zq_aln hm (pc' := 9) rfl rfl rfl rfl).trans ?_
  refine (zq_gr hm (pc' := 12) rfl lay_17 rfl rfl).trans ?_
  refine (zJ_n rfl).trans ?_
  refine (zq_ic hm (pc' := 13) rfl rfl rfl rfl).trans ?_
  refine (zq_bi hm (pc' := 15) rfl rfl rfl rfl).trans ?_
  refine (zq_arc hm (pc' := 18) rfl rfl rfl lay_5 lay_18 rfl rfl).trans (zite ?_ rfl)
  refine (zJ_n rfl).trans ?_
  exact zq_rv hm rfl
set_option maxRecDepth 100000 in
set_option maxHeartbeats 4000000 in
theorem e_X9_isOpen (d : Nat) (x1 : Int) (σ : zF) : zx (d + 1) 89 [.inl (some 17), .inr (.inl x1)] σ = (
if 0 ≤ x1 ∧ x1 < 12 then (
if (σ 7 x1) = 0 then (
if x1 = (σ 17 9) then (
zri 0 σ) else (
zri 1 σ)) else (
zri 0 σ)) else (
none)) := by
  unfold zx
  have hm := zexec_m zX2 zMT d
  refine (zexec_eq mt_89 _ rfl (LAY, σ) 0).trans ?_
  show zrunL zX2 (zexec zX2 zMT d) K_X9_isOpen U_X9_isOpen 0 [some (.inl (some 17)), some (.inr (.inl x1))] [] (LAY, σ) = _
  refine (zq_aln hm (pc' := 1) rfl rfl rfl rfl).trans ?_
  refine (zq_gr hm (pc' := 4) rfl lay_17 rfl rfl).trans ?_
  refine (zJ_n rfl).trans ?_
  refine (zq_gr hm (pc' := 7) rfl lay_1 rfl rfl).trans ?_
  refine (zJ_n rfl).trans ?_
  refine (zq_iln hm (pc' := 8) rfl rfl rfl rfl).trans ?_
  refine (zq_ia hm (v := (σ 7 x1)) (pc' := 9) rfl lay_7 rfl rfl).trans (zite ?_ rfl)
  refine (zJ_n rfl).trans ?_
  refine (zq_zne hm (pc' := 12) rfl rfl).trans (zite ?_ ?_)
  · refine (zJ_n rfl).trans ?_
    refine (zq_iln hm (pc' := 13) rfl rfl rfl rfl).trans ?_
    refine (zq_aln hm (pc' := 14) rfl rfl rfl rfl).trans ?_
    refine (zq_gf hm (v := (σ 17 9)) (pc' := 17) rfl lay_17 rfl rfl rfl).trans ?_
    refine (zJ_n rfl).trans ?_
    refine (zq_ieq hm (pc' := 20) rfl rfl).trans (zite ?_ ?_)
    · refine (zJ_n rfl).trans ?_
      refine (zq_ic hm (pc' := 25) rfl rfl rfl rfl).trans ?_
      exact (zq_rb hm rfl rfl).trans (zif1 (by decide))
    · refine (zJ_n rfl).trans ?_
      refine (zq_ic hm (pc' := 21) rfl rfl rfl rfl).trans ?_
      refine (zq_goto hm rfl rfl).trans ?_
      exact (zq_rb hm rfl rfl).trans (zif1 (by decide))
  · refine (zJ_n rfl).trans ?_
    refine (zq_ic hm (pc' := 25) rfl rfl rfl rfl).trans ?_
    exact (zq_rb hm rfl rfl).trans (zif1 (by decide))
set_option maxRecDepth 100000 in
set_option maxHeartbeats 4000000 in
theorem e_X9_takes (d : Nat) (x1 : Int) (σ : zF) : zx (d + 1) 90 [.inl (some 17), .inr (.inl x1)] σ = (
if 0 ≤ x1 ∧ x1 < 12 then (
if 0 ≤ x1 ∧ x1 < 12 then (
if (σ 6 x1) = (-1) then (
if 0 ≤ zw ((zw ((zw (x1 * 16)) + (zw ((zand (σ 18 x1) 3) * 4)))) + (zand 0 3)) ∧ zw ((zw ((zw (x1 * 16)) + (zw ((zand (σ 18 x1) 3) * 4)))) + (zand 0 3)) < 192 then (
if (σ 20 (zw ((zw ((zw (x1 * 16)) + (zw ((zand (σ 18 x1) 3) * 4)))) + (zand 0 3)))) = zw ((zw ((zw ((zw ((zw ((zw ((σ 17 5) * 19)) + (σ 18 x1))) + 9)) * 19)) + 0)) + 9) then (
if 0 ≤ zw ((zw ((zw (x1 * 16)) + (zw ((zand (σ 18 x1) 3) * 4)))) + (zand 0 3)) ∧ zw ((zw ((zw (x1 * 16)) + (zw ((zand (σ 18 x1) 3) * 4)))) + (zand 0 3)) < 192 then (
zri (σ 19 (zw ((zw ((zw (x1 * 16)) + (zw ((zand (σ 18 x1) 3) * 4)))) + (zand 0 3)))) σ) else (
none)) else (
if 0 ≤ zw ((zw ((zw (x1 * 16)) + (zw ((zand (σ 18 x1) 3) * 4)))) + (zand 0 3)) ∧ zw ((zw ((zw (x1 * 16)) + (zw ((zand (σ 18 x1) 3) * 4)))) + (zand 0 3)) < 192 then (
zCI LAY (zx d 91 [.inl (some 17), .inr (.inl x1), .inr (.inl (σ 18 x1)), .inr (.inl 0)] (zset σ 20 (zw ((zw ((zw (x1 * 16)) + (zw ((zand (σ 18 x1) 3) * 4)))) + (zand 0 3))) (zw ((zw ((zw ((zw ((zw ((zw ((σ 17 5) * 19)) + (σ 18 x1))) + 9)) * 19)) + 0)) + 9)))) fun r4 s3 =>
if 0 ≤ zw ((zw ((zw (x1 * 16)) + (zw ((zand (σ 18 x1) 3) * 4)))) + (zand 0 3)) ∧ zw ((zw ((zw (x1 * 16)) + (zw ((zand (σ 18 x1) 3) * 4)))) + (zand 0 3)) < 192 then (
if 0 ≤ zw ((zw ((zw (x1 * 16)) + (zw ((zand (σ 18 x1) 3) * 4)))) + (zand 0 3)) ∧ zw ((zw ((zw (x1 * 16)) + (zw ((zand (σ 18 x1) 3) * 4)))) + (zand 0 3)) < 192 then (
zri ((zset s3 19 (zw ((zw ((zw (x1 * 16)) + (zw ((zand (σ 18 x1) 3) * 4)))) + (zand 0 3))) r4) 19 (zw ((zw ((zw (x1 * 16)) + (zw ((zand (σ 18 x1) 3) * 4)))) + (zand 0 3)))) (zset s3 19 (zw ((zw ((zw (x1 * 16)) + (zw ((zand (σ 18 x1) 3) * 4)))) + (zand 0 3))) r4)) else (
none)) else (
none)) else (
none))) else (
none)) else (
if 0 ≤ (σ 6 x1) ∧ (σ 6 x1) < 12 then (
if 0 ≤ zw ((zw ((zw (x1 * 16)) + (zw ((zand (σ 18 x1) 3) * 4)))) + (zand (σ 18 (σ 6 x1)) 3)) ∧ zw ((zw ((zw (x1 * 16)) + (zw ((zand (σ 18 x1) 3) * 4)))) + (zand (σ 18 (σ 6 x1)) 3)) < 192 then (
if (σ 20 (zw ((zw ((zw (x1 * 16)) + (zw ((zand (σ 18 x1) 3) * 4)))) + (zand (σ 18 (σ 6 x1)) 3)))) = zw ((zw ((zw ((zw ((zw ((zw ((σ 17 5) * 19)) + (σ 18 x1))) + 9)) * 19)) + (σ 18 (σ 6 x1)))) + 9) then (
if 0 ≤ zw ((zw ((zw (x1 * 16)) + (zw ((zand (σ 18 x1) 3) * 4)))) + (zand (σ 18 (σ 6 x1)) 3)) ∧ zw ((zw ((zw (x1 * 16)) + (zw ((zand (σ 18 x1) 3) * 4)))) + (zand (σ 18 (σ 6 x1)) 3)) < 192 then (
zri (σ 19 (zw ((zw ((zw (x1 * 16)) + (zw ((zand (σ 18 x1) 3) * 4)))) + (zand (σ 18 (σ 6 x1)) 3)))) σ) else (
none)) else (
if 0 ≤ zw ((zw ((zw (x1 * 16)) + (zw ((zand (σ 18 x1) 3) * 4)))) + (zand (σ 18 (σ 6 x1)) 3)) ∧ zw ((zw ((zw (x1 * 16)) + (zw ((zand (σ 18 x1) 3) * 4)))) + (zand (σ 18 (σ 6 x1)) 3)) < 192 then (
zCI LAY (zx d 91 [.inl (some 17), .inr (.inl x1), .inr (.inl (σ 18 x1)), .inr (.inl (σ 18 (σ 6 x1)))] (zset σ 20 (zw ((zw ((zw (x1 * 16)) + (zw ((zand (σ 18 x1) 3) * 4)))) + (zand (σ 18 (σ 6 x1)) 3))) (zw ((zw ((zw ((zw ((zw ((zw ((σ 17 5) * 19)) + (σ 18 x1))) + 9)) * 19)) + (σ 18 (σ 6 x1)))) + 9)))) fun r2 s1 =>
if 0 ≤ zw ((zw ((zw (x1 * 16)) + (zw ((zand (σ 18 x1) 3) * 4)))) + (zand (σ 18 (σ 6 x1)) 3)) ∧ zw ((zw ((zw (x1 * 16)) + (zw ((zand (σ 18 x1) 3) * 4)))) + (zand (σ 18 (σ 6 x1)) 3)) < 192 then (
if 0 ≤ zw ((zw ((zw (x1 * 16)) + (zw ((zand (σ 18 x1) 3) * 4)))) + (zand (σ 18 (σ 6 x1)) 3)) ∧ zw ((zw ((zw (x1 * 16)) + (zw ((zand (σ 18 x1) 3) * 4)))) + (zand (σ 18 (σ 6 x1)) 3)) < 192 then (
zri ((zset s1 19 (zw ((zw ((zw (x1 * 16)) + (zw ((zand (σ 18 x1) 3) * 4)))) + (zand (σ 18 (σ 6 x1)) 3))) r2) 19 (zw ((zw ((zw (x1 * 16)) + (zw ((zand (σ 18 x1) 3) * 4)))) + (zand (σ 18 (σ 6 x1)) 3)))) (zset s1 19 (zw ((zw ((zw (x1 * 16)) + (zw ((zand (σ 18 x1) 3) * 4)))) + (zand (σ 18 (σ 6 x1)) 3))) r2)) else (
none)) else (
none)) else (
none))) else (
none)) else (
none))) else (
none)) else (
none)) := by
  unfold zx
  have hm := zexec_m zX2 zMT d
  refine (zexec_eq mt_90 _ rfl (LAY, σ) 0).trans ?_
  show zrunL zX2 (zexec zX2 zMT d) K_X9_takes U_X9_takes 0 [some (.inl (some 17)), some (.inr (.inl x1)), none, none, none, none, none] [] (LAY, σ) = _
  refine (zq_aln hm (pc' := 1) rfl rfl rfl rfl).trans ?_
  refine (zq_gr hm (pc' := 4) rfl lay_17 rfl rfl).trans ?_
  refine (zJ_n rfl).trans ?_
  refine (zq_iln hm (pc' := 5) rfl rfl rfl rfl).trans ?_
  refine (zq_ia hm (v := (σ 18 x1)) (pc' := 6) rfl lay_18 rfl rfl).trans (zite ?_ rfl)
  refine (zJ_n rfl).trans ?_
  refine (zq_isn hm (ls' := [some (.inl (some 17)), some (.inr (.inl x1)), some (.inr (.inl (σ 18 x1))), none, none, none, none]) (pc' := 7) rfl rfl rfl rfl).trans ?_
  refine (zq_aln hm (pc' := 8) rfl rfl rfl rfl).trans ?_
  refine (zq_gr hm (pc' := 11) rfl lay_17 rfl rfl).trans ?_
  refine (zJ_n rfl).trans ?_
  refine (zq_gr hm (pc' := 14) rfl lay_1 rfl rfl).trans ?_
  refine (zJ_n rfl).trans ?_
  refine (zq_iln hm (pc' := 15) rfl rfl rfl rfl).trans ?_
  refine (zq_ia hm (v := (σ 6 x1)) (pc' := 16) rfl lay_6 rfl rfl).trans (zite ?_ rfl)
  refine (zJ_n rfl).trans ?_
  refine (zq_isn hm (ls' := [some (.inl (some 17)), some (.inr (.inl x1)), some (.inr (.inl (σ 18 x1))), some (.inr (.inl (σ 6 x1))), none, none, none]) (pc' := 17) rfl rfl rfl rfl).trans ?_
  refine (zq_iln hm (pc' := 18) rfl rfl rfl rfl).trans ?_
  refine (zq_ic hm (pc' := 19) rfl rfl rfl rfl).trans ?_
  refine (zq_ine hm (pc' := 22) rfl rfl).trans (zite ?_ ?_)
  · refine (zJ_n rfl).trans ?_
    refine (zq_ic hm (pc' := 23) rfl rfl rfl rfl).trans ?_
    refine (zq_goto hm rfl rfl).trans ?_
    refine (zq_is hm (ls' := [some (.inl (some 17)), some (.inr (.inl x1)), some (.inr (.inl (σ 18 x1))), some (.inr (.inl (σ 6 x1))), some (.inr (.inl 0)), none, none]) (pc' := 34) rfl rfl rfl rfl).trans ?_
    refine (zq_iln hm (pc' := 35) rfl rfl rfl rfl).trans ?_
    refine (zq_bi hm (pc' := 37) rfl rfl rfl rfl).trans ?_
    refine (zq_imul hm (pc' := 38) rfl rfl rfl).trans ?_
    refine (zq_iln hm (pc' := 39) rfl rfl rfl rfl).trans ?_
    refine (zq_ic hm (pc' := 40) rfl rfl rfl rfl).trans ?_
    refine (zq_iand hm (pc' := 41) rfl rfl rfl).trans ?_
    refine (zq_ic hm (pc' := 42) rfl rfl rfl rfl).trans ?_
    refine (zq_imul hm (pc' := 43) rfl rfl rfl).trans ?_
    refine (zq_iadd hm (pc' := 44) rfl rfl rfl).trans ?_
    refine (zq_il hm (pc' := 46) rfl rfl rfl rfl).trans ?_
    refine (zq_ic hm (pc' := 47) rfl rfl rfl rfl).trans ?_
    refine (zq_iand hm (pc' := 48) rfl rfl rfl).trans ?_
    refine (zq_iadd hm (pc' := 49) rfl rfl rfl).trans ?_
    refine (zq_is hm (ls' := [some (.inl (some 17)), some (.inr (.inl x1)), some (.inr (.inl (σ 18 x1))), some (.inr (.inl (σ 6 x1))), some (.inr (.inl 0)), some (.inr (.inl (zw ((zw ((zw (x1 * 16)) + (zw ((zand (σ 18 x1) 3) * 4)))) + (zand 0 3))))), none]) (pc' := 51) rfl rfl rfl rfl).trans ?_
    refine (zq_aln hm (pc' := 52) rfl rfl rfl rfl).trans ?_
    refine (zq_gf hm (v := (σ 17 5)) (pc' := 55) rfl lay_17 rfl rfl rfl).trans ?_
    refine (zJ_n rfl).trans ?_
    refine (zq_bi hm (pc' := 57) rfl rfl rfl rfl).trans ?_
    refine (zq_imul hm (pc' := 58) rfl rfl rfl).trans ?_
    refine (zq_iln hm (pc' := 59) rfl rfl rfl rfl).trans ?_
    refine (zq_iadd hm (pc' := 60) rfl rfl rfl).trans ?_
    refine (zq_bi hm (pc' := 62) rfl rfl rfl rfl).trans ?_
    refine (zq_iadd hm (pc' := 63) rfl rfl rfl).trans ?_
    refine (zq_bi hm (pc' := 65) rfl rfl rfl rfl).trans ?_
    refine (zq_imul hm (pc' := 66) rfl rfl rfl).trans ?_
    refine (zq_il hm (pc' := 68) rfl rfl rfl rfl).trans ?_
    refine (zq_iadd hm (pc' := 69) rfl rfl rfl).trans ?_
    refine (zq_bi hm (pc' := 71) rfl rfl rfl rfl).trans ?_
    refine (zq_iadd hm (pc' := 72) rfl rfl rfl).trans ?_
    refine (zq_is hm (ls' := [some (.inl (some 17)), some (.inr (.inl x1)), some (.inr (.inl (σ 18 x1))), some (.inr (.inl (σ 6 x1))), some (.inr (.inl 0)), some (.inr (.inl (zw ((zw ((zw (x1 * 16)) + (zw ((zand (σ 18 x1) 3) * 4)))) + (zand 0 3))))), some (.inr (.inl (zw ((zw ((zw ((zw ((zw ((zw ((σ 17 5) * 19)) + (σ 18 x1))) + 9)) * 19)) + 0)) + 9))))]) (pc' := 74) rfl rfl rfl rfl).trans ?_
    refine (zq_aln hm (pc' := 75) rfl rfl rfl rfl).trans ?_
    refine (zq_gr hm (pc' := 78) rfl lay_17 rfl rfl).trans ?_
    refine (zJ_n rfl).trans ?_
    refine (zq_il hm (pc' := 80) rfl rfl rfl rfl).trans ?_
    refine (zq_ia hm (v := (σ 20 (zw ((zw ((zw (x1 * 16)) + (zw ((zand (σ 18 x1) 3) * 4)))) + (zand 0 3))))) (pc' := 81) rfl lay_20 rfl rfl).trans (zite ?_ rfl)
    refine (zJ_n rfl).trans ?_
    refine (zq_il hm (pc' := 83) rfl rfl rfl rfl).trans ?_
    refine (zq_ieq hm (pc' := 86) rfl rfl).trans (zite ?_ ?_)
    · refine (zJ_n rfl).trans ?_
      refine (zq_aln hm (pc' := 111) rfl rfl rfl rfl).trans ?_
      refine (zq_gr hm (pc' := 114) rfl lay_17 rfl rfl).trans ?_
      refine (zJ_n rfl).trans ?_
      refine (zq_il hm (pc' := 116) rfl rfl rfl rfl).trans ?_
      refine (zq_ia hm (v := (σ 19 (zw ((zw ((zw (x1 * 16)) + (zw ((zand (σ 18 x1) 3) * 4)))) + (zand 0 3))))) (pc' := 117) rfl lay_19 rfl rfl).trans (zite ?_ rfl)
      refine (zJ_n rfl).trans ?_
      exact zq_ri hm rfl rfl
    · refine (zJ_n rfl).trans ?_
      refine (zq_aln hm (pc' := 87) rfl rfl rfl rfl).trans ?_
      refine (zq_gr hm (pc' := 90) rfl lay_17 rfl rfl).trans ?_
      refine (zJ_n rfl).trans ?_
      refine (zq_il hm (pc' := 92) rfl rfl rfl rfl).trans ?_
      refine (zq_il hm (pc' := 94) rfl rfl rfl rfl).trans ?_
      refine (zq_ist hm (pc' := 95) rfl lay_20 rfl).trans (zite ?_ rfl)
      refine (zJ_n rfl).trans ?_
      refine (zq_aln hm (pc' := 96) rfl rfl rfl rfl).trans ?_
      refine (zq_gr hm (pc' := 99) rfl lay_17 rfl rfl).trans ?_
      refine (zJ_n rfl).trans ?_
      refine (zq_il hm (pc' := 101) rfl rfl rfl rfl).trans ?_
      refine (zq_aln hm (pc' := 102) rfl rfl rfl rfl).trans ?_
      refine (zq_iln hm (pc' := 103) rfl rfl rfl rfl).trans ?_
      refine (zq_iln hm (pc' := 104) rfl rfl rfl rfl).trans ?_
      refine (zq_il hm (pc' := 106) rfl rfl rfl rfl).trans ?_
      refine (zq_v1 hm (pc' := 109) rfl rfl rfl (cls_17_9) rfl rfl).trans (zCI_c rfl (fun r4 s3 => ?_))
      refine (zJ_n rfl).trans ?_
      refine (zq_ist hm (pc' := 110) rfl lay_19 rfl).trans (zite ?_ rfl)
      refine (zJ_n rfl).trans ?_
      refine (zq_aln hm (pc' := 111) rfl rfl rfl rfl).trans ?_
      refine (zq_gr hm (pc' := 114) rfl lay_17 rfl rfl).trans ?_
      refine (zJ_n rfl).trans ?_
      refine (zq_il hm (pc' := 116) rfl rfl rfl rfl).trans ?_
      refine (zq_ia hm (v := ((zset s3 19 (zw ((zw ((zw (x1 * 16)) + (zw ((zand (σ 18 x1) 3) * 4)))) + (zand 0 3))) r4) 19 (zw ((zw ((zw (x1 * 16)) + (zw ((zand (σ 18 x1) 3) * 4)))) + (zand 0 3))))) (pc' := 117) rfl lay_19 rfl rfl).trans (zite ?_ rfl)
      refine (zJ_n rfl).trans ?_
      exact zq_ri hm rfl rfl
  · refine (zJ_n rfl).trans ?_
    refine (zq_aln hm (pc' := 27) rfl rfl rfl rfl).trans ?_
    refine (zq_gr hm (pc' := 30) rfl lay_17 rfl rfl).trans ?_
    refine (zJ_n rfl).trans ?_
    refine (zq_iln hm (pc' := 31) rfl rfl rfl rfl).trans ?_
    refine (zq_ia hm (v := (σ 18 (σ 6 x1))) (pc' := 32) rfl lay_18 rfl rfl).trans (zite ?_ rfl)
    refine (zJ_n rfl).trans ?_
    refine (zq_is hm (ls' := [some (.inl (some 17)), some (.inr (.inl x1)), some (.inr (.inl (σ 18 x1))), some (.inr (.inl (σ 6 x1))), some (.inr (.inl (σ 18 (σ 6 x1)))), none, none]) (pc' := 34) rfl rfl rfl rfl).trans ?_
    refine (zq_iln hm (pc' := 35) rfl rfl rfl rfl).trans ?_
    refine (zq_bi hm (pc' := 37) rfl rfl rfl rfl).trans ?_
    refine (zq_imul hm (pc' := 38) rfl rfl rfl).trans ?_
    refine (zq_iln hm (pc' := 39) rfl rfl rfl rfl).trans ?_
    refine (zq_ic hm (pc' := 40) rfl rfl rfl rfl).trans ?_
    refine (zq_iand hm (pc' := 41) rfl rfl rfl).trans ?_
    refine (zq_ic hm (pc' := 42) rfl rfl rfl rfl).trans ?_
    refine (zq_imul hm (pc' := 43) rfl rfl rfl).trans ?_
    refine (zq_iadd hm (pc' := 44) rfl rfl rfl).trans ?_
    refine (zq_il hm (pc' := 46) rfl rfl rfl rfl).trans ?_
    refine (zq_ic hm (pc' := 47) rfl rfl rfl rfl).trans ?_
    refine (zq_iand hm (pc' := 48) rfl rfl rfl).trans ?_
    refine (zq_iadd hm (pc' := 49) rfl rfl rfl).trans ?_
    refine (zq_is hm (ls' := [some (.inl (some 17)), some (.inr (.inl x1)), some (.inr (.inl (σ 18 x1))), some (.inr (.inl (σ 6 x1))), some (.inr (.inl (σ 18 (σ 6 x1)))), some (.inr (.inl (zw ((zw ((zw (x1 * 16)) + (zw ((zand (σ 18 x1) 3) * 4)))) + (zand (σ 18 (σ 6 x1)) 3))))), none]) (pc' := 51) rfl rfl rfl rfl).trans ?_
    refine (zq_aln hm (pc' := 52) rfl rfl rfl rfl).trans ?_
    refine (zq_gf hm (v := (σ 17 5)) (pc' := 55) rfl lay_17 rfl rfl rfl).trans ?_
    refine (zJ_n rfl).trans ?_
    refine (zq_bi hm (pc' := 57) rfl rfl rfl rfl).trans ?_
    refine (zq_imul hm (pc' := 58) rfl rfl rfl).trans ?_
    refine (zq_iln hm (pc' := 59) rfl rfl rfl rfl).trans ?_
    refine (zq_iadd hm (pc' := 60) rfl rfl rfl).trans ?_
    refine (zq_bi hm (pc' := 62) rfl rfl rfl rfl).trans ?_
    refine (zq_iadd hm (pc' := 63) rfl rfl rfl).trans ?_
    refine (zq_bi hm (pc' := 65) rfl rfl rfl rfl).trans ?_
    refine (zq_imul hm (pc' := 66) rfl rfl rfl).trans ?_
    refine (zq_il hm (pc' := 68) rfl rfl rfl rfl).trans ?_
    refine (zq_iadd hm (pc' := 69) rfl rfl rfl).trans ?_
    refine (zq_bi hm (pc' := 71) rfl rfl rfl rfl).trans ?_
    refine (zq_iadd hm (pc' := 72) rfl rfl rfl).trans ?_
    refine (zq_is hm (ls' := [some (.inl (some 17)), some (.inr (.inl x1)), some (.inr (.inl (σ 18 x1))), some (.inr (.inl (σ 6 x1))), some (.inr (.inl (σ 18 (σ 6 x1)))), some (.inr (.inl (zw ((zw ((zw (x1 * 16)) + (zw ((zand (σ 18 x1) 3) * 4)))) + (zand (σ 18 (σ 6 x1)) 3))))), some (.inr (.inl (zw ((zw ((zw ((zw ((zw ((zw ((σ 17 5) * 19)) + (σ 18 x1))) + 9)) * 19)) + (σ 18 (σ 6 x1)))) + 9))))]) (pc' := 74) rfl rfl rfl rfl).trans ?_
    refine (zq_aln hm (pc' := 75) rfl rfl rfl rfl).trans ?_
    refine (zq_gr hm (pc' := 78) rfl lay_17 rfl rfl).trans ?_
    refine (zJ_n rfl).trans ?_
    refine (zq_il hm (pc' := 80) rfl rfl rfl rfl).trans ?_
    refine (zq_ia hm (v := (σ 20 (zw ((zw ((zw (x1 * 16)) + (zw ((zand (σ 18 x1) 3) * 4)))) + (zand (σ 18 (σ 6 x1)) 3))))) (pc' := 81) rfl lay_20 rfl rfl).trans (zite ?_ rfl)
    refine (zJ_n rfl).trans ?_
    refine (zq_il hm (pc' := 83) rfl rfl rfl rfl).trans ?_
    refine (zq_ieq hm (pc' := 86) rfl rfl).trans (zite ?_ ?_)
    · refine (zJ_n rfl).trans ?_
      refine (zq_aln hm (pc' := 111) rfl rfl rfl rfl).trans ?_
      refine (zq_gr hm (pc' := 114) rfl lay_17 rfl rfl).trans ?_
      refine (zJ_n rfl).trans ?_
      refine (zq_il hm (pc' := 116) rfl rfl rfl rfl).trans ?_
      refine (zq_ia hm (v := (σ 19 (zw ((zw ((zw (x1 * 16)) + (zw ((zand (σ 18 x1) 3) * 4)))) + (zand (σ 18 (σ 6 x1)) 3))))) (pc' := 117) rfl lay_19 rfl rfl).trans (zite ?_ rfl)
      refine (zJ_n rfl).trans ?_
      exact zq_ri hm rfl rfl
    · refine (zJ_n rfl).trans ?_
      refine (zq_aln hm (pc' := 87) rfl rfl rfl rfl).trans ?_
      refine (zq_gr hm (pc' := 90) rfl lay_17 rfl rfl).trans ?_
      refine (zJ_n rfl).trans ?_
      refine (zq_il hm (pc' := 92) rfl rfl rfl rfl).trans ?_
      refine (zq_il hm (pc' := 94) rfl rfl rfl rfl).trans ?_
      refine (zq_ist hm (pc' := 95) rfl lay_20 rfl).trans (zite ?_ rfl)
      refine (zJ_n rfl).trans ?_
      refine (zq_aln hm (pc' := 96) rfl rfl rfl rfl).trans ?_
      refine (zq_gr hm (pc' := 99) rfl lay_17 rfl rfl).trans ?_
      refine (zJ_n rfl).trans ?_
      refine (zq_il hm (pc' := 101) rfl rfl rfl rfl).trans ?_
      refine (zq_aln hm (pc' := 102) rfl rfl rfl rfl).trans ?_
      refine (zq_iln hm (pc' := 103) rfl rfl rfl rfl).trans ?_
      refine (zq_iln hm (pc' := 104) rfl rfl rfl rfl).trans ?_
      refine (zq_il hm (pc' := 106) rfl rfl rfl rfl).trans ?_
      refine (zq_v1 hm (pc' := 109) rfl rfl rfl (cls_17_9) rfl rfl).trans (zCI_c rfl (fun r2 s1 => ?_))
      refine (zJ_n rfl).trans ?_
      refine (zq_ist hm (pc' := 110) rfl lay_19 rfl).trans (zite ?_ rfl)
      refine (zJ_n rfl).trans ?_
      refine (zq_aln hm (pc' := 111) rfl rfl rfl rfl).trans ?_
      refine (zq_gr hm (pc' := 114) rfl lay_17 rfl rfl).trans ?_
      refine (zJ_n rfl).trans ?_
      refine (zq_il hm (pc' := 116) rfl rfl rfl rfl).trans ?_
      refine (zq_ia hm (v := ((zset s1 19 (zw ((zw ((zw (x1 * 16)) + (zw ((zand (σ 18 x1) 3) * 4)))) + (zand (σ 18 (σ 6 x1)) 3))) r2) 19 (zw ((zw ((zw (x1 * 16)) + (zw ((zand (σ 18 x1) 3) * 4)))) + (zand (σ 18 (σ 6 x1)) 3))))) (pc' := 117) rfl lay_19 rfl rfl).trans (zite ?_ rfl)
      refine (zJ_n rfl).trans ?_
      exact zq_ri hm rfl rfl
set_option maxRecDepth 100000 in
set_option maxHeartbeats 4000000 in
theorem e_X9_workOut (d : Nat) (x1 : Int) (x2 : Int) (x3 : Int) (σ : zF) : zx (d + 1) 91 [.inl (some 17), .inr (.inl x1), .inr (.inl x2), .inr (.inl x3)] σ = (
if 0 ≤ x1 ∧ x1 < 12 then (
if (σ 21 x1) = (-1) then (
zCI LAY (zx d 92 [.inl (some 17), .inr (.inl x1)] σ) fun r4 s3 =>
if 0 ≤ x1 ∧ x1 < 12 then (
if 0 ≤ (4 : Int) ∧ 4 < 5 then (
if 0 ≤ x1 ∧ x1 < 12 then (
if 0 ≤ x1 ∧ x1 < 12 then (
zCI LAY (zx d 10 [.inl (some 14), .inr (.inl (s3 4 x1)), .inr (.inl x2), .inr (.inl x3), .inr (.inl (zmin 99 (s3 10 4))), .inr (.inl x1), .inr (.inl ((zset s3 21 x1 r4) 21 x1))] (zset s3 21 x1 r4)) fun r6 s5 =>
zri (zmax 1 (zmin 99 r6)) s5) else (
none)) else (
none)) else (
none)) else (
none)) else (
if 0 ≤ (4 : Int) ∧ 4 < 5 then (
if 0 ≤ x1 ∧ x1 < 12 then (
if 0 ≤ x1 ∧ x1 < 12 then (
zCI LAY (zx d 10 [.inl (some 14), .inr (.inl (σ 4 x1)), .inr (.inl x2), .inr (.inl x3), .inr (.inl (zmin 99 (σ 10 4))), .inr (.inl x1), .inr (.inl (σ 21 x1))] σ) fun r2 s1 =>
zri (zmax 1 (zmin 99 r2)) s1) else (
none)) else (
none)) else (
none))) else (
none)) := by
  unfold zx
  have hm := zexec_m zX2 zMT d
  refine (zexec_eq mt_91 _ rfl (LAY, σ) 0).trans ?_
  show zrunL zX2 (zexec zX2 zMT d) K_X9_workOut U_X9_workOut 0 [some (.inl (some 17)), some (.inr (.inl x1)), some (.inr (.inl x2)), some (.inr (.inl x3)), none, none] [] (LAY, σ) = _
  refine (zq_aln hm (pc' := 1) rfl rfl rfl rfl).trans ?_
  refine (zq_gr hm (pc' := 4) rfl lay_17 rfl rfl).trans ?_
  refine (zJ_n rfl).trans ?_
  refine (zq_iln hm (pc' := 5) rfl rfl rfl rfl).trans ?_
  refine (zq_ia hm (v := (σ 21 x1)) (pc' := 6) rfl lay_21 rfl rfl).trans (zite ?_ rfl)
  refine (zJ_n rfl).trans ?_
  refine (zq_ic hm (pc' := 7) rfl rfl rfl rfl).trans ?_
  refine (zq_ine hm (pc' := 10) rfl rfl).trans (zite ?_ ?_)
  · refine (zJ_n rfl).trans ?_
    refine (zq_aln hm (pc' := 11) rfl rfl rfl rfl).trans ?_
    refine (zq_gr hm (pc' := 14) rfl lay_17 rfl rfl).trans ?_
    refine (zJ_n rfl).trans ?_
    refine (zq_iln hm (pc' := 15) rfl rfl rfl rfl).trans ?_
    refine (zq_aln hm (pc' := 16) rfl rfl rfl rfl).trans ?_
    refine (zq_iln hm (pc' := 17) rfl rfl rfl rfl).trans ?_
    refine (zq_v1 hm (pc' := 20) rfl rfl rfl (cls_17_9) rfl rfl).trans (zCI_c rfl (fun r4 s3 => ?_))
    refine (zJ_n rfl).trans ?_
    refine (zq_ist hm (pc' := 21) rfl lay_21 rfl).trans (zite ?_ rfl)
    refine (zJ_n rfl).trans ?_
    refine (zq_bi hm (pc' := 23) rfl rfl rfl rfl).trans ?_
    refine (zq_aln hm (pc' := 24) rfl rfl rfl rfl).trans ?_
    refine (zq_gr hm (pc' := 27) rfl lay_17 rfl rfl).trans ?_
    refine (zJ_n rfl).trans ?_
    refine (zq_gr hm (pc' := 30) rfl lay_1 rfl rfl).trans ?_
    refine (zJ_n rfl).trans ?_
    refine (zq_ic hm (pc' := 31) rfl rfl rfl rfl).trans ?_
    refine (zq_ia hm (v := (s3 10 4)) (pc' := 32) rfl lay_10 (zsn rfl) rfl).trans (zite ?_ rfl)
    refine (zJ_n rfl).trans ?_
    refine (zq_min hm (pc' := 35) rfl rfl rfl rfl).trans ?_
    refine (zJ_n rfl).trans ?_
    refine (zq_is hm (ls' := [some (.inl (some 17)), some (.inr (.inl x1)), some (.inr (.inl x2)), some (.inr (.inl x3)), some (.inr (.inl (zmin 99 (s3 10 4)))), none]) (pc' := 37) rfl rfl rfl rfl).trans ?_
    refine (zq_aln hm (pc' := 38) rfl rfl rfl rfl).trans ?_
    refine (zq_gr hm (pc' := 41) rfl lay_17 rfl rfl).trans ?_
    refine (zJ_n rfl).trans ?_
    refine (zq_aln hm (pc' := 42) rfl rfl rfl rfl).trans ?_
    refine (zq_gr hm (pc' := 45) rfl lay_17 rfl rfl).trans ?_
    refine (zJ_n rfl).trans ?_
    refine (zq_gr hm (pc' := 48) rfl lay_1 rfl rfl).trans ?_
    refine (zJ_n rfl).trans ?_
    refine (zq_iln hm (pc' := 49) rfl rfl rfl rfl).trans ?_
    refine (zq_ia hm (v := (s3 4 x1)) (pc' := 50) rfl lay_4 (zsn rfl) rfl).trans (zite ?_ rfl)
    refine (zJ_n rfl).trans ?_
    refine (zq_iln hm (pc' := 51) rfl rfl rfl rfl).trans ?_
    refine (zq_iln hm (pc' := 52) rfl rfl rfl rfl).trans ?_
    refine (zq_il hm (pc' := 54) rfl rfl rfl rfl).trans ?_
    refine (zq_iln hm (pc' := 55) rfl rfl rfl rfl).trans ?_
    refine (zq_aln hm (pc' := 56) rfl rfl rfl rfl).trans ?_
    refine (zq_gr hm (pc' := 59) rfl lay_17 rfl rfl).trans ?_
    refine (zJ_n rfl).trans ?_
    refine (zq_iln hm (pc' := 60) rfl rfl rfl rfl).trans ?_
    refine (zq_ia hm (v := ((zset s3 21 x1 r4) 21 x1)) (pc' := 61) rfl lay_21 rfl rfl).trans (zite ?_ rfl)
    refine (zJ_n rfl).trans ?_
    refine (zq_v1 hm (pc' := 64) rfl rfl rfl (cls_14_2) rfl rfl).trans (zCI_c rfl (fun r6 s5 => ?_))
    refine (zJ_n rfl).trans ?_
    refine (zq_is hm (ls' := [some (.inl (some 17)), some (.inr (.inl x1)), some (.inr (.inl x2)), some (.inr (.inl x3)), some (.inr (.inl (zmin 99 (s3 10 4)))), some (.inr (.inl r6))]) (pc' := 66) rfl rfl rfl rfl).trans ?_
    refine (zq_ic hm (pc' := 67) rfl rfl rfl rfl).trans ?_
    refine (zq_bi hm (pc' := 69) rfl rfl rfl rfl).trans ?_
    refine (zq_il hm (pc' := 71) rfl rfl rfl rfl).trans ?_
    refine (zq_min hm (pc' := 74) rfl rfl rfl rfl).trans ?_
    refine (zJ_n rfl).trans ?_
    refine (zq_max hm (pc' := 77) rfl rfl rfl rfl).trans ?_
    refine (zJ_n rfl).trans ?_
    exact zq_ri hm rfl rfl
  · refine (zJ_n rfl).trans ?_
    refine (zq_bi hm (pc' := 23) rfl rfl rfl rfl).trans ?_
    refine (zq_aln hm (pc' := 24) rfl rfl rfl rfl).trans ?_
    refine (zq_gr hm (pc' := 27) rfl lay_17 rfl rfl).trans ?_
    refine (zJ_n rfl).trans ?_
    refine (zq_gr hm (pc' := 30) rfl lay_1 rfl rfl).trans ?_
    refine (zJ_n rfl).trans ?_
    refine (zq_ic hm (pc' := 31) rfl rfl rfl rfl).trans ?_
    refine (zq_ia hm (v := (σ 10 4)) (pc' := 32) rfl lay_10 rfl rfl).trans (zite ?_ rfl)
    refine (zJ_n rfl).trans ?_
    refine (zq_min hm (pc' := 35) rfl rfl rfl rfl).trans ?_
    refine (zJ_n rfl).trans ?_
    refine (zq_is hm (ls' := [some (.inl (some 17)), some (.inr (.inl x1)), some (.inr (.inl x2)), some (.inr (.inl x3)), some (.inr (.inl (zmin 99 (σ 10 4)))), none]) (pc' := 37) rfl rfl rfl rfl).trans ?_
    refine (zq_aln hm (pc' := 38) rfl rfl rfl rfl).trans ?_
    refine (zq_gr hm (pc' := 41) rfl lay_17 rfl rfl).trans ?_
    refine (zJ_n rfl).trans ?_
    refine (zq_aln hm (pc' := 42) rfl rfl rfl rfl).trans ?_
    refine (zq_gr hm (pc' := 45) rfl lay_17 rfl rfl).trans ?_
    refine (zJ_n rfl).trans ?_
    refine (zq_gr hm (pc' := 48) rfl lay_1 rfl rfl).trans ?_
    refine (zJ_n rfl).trans ?_
    refine (zq_iln hm (pc' := 49) rfl rfl rfl rfl).trans ?_
    refine (zq_ia hm (v := (σ 4 x1)) (pc' := 50) rfl lay_4 rfl rfl).trans (zite ?_ rfl)
    refine (zJ_n rfl).trans ?_
    refine (zq_iln hm (pc' := 51) rfl rfl rfl rfl).trans ?_
    refine (zq_iln hm (pc' := 52) rfl rfl rfl rfl).trans ?_
    refine (zq_il hm (pc' := 54) rfl rfl rfl rfl).trans ?_
    refine (zq_iln hm (pc' := 55) rfl rfl rfl rfl).trans ?_
    refine (zq_aln hm (pc' := 56) rfl rfl rfl rfl).trans ?_
    refine (zq_gr hm (pc' := 59) rfl lay_17 rfl rfl).trans ?_
    refine (zJ_n rfl).trans ?_
    refine (zq_iln hm (pc' := 60) rfl rfl rfl rfl).trans ?_
    refine (zq_ia hm (v := (σ 21 x1)) (pc' := 61) rfl lay_21 rfl rfl).trans (zite ?_ rfl)
    refine (zJ_n rfl).trans ?_
    refine (zq_v1 hm (pc' := 64) rfl rfl rfl (cls_14_2) rfl rfl).trans (zCI_c rfl (fun r2 s1 => ?_))
    refine (zJ_n rfl).trans ?_
    refine (zq_is hm (ls' := [some (.inl (some 17)), some (.inr (.inl x1)), some (.inr (.inl x2)), some (.inr (.inl x3)), some (.inr (.inl (zmin 99 (σ 10 4)))), some (.inr (.inl r2))]) (pc' := 66) rfl rfl rfl rfl).trans ?_
    refine (zq_ic hm (pc' := 67) rfl rfl rfl rfl).trans ?_
    refine (zq_bi hm (pc' := 69) rfl rfl rfl rfl).trans ?_
    refine (zq_il hm (pc' := 71) rfl rfl rfl rfl).trans ?_
    refine (zq_min hm (pc' := 74) rfl rfl rfl rfl).trans ?_
    refine (zJ_n rfl).trans ?_
    refine (zq_max hm (pc' := 77) rfl rfl rfl rfl).trans ?_
    refine (zJ_n rfl).trans ?_
    exact zq_ri hm rfl rfl
