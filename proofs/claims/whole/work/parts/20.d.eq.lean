/-! equations, 4 -/
noncomputable def P_X9_countNeighbours_4 (d : Nat) (y1 : Int) (y2 : Int) (y3 : Int) (σ : zF) : Option zR := zrunL zX2 (zexec zX2 zMT d) K_X9_countNeighbours U_X9_countNeighbours 4 [some (.inl (some 17)), some (.inr (.inl y1)), some (.inr (.inl y2)), some (.inr (.inl y3))] [] (LAY, σ)
set_option maxRecDepth 100000 in
set_option maxHeartbeats 4000000 in
theorem e_X9_countNeighbours (d : Nat) (x1 : Int) (σ : zF) : zx (d + 1) 92 [.inl (some 17), .inr (.inl x1)] σ = (
P_X9_countNeighbours_4 d x1 0 0 σ) := by
  unfold zx
  have hm := zexec_m zX2 zMT d
  refine (zexec_eq mt_92 _ rfl (LAY, σ) 0).trans ?_
  show zrunL zX2 (zexec zX2 zMT d) K_X9_countNeighbours U_X9_countNeighbours 0 [some (.inl (some 17)), some (.inr (.inl x1)), none, none] [] (LAY, σ) = _
  refine (zq_ic hm (pc' := 1) rfl rfl rfl rfl).trans ?_
  refine (zq_isn hm (ls' := [some (.inl (some 17)), some (.inr (.inl x1)), some (.inr (.inl 0)), none]) (pc' := 2) rfl rfl rfl rfl).trans ?_
  refine (zq_ic hm (pc' := 3) rfl rfl rfl rfl).trans ?_
  exact (zc_isn hm (ls' := [some (.inl (some 17)), some (.inr (.inl x1)), some (.inr (.inl 0)), some (.inr (.inl 0))]) (pc' := 4) rfl rfl rfl rfl).trans rfl
set_option maxRecDepth 100000 in
set_option maxHeartbeats 4000000 in
theorem e_X9_countNeighbours_4 (d : Nat) (y1 : Int) (y2 : Int) (y3 : Int) (σ : zF) : P_X9_countNeighbours_4 d y1 y2 y3 σ = (
if y3 < (σ 1 0) then (
if y3 = y1 then (
P_X9_countNeighbours_4 d y1 y2 (zw (y3 + 1)) σ) else (
zCI LAY (zx d 89 [.inl (some 17), .inr (.inl y3)] σ) fun r102 s101 =>
if r102 = 0 then (
P_X9_countNeighbours_4 d y1 y2 (zw (y3 + 1)) s101) else (
zCI LAY (zx d 24 [.inl (some 1), .inr (.inl y1), .inr (.inl y3)] s101) fun r104 s103 =>
if r104 = 0 then (
P_X9_countNeighbours_4 d y1 y2 (zw (y3 + 1)) s103) else (
P_X9_countNeighbours_4 d y1 (zw (y2 + 1)) (zw (y3 + 1)) s103)))) else (
zri y2 σ)) := by
  have hm := zexec_m zX2 zMT d
  show zrunL zX2 (zexec zX2 zMT d) K_X9_countNeighbours U_X9_countNeighbours 4 [some (.inl (some 17)), some (.inr (.inl y1)), some (.inr (.inl y2)), some (.inr (.inl y3))] [] (LAY, σ) = _
  refine (zq_iln hm (pc' := 5) rfl rfl rfl rfl).trans ?_
  refine (zq_aln hm (pc' := 6) rfl rfl rfl rfl).trans ?_
  refine (zq_gr hm (pc' := 9) rfl lay_17 rfl rfl).trans ?_
  refine (zJ_n rfl).trans ?_
  refine (zq_gf hm (v := (σ 1 0)) (pc' := 12) rfl lay_1 rfl rfl rfl).trans ?_
  refine (zJ_n rfl).trans ?_
  refine (zq_ige hm (pc' := 15) rfl rfl).trans (zite ?_ ?_)
  · refine (zJ_n rfl).trans ?_
    refine (zq_iln hm (pc' := 16) rfl rfl rfl rfl).trans ?_
    refine (zq_iln hm (pc' := 17) rfl rfl rfl rfl).trans ?_
    refine (zq_ieq hm (pc' := 20) rfl rfl).trans (zite ?_ ?_)
    · refine (zJ_n rfl).trans ?_
      refine (zq_iinc hm (ls' := [some (.inl (some 17)), some (.inr (.inl y1)), some (.inr (.inl y2)), some (.inr (.inl (zw (y3 + 1))))]) (pc' := 46) rfl rfl rfl rfl rfl rfl).trans ?_
      exact (zc_goto hm rfl rfl).trans rfl
    · refine (zJ_n rfl).trans ?_
      refine (zq_aln hm (pc' := 21) rfl rfl rfl rfl).trans ?_
      refine (zq_iln hm (pc' := 22) rfl rfl rfl rfl).trans ?_
      refine (zq_v1 hm (pc' := 25) rfl rfl rfl (cls_17_9) rfl rfl).trans (zCI_c rfl (fun r102 s101 => ?_))
      refine (zJ_n rfl).trans ?_
      refine (zq_zeq hm (pc' := 28) rfl rfl).trans (zite ?_ ?_)
      · refine (zJ_n rfl).trans ?_
        refine (zq_iinc hm (ls' := [some (.inl (some 17)), some (.inr (.inl y1)), some (.inr (.inl y2)), some (.inr (.inl (zw (y3 + 1))))]) (pc' := 46) rfl rfl rfl rfl rfl rfl).trans ?_
        exact (zc_goto hm rfl rfl).trans rfl
      · refine (zJ_n rfl).trans ?_
        refine (zq_aln hm (pc' := 29) rfl rfl rfl rfl).trans ?_
        refine (zq_gr hm (pc' := 32) rfl lay_17 rfl rfl).trans ?_
        refine (zJ_n rfl).trans ?_
        refine (zq_iln hm (pc' := 33) rfl rfl rfl rfl).trans ?_
        refine (zq_iln hm (pc' := 34) rfl rfl rfl rfl).trans ?_
        refine (zq_v1 hm (pc' := 37) rfl rfl rfl (cls_1_3) rfl rfl).trans (zCI_c rfl (fun r104 s103 => ?_))
        refine (zJ_n rfl).trans ?_
        refine (zq_zeq hm (pc' := 40) rfl rfl).trans (zite ?_ ?_)
        · refine (zJ_n rfl).trans ?_
          refine (zq_iinc hm (ls' := [some (.inl (some 17)), some (.inr (.inl y1)), some (.inr (.inl y2)), some (.inr (.inl (zw (y3 + 1))))]) (pc' := 46) rfl rfl rfl rfl rfl rfl).trans ?_
          exact (zc_goto hm rfl rfl).trans rfl
        · refine (zJ_n rfl).trans ?_
          refine (zq_iinc hm (ls' := [some (.inl (some 17)), some (.inr (.inl y1)), some (.inr (.inl (zw (y2 + 1)))), some (.inr (.inl y3))]) (pc' := 43) rfl rfl rfl rfl rfl rfl).trans ?_
          refine (zq_iinc hm (ls' := [some (.inl (some 17)), some (.inr (.inl y1)), some (.inr (.inl (zw (y2 + 1)))), some (.inr (.inl (zw (y3 + 1))))]) (pc' := 46) rfl rfl rfl rfl rfl rfl).trans ?_
          exact (zc_goto hm rfl rfl).trans rfl
  · refine (zJ_n rfl).trans ?_
    refine (zq_iln hm (pc' := 50) rfl rfl rfl rfl).trans ?_
    exact zq_ri hm rfl rfl
noncomputable def P_X9_takesInAll_4 (d : Nat) (y1 : Int) (y2 : Int) (σ : zF) : Option zR := zrunL zX2 (zexec zX2 zMT d) K_X9_takesInAll U_X9_takesInAll 4 [some (.inl (some 17)), some (.inr (.inl y1)), some (.inr (.inl y2))] [] (LAY, σ)
set_option maxRecDepth 100000 in
set_option maxHeartbeats 4000000 in
theorem e_X9_takesInAll (d : Nat) (σ : zF) : zx (d + 1) 93 [.inl (some 17)] σ = (
P_X9_takesInAll_4 d 0 0 σ) := by
  unfold zx
  have hm := zexec_m zX2 zMT d
  refine (zexec_eq mt_93 _ rfl (LAY, σ) 0).trans ?_
  show zrunL zX2 (zexec zX2 zMT d) K_X9_takesInAll U_X9_takesInAll 0 [some (.inl (some 17)), none, none] [] (LAY, σ) = _
  refine (zq_ic hm (pc' := 1) rfl rfl rfl rfl).trans ?_
  refine (zq_isn hm (ls' := [some (.inl (some 17)), some (.inr (.inl 0)), none]) (pc' := 2) rfl rfl rfl rfl).trans ?_
  refine (zq_ic hm (pc' := 3) rfl rfl rfl rfl).trans ?_
  exact (zc_isn hm (ls' := [some (.inl (some 17)), some (.inr (.inl 0)), some (.inr (.inl 0))]) (pc' := 4) rfl rfl rfl rfl).trans rfl
set_option maxRecDepth 100000 in
set_option maxHeartbeats 4000000 in
theorem e_X9_takesInAll_4 (d : Nat) (y1 : Int) (y2 : Int) (σ : zF) : P_X9_takesInAll_4 d y1 y2 σ = (
if y2 < (σ 1 0) then (
zCI LAY (zx d 90 [.inl (some 17), .inr (.inl y2)] σ) fun r102 s101 =>
P_X9_takesInAll_4 d (zw (y1 + r102)) (zw (y2 + 1)) s101) else (
zri y1 σ)) := by
  have hm := zexec_m zX2 zMT d
  show zrunL zX2 (zexec zX2 zMT d) K_X9_takesInAll U_X9_takesInAll 4 [some (.inl (some 17)), some (.inr (.inl y1)), some (.inr (.inl y2))] [] (LAY, σ) = _
  refine (zq_iln hm (pc' := 5) rfl rfl rfl rfl).trans ?_
  refine (zq_aln hm (pc' := 6) rfl rfl rfl rfl).trans ?_
  refine (zq_gr hm (pc' := 9) rfl lay_17 rfl rfl).trans ?_
  refine (zJ_n rfl).trans ?_
  refine (zq_gf hm (v := (σ 1 0)) (pc' := 12) rfl lay_1 rfl rfl rfl).trans ?_
  refine (zJ_n rfl).trans ?_
  refine (zq_ige hm (pc' := 15) rfl rfl).trans (zite ?_ ?_)
  · refine (zJ_n rfl).trans ?_
    refine (zq_iln hm (pc' := 16) rfl rfl rfl rfl).trans ?_
    refine (zq_aln hm (pc' := 17) rfl rfl rfl rfl).trans ?_
    refine (zq_iln hm (pc' := 18) rfl rfl rfl rfl).trans ?_
    refine (zq_v1 hm (pc' := 21) rfl rfl rfl (cls_17_9) rfl rfl).trans (zCI_c rfl (fun r102 s101 => ?_))
    refine (zJ_n rfl).trans ?_
    refine (zq_iadd hm (pc' := 22) rfl rfl rfl).trans ?_
    refine (zq_isn hm (ls' := [some (.inl (some 17)), some (.inr (.inl (zw (y1 + r102)))), some (.inr (.inl y2))]) (pc' := 23) rfl rfl rfl rfl).trans ?_
    refine (zq_iinc hm (ls' := [some (.inl (some 17)), some (.inr (.inl (zw (y1 + r102)))), some (.inr (.inl (zw (y2 + 1))))]) (pc' := 26) rfl rfl rfl rfl rfl rfl).trans ?_
    exact (zc_goto hm rfl rfl).trans rfl
  · refine (zJ_n rfl).trans ?_
    refine (zq_iln hm (pc' := 30) rfl rfl rfl rfl).trans ?_
    exact zq_ri hm rfl rfl
noncomputable def P_X9_measureFrom_2 (d : Nat) (y1 : Int) (y2 : Int) (σ : zF) : Option zR := zrunL zX2 (zexec zX2 zMT d) K_X9_measureFrom U_X9_measureFrom 2 [some (.inl (some 17)), some (.inr (.inl y1)), some (.inr (.inl y2)), none] [] (LAY, σ)
noncomputable def P_X9_measureFrom_50 (d : Nat) (y1 : Int) (y2 : Int) (σ : zF) : Option zR := zrunL zX2 (zexec zX2 zMT d) K_X9_measureFrom U_X9_measureFrom 50 [some (.inl (some 17)), none, some (.inr (.inl y1)), some (.inr (.inl y2))] [] (LAY, σ)
set_option maxRecDepth 100000 in
set_option maxHeartbeats 4000000 in
theorem e_X9_measureFrom (d : Nat) (x1 : Int) (σ : zF) : zx (d + 1) 94 [.inl (some 17), .inr (.inl x1)] σ = (
P_X9_measureFrom_2 d x1 0 σ) := by
  unfold zx
  have hm := zexec_m zX2 zMT d
  refine (zexec_eq mt_94 _ rfl (LAY, σ) 0).trans ?_
  show zrunL zX2 (zexec zX2 zMT d) K_X9_measureFrom U_X9_measureFrom 0 [some (.inl (some 17)), some (.inr (.inl x1)), none, none] [] (LAY, σ) = _
  refine (zq_ic hm (pc' := 1) rfl rfl rfl rfl).trans ?_
  exact (zc_isn hm (ls' := [some (.inl (some 17)), some (.inr (.inl x1)), some (.inr (.inl 0)), none]) (pc' := 2) rfl rfl rfl rfl).trans rfl
set_option maxRecDepth 100000 in
set_option maxHeartbeats 4000000 in
theorem e_X9_measureFrom_2 (d : Nat) (y1 : Int) (y2 : Int) (σ : zF) : P_X9_measureFrom_2 d y1 y2 σ = (
if y2 < (σ 1 0) then (
zCI LAY (zx d 90 [.inl (some 17), .inr (.inl y2)] σ) fun r103 s102 =>
if 0 ≤ y2 ∧ y2 < 12 then (
P_X9_measureFrom_2 d y1 (zw (y2 + 1)) (zset s102 22 y2 r103)) else (
none)) else (
zCV LAY (zx d 255 [.inl (some 23), .inr (.inl 1000000)] σ) fun s101 =>
if 0 ≤ y1 ∧ y1 < 8 then (
P_X9_measureFrom_50 d 1 0 (zset s101 23 y1 0)) else (
none))) := by
  have hm := zexec_m zX2 zMT d
  show zrunL zX2 (zexec zX2 zMT d) K_X9_measureFrom U_X9_measureFrom 2 [some (.inl (some 17)), some (.inr (.inl y1)), some (.inr (.inl y2)), none] [] (LAY, σ) = _
  refine (zq_iln hm (pc' := 3) rfl rfl rfl rfl).trans ?_
  refine (zq_aln hm (pc' := 4) rfl rfl rfl rfl).trans ?_
  refine (zq_gr hm (pc' := 7) rfl lay_17 rfl rfl).trans ?_
  refine (zJ_n rfl).trans ?_
  refine (zq_gf hm (v := (σ 1 0)) (pc' := 10) rfl lay_1 rfl rfl rfl).trans ?_
  refine (zJ_n rfl).trans ?_
  refine (zq_ige hm (pc' := 13) rfl rfl).trans (zite ?_ ?_)
  · refine (zJ_n rfl).trans ?_
    refine (zq_aln hm (pc' := 14) rfl rfl rfl rfl).trans ?_
    refine (zq_gr hm (pc' := 17) rfl lay_17 rfl rfl).trans ?_
    refine (zJ_n rfl).trans ?_
    refine (zq_iln hm (pc' := 18) rfl rfl rfl rfl).trans ?_
    refine (zq_aln hm (pc' := 19) rfl rfl rfl rfl).trans ?_
    refine (zq_iln hm (pc' := 20) rfl rfl rfl rfl).trans ?_
    refine (zq_v1 hm (pc' := 23) rfl rfl rfl (cls_17_9) rfl rfl).trans (zCI_c rfl (fun r103 s102 => ?_))
    refine (zJ_n rfl).trans ?_
    refine (zq_ist hm (pc' := 24) rfl lay_22 rfl).trans (zite ?_ rfl)
    refine (zJ_n rfl).trans ?_
    refine (zq_iinc hm (ls' := [some (.inl (some 17)), some (.inr (.inl y1)), some (.inr (.inl (zw (y2 + 1)))), none]) (pc' := 27) rfl rfl rfl rfl rfl rfl).trans ?_
    exact (zc_goto hm rfl rfl).trans rfl
  · refine (zJ_n rfl).trans ?_
    refine (zq_aln hm (pc' := 31) rfl rfl rfl rfl).trans ?_
    refine (zq_gr hm (pc' := 34) rfl lay_17 rfl rfl).trans ?_
    refine (zJ_n rfl).trans ?_
    refine (zq_ld hm (pc' := 36) rfl rfl rfl rfl).trans ?_
    refine (zq_s0 hm (pc' := 39) rfl rfl rfl rfl rfl rfl).trans (zCV_c rfl (fun s101 => ?_))
    refine (zJ_n rfl).trans ?_
    refine (zq_aln hm (pc' := 40) rfl rfl rfl rfl).trans ?_
    refine (zq_gr hm (pc' := 43) rfl lay_17 rfl rfl).trans ?_
    refine (zJ_n rfl).trans ?_
    refine (zq_iln hm (pc' := 44) rfl rfl rfl rfl).trans ?_
    refine (zq_ic hm (pc' := 45) rfl rfl rfl rfl).trans ?_
    refine (zq_ist hm (pc' := 46) rfl lay_23 rfl).trans (zite ?_ rfl)
    refine (zJ_n rfl).trans ?_
    refine (zq_ic hm (pc' := 47) rfl rfl rfl rfl).trans ?_
    refine (zq_isn hm (ls' := [some (.inl (some 17)), some (.inr (.inl y1)), some (.inr (.inl 1)), none]) (pc' := 48) rfl rfl rfl rfl).trans ?_
    refine (zq_ic hm (pc' := 49) rfl rfl rfl rfl).trans ?_
    exact (zc_isn hm (ls' := [some (.inl (some 17)), some (.inr (.inl y1)), some (.inr (.inl 1)), some (.inr (.inl 0))]) (pc' := 50) rfl rfl rfl rfl).trans rfl
set_option maxRecDepth 100000 in
set_option maxHeartbeats 4000000 in
theorem e_X9_measureFrom_50 (d : Nat) (y1 : Int) (y2 : Int) (σ : zF) : P_X9_measureFrom_50 d y1 y2 σ = (
if y2 < 8 then (
if y1 = 0 then (
zrv σ) else (
zCI LAY (zx d 95 [.inl (some 17)] σ) fun r102 s101 =>
P_X9_measureFrom_50 d r102 (zw (y2 + 1)) s101)) else (
zrv σ)) := by
  have hm := zexec_m zX2 zMT d
  show zrunL zX2 (zexec zX2 zMT d) K_X9_measureFrom U_X9_measureFrom 50 [some (.inl (some 17)), none, some (.inr (.inl y1)), some (.inr (.inl y2))] [] (LAY, σ) = _
  refine (zq_iln hm (pc' := 51) rfl rfl rfl rfl).trans ?_
  refine (zq_bi hm (pc' := 53) rfl rfl rfl rfl).trans ?_
  refine (zq_ige hm (pc' := 56) rfl rfl).trans (zite ?_ ?_)
  · refine (zJ_n rfl).trans ?_
    refine (zq_iln hm (pc' := 57) rfl rfl rfl rfl).trans ?_
    refine (zq_zeq hm (pc' := 60) rfl rfl).trans (zite ?_ ?_)
    · refine (zJ_n rfl).trans ?_
      exact zq_rv hm rfl
    · refine (zJ_n rfl).trans ?_
      refine (zq_aln hm (pc' := 61) rfl rfl rfl rfl).trans ?_
      refine (zq_v1 hm (pc' := 64) rfl rfl rfl (cls_17_9) rfl rfl).trans (zCI_c rfl (fun r102 s101 => ?_))
      refine (zJ_n rfl).trans ?_
      refine (zq_isn hm (ls' := [some (.inl (some 17)), none, some (.inr (.inl r102)), some (.inr (.inl y2))]) (pc' := 65) rfl rfl rfl rfl).trans ?_
      refine (zq_iinc hm (ls' := [some (.inl (some 17)), none, some (.inr (.inl r102)), some (.inr (.inl (zw (y2 + 1))))]) (pc' := 68) rfl rfl rfl rfl rfl rfl).trans ?_
      exact (zc_goto hm rfl rfl).trans rfl
  · refine (zJ_n rfl).trans ?_
    exact zq_rv hm rfl
noncomputable def P_X9_comeNearer_4 (d : Nat) (y1 : Int) (y2 : Int) (σ : zF) : Option zR := zrunL zX2 (zexec zX2 zMT d) K_X9_comeNearer U_X9_comeNearer 4 [some (.inl (some 17)), some (.inr (.inl y1)), some (.inr (.inl y2)), none, none] [] (LAY, σ)
set_option maxRecDepth 100000 in
set_option maxHeartbeats 4000000 in
theorem e_X9_comeNearer (d : Nat) (σ : zF) : zx (d + 1) 95 [.inl (some 17)] σ = (
P_X9_comeNearer_4 d 0 0 σ) := by
  unfold zx
  have hm := zexec_m zX2 zMT d
  refine (zexec_eq mt_95 _ rfl (LAY, σ) 0).trans ?_
  show zrunL zX2 (zexec zX2 zMT d) K_X9_comeNearer U_X9_comeNearer 0 [some (.inl (some 17)), none, none, none, none] [] (LAY, σ) = _
  refine (zq_ic hm (pc' := 1) rfl rfl rfl rfl).trans ?_
  refine (zq_isn hm (ls' := [some (.inl (some 17)), some (.inr (.inl 0)), none, none, none]) (pc' := 2) rfl rfl rfl rfl).trans ?_
  refine (zq_ic hm (pc' := 3) rfl rfl rfl rfl).trans ?_
  exact (zc_isn hm (ls' := [some (.inl (some 17)), some (.inr (.inl 0)), some (.inr (.inl 0)), none, none]) (pc' := 4) rfl rfl rfl rfl).trans rfl
set_option maxRecDepth 100000 in
set_option maxHeartbeats 4000000 in
theorem e_X9_comeNearer_4 (d : Nat) (y1 : Int) (y2 : Int) (σ : zF) : P_X9_comeNearer_4 d y1 y2 σ = (
if y2 < (σ 1 0) then (
zCI LAY (zx d 89 [.inl (some 17), .inr (.inl y2)] σ) fun r102 s101 =>
if r102 = 0 then (
P_X9_comeNearer_4 d y1 (zw (y2 + 1)) s101) else (
if 0 ≤ y2 ∧ y2 < 12 then (
if 0 ≤ y2 ∧ y2 < 12 then (
if 0 ≤ (s101 2 y2) ∧ (s101 2 y2) < 8 then (
if 0 ≤ y2 ∧ y2 < 12 then (
if 0 ≤ (s101 3 y2) ∧ (s101 3 y2) < 8 then (
if zw ((s101 23 (s101 2 y2)) + (s101 22 y2)) < (s101 23 (s101 3 y2)) then (
if 0 ≤ (s101 2 y2) ∧ (s101 2 y2) < 8 then (
if 0 ≤ y2 ∧ y2 < 12 then (
if 0 ≤ (s101 3 y2) ∧ (s101 3 y2) < 8 then (
P_X9_comeNearer_4 d 1 (zw (y2 + 1)) (zset s101 23 (s101 3 y2) (zw ((s101 23 (s101 2 y2)) + (s101 22 y2))))) else (
none)) else (
none)) else (
none)) else (
if 0 ≤ (s101 3 y2) ∧ (s101 3 y2) < 8 then (
if 0 ≤ y2 ∧ y2 < 12 then (
if 0 ≤ (s101 2 y2) ∧ (s101 2 y2) < 8 then (
if zw ((s101 23 (s101 3 y2)) + (s101 22 y2)) < (s101 23 (s101 2 y2)) then (
if 0 ≤ (s101 3 y2) ∧ (s101 3 y2) < 8 then (
if 0 ≤ y2 ∧ y2 < 12 then (
if 0 ≤ (s101 2 y2) ∧ (s101 2 y2) < 8 then (
P_X9_comeNearer_4 d 1 (zw (y2 + 1)) (zset s101 23 (s101 2 y2) (zw ((s101 23 (s101 3 y2)) + (s101 22 y2))))) else (
none)) else (
none)) else (
none)) else (
P_X9_comeNearer_4 d y1 (zw (y2 + 1)) s101)) else (
none)) else (
none)) else (
none))) else (
none)) else (
none)) else (
none)) else (
none)) else (
none))) else (
if y1 = 0 ∨ y1 = 1 then (
zri y1 σ) else (
none))) := by
  have hm := zexec_m zX2 zMT d
  show zrunL zX2 (zexec zX2 zMT d) K_X9_comeNearer U_X9_comeNearer 4 [some (.inl (some 17)), some (.inr (.inl y1)), some (.inr (.inl y2)), none, none] [] (LAY, σ) = _
  refine (zq_iln hm (pc' := 5) rfl rfl rfl rfl).trans ?_
  refine (zq_aln hm (pc' := 6) rfl rfl rfl rfl).trans ?_
  refine (zq_gr hm (pc' := 9) rfl lay_17 rfl rfl).trans ?_
  refine (zJ_n rfl).trans ?_
  refine (zq_gf hm (v := (σ 1 0)) (pc' := 12) rfl lay_1 rfl rfl rfl).trans ?_
  refine (zJ_n rfl).trans ?_
  refine (zq_ige hm (pc' := 15) rfl rfl).trans (zite ?_ ?_)
  · refine (zJ_n rfl).trans ?_
    refine (zq_aln hm (pc' := 16) rfl rfl rfl rfl).trans ?_
    refine (zq_iln hm (pc' := 17) rfl rfl rfl rfl).trans ?_
    refine (zq_v1 hm (pc' := 20) rfl rfl rfl (cls_17_9) rfl rfl).trans (zCI_c rfl (fun r102 s101 => ?_))
    refine (zJ_n rfl).trans ?_
    refine (zq_zne hm (pc' := 23) rfl rfl).trans (zite ?_ ?_)
    · refine (zJ_n rfl).trans ?_
      refine (zq_goto hm rfl rfl).trans ?_
      refine (zq_iinc hm (ls' := [some (.inl (some 17)), some (.inr (.inl y1)), some (.inr (.inl (zw (y2 + 1)))), none, none]) (pc' := 143) rfl rfl rfl rfl rfl rfl).trans ?_
      exact (zc_goto hm rfl rfl).trans rfl
    · refine (zJ_n rfl).trans ?_
      refine (zq_aln hm (pc' := 27) rfl rfl rfl rfl).trans ?_
      refine (zq_gr hm (pc' := 30) rfl lay_17 rfl rfl).trans ?_
      refine (zJ_n rfl).trans ?_
      refine (zq_gr hm (pc' := 33) rfl lay_1 rfl rfl).trans ?_
      refine (zJ_n rfl).trans ?_
      refine (zq_iln hm (pc' := 34) rfl rfl rfl rfl).trans ?_
      refine (zq_ia hm (v := (s101 2 y2)) (pc' := 35) rfl lay_2 rfl rfl).trans (zite ?_ rfl)
      refine (zJ_n rfl).trans ?_
      refine (zq_isn hm (ls' := [some (.inl (some 17)), some (.inr (.inl y1)), some (.inr (.inl y2)), some (.inr (.inl (s101 2 y2))), none]) (pc' := 36) rfl rfl rfl rfl).trans ?_
      refine (zq_aln hm (pc' := 37) rfl rfl rfl rfl).trans ?_
      refine (zq_gr hm (pc' := 40) rfl lay_17 rfl rfl).trans ?_
      refine (zJ_n rfl).trans ?_
      refine (zq_gr hm (pc' := 43) rfl lay_1 rfl rfl).trans ?_
      refine (zJ_n rfl).trans ?_
      refine (zq_iln hm (pc' := 44) rfl rfl rfl rfl).trans ?_
      refine (zq_ia hm (v := (s101 3 y2)) (pc' := 45) rfl lay_3 rfl rfl).trans (zite ?_ rfl)
      refine (zJ_n rfl).trans ?_
      refine (zq_is hm (ls' := [some (.inl (some 17)), some (.inr (.inl y1)), some (.inr (.inl y2)), some (.inr (.inl (s101 2 y2))), some (.inr (.inl (s101 3 y2)))]) (pc' := 47) rfl rfl rfl rfl).trans ?_
      refine (zq_aln hm (pc' := 48) rfl rfl rfl rfl).trans ?_
      refine (zq_gr hm (pc' := 51) rfl lay_17 rfl rfl).trans ?_
      refine (zJ_n rfl).trans ?_
      refine (zq_iln hm (pc' := 52) rfl rfl rfl rfl).trans ?_
      refine (zq_ia hm (v := (s101 23 (s101 2 y2))) (pc' := 53) rfl lay_23 rfl rfl).trans (zite ?_ rfl)
      refine (zJ_n rfl).trans ?_
      refine (zq_aln hm (pc' := 54) rfl rfl rfl rfl).trans ?_
      refine (zq_gr hm (pc' := 57) rfl lay_17 rfl rfl).trans ?_
      refine (zJ_n rfl).trans ?_
      refine (zq_iln hm (pc' := 58) rfl rfl rfl rfl).trans ?_
      refine (zq_ia hm (v := (s101 22 y2)) (pc' := 59) rfl lay_22 rfl rfl).trans (zite ?_ rfl)
      refine (zJ_n rfl).trans ?_
      refine (zq_iadd hm (pc' := 60) rfl rfl rfl).trans ?_
      refine (zq_aln hm (pc' := 61) rfl rfl rfl rfl).trans ?_
      refine (zq_gr hm (pc' := 64) rfl lay_17 rfl rfl).trans ?_
      refine (zJ_n rfl).trans ?_
      refine (zq_il hm (pc' := 66) rfl rfl rfl rfl).trans ?_
      refine (zq_ia hm (v := (s101 23 (s101 3 y2))) (pc' := 67) rfl lay_23 rfl rfl).trans (zite ?_ rfl)
      refine (zJ_n rfl).trans ?_
      refine (zq_ige hm (pc' := 70) rfl rfl).trans (zite ?_ ?_)
      · refine (zJ_n rfl).trans ?_
        refine (zq_aln hm (pc' := 71) rfl rfl rfl rfl).trans ?_
        refine (zq_gr hm (pc' := 74) rfl lay_17 rfl rfl).trans ?_
        refine (zJ_n rfl).trans ?_
        refine (zq_il hm (pc' := 76) rfl rfl rfl rfl).trans ?_
        refine (zq_aln hm (pc' := 77) rfl rfl rfl rfl).trans ?_
        refine (zq_gr hm (pc' := 80) rfl lay_17 rfl rfl).trans ?_
        refine (zJ_n rfl).trans ?_
        refine (zq_iln hm (pc' := 81) rfl rfl rfl rfl).trans ?_
        refine (zq_ia hm (v := (s101 23 (s101 2 y2))) (pc' := 82) rfl lay_23 rfl rfl).trans (zite ?_ rfl)
        refine (zJ_n rfl).trans ?_
        refine (zq_aln hm (pc' := 83) rfl rfl rfl rfl).trans ?_
        refine (zq_gr hm (pc' := 86) rfl lay_17 rfl rfl).trans ?_
        refine (zJ_n rfl).trans ?_
        refine (zq_iln hm (pc' := 87) rfl rfl rfl rfl).trans ?_
        refine (zq_ia hm (v := (s101 22 y2)) (pc' := 88) rfl lay_22 rfl rfl).trans (zite ?_ rfl)
        refine (zJ_n rfl).trans ?_
        refine (zq_iadd hm (pc' := 89) rfl rfl rfl).trans ?_
        refine (zq_ist hm (pc' := 90) rfl lay_23 rfl).trans (zite ?_ rfl)
        refine (zJ_n rfl).trans ?_
        refine (zq_ic hm (pc' := 91) rfl rfl rfl rfl).trans ?_
        refine (zq_isn hm (ls' := [some (.inl (some 17)), some (.inr (.inl 1)), some (.inr (.inl y2)), some (.inr (.inl (s101 2 y2))), some (.inr (.inl (s101 3 y2)))]) (pc' := 92) rfl rfl rfl rfl).trans ?_
        refine (zq_goto hm rfl rfl).trans ?_
        refine (zq_iinc hm (ls' := [some (.inl (some 17)), some (.inr (.inl 1)), some (.inr (.inl (zw (y2 + 1)))), some (.inr (.inl (s101 2 y2))), some (.inr (.inl (s101 3 y2)))]) (pc' := 143) rfl rfl rfl rfl rfl rfl).trans ?_
        exact (zc_goto hm rfl rfl).trans rfl
      · refine (zJ_n rfl).trans ?_
        refine (zq_aln hm (pc' := 96) rfl rfl rfl rfl).trans ?_
        refine (zq_gr hm (pc' := 99) rfl lay_17 rfl rfl).trans ?_
        refine (zJ_n rfl).trans ?_
        refine (zq_il hm (pc' := 101) rfl rfl rfl rfl).trans ?_
        refine (zq_ia hm (v := (s101 23 (s101 3 y2))) (pc' := 102) rfl lay_23 rfl rfl).trans (zite ?_ rfl)
        refine (zJ_n rfl).trans ?_
        refine (zq_aln hm (pc' := 103) rfl rfl rfl rfl).trans ?_
        refine (zq_gr hm (pc' := 106) rfl lay_17 rfl rfl).trans ?_
        refine (zJ_n rfl).trans ?_
        refine (zq_iln hm (pc' := 107) rfl rfl rfl rfl).trans ?_
        refine (zq_ia hm (v := (s101 22 y2)) (pc' := 108) rfl lay_22 rfl rfl).trans (zite ?_ rfl)
        refine (zJ_n rfl).trans ?_
        refine (zq_iadd hm (pc' := 109) rfl rfl rfl).trans ?_
        refine (zq_aln hm (pc' := 110) rfl rfl rfl rfl).trans ?_
        refine (zq_gr hm (pc' := 113) rfl lay_17 rfl rfl).trans ?_
        refine (zJ_n rfl).trans ?_
        refine (zq_iln hm (pc' := 114) rfl rfl rfl rfl).trans ?_
        refine (zq_ia hm (v := (s101 23 (s101 2 y2))) (pc' := 115) rfl lay_23 rfl rfl).trans (zite ?_ rfl)
        refine (zJ_n rfl).trans ?_
        refine (zq_ige hm (pc' := 118) rfl rfl).trans (zite ?_ ?_)
        · refine (zJ_n rfl).trans ?_
          refine (zq_aln hm (pc' := 119) rfl rfl rfl rfl).trans ?_
          refine (zq_gr hm (pc' := 122) rfl lay_17 rfl rfl).trans ?_
          refine (zJ_n rfl).trans ?_
          refine (zq_iln hm (pc' := 123) rfl rfl rfl rfl).trans ?_
          refine (zq_aln hm (pc' := 124) rfl rfl rfl rfl).trans ?_
          refine (zq_gr hm (pc' := 127) rfl lay_17 rfl rfl).trans ?_
          refine (zJ_n rfl).trans ?_
          refine (zq_il hm (pc' := 129) rfl rfl rfl rfl).trans ?_
          refine (zq_ia hm (v := (s101 23 (s101 3 y2))) (pc' := 130) rfl lay_23 rfl rfl).trans (zite ?_ rfl)
          refine (zJ_n rfl).trans ?_
          refine (zq_aln hm (pc' := 131) rfl rfl rfl rfl).trans ?_
          refine (zq_gr hm (pc' := 134) rfl lay_17 rfl rfl).trans ?_
          refine (zJ_n rfl).trans ?_
          refine (zq_iln hm (pc' := 135) rfl rfl rfl rfl).trans ?_
          refine (zq_ia hm (v := (s101 22 y2)) (pc' := 136) rfl lay_22 rfl rfl).trans (zite ?_ rfl)
          refine (zJ_n rfl).trans ?_
          refine (zq_iadd hm (pc' := 137) rfl rfl rfl).trans ?_
          refine (zq_ist hm (pc' := 138) rfl lay_23 rfl).trans (zite ?_ rfl)
          refine (zJ_n rfl).trans ?_
          refine (zq_ic hm (pc' := 139) rfl rfl rfl rfl).trans ?_
          refine (zq_isn hm (ls' := [some (.inl (some 17)), some (.inr (.inl 1)), some (.inr (.inl y2)), some (.inr (.inl (s101 2 y2))), some (.inr (.inl (s101 3 y2)))]) (pc' := 140) rfl rfl rfl rfl).trans ?_
          refine (zq_iinc hm (ls' := [some (.inl (some 17)), some (.inr (.inl 1)), some (.inr (.inl (zw (y2 + 1)))), some (.inr (.inl (s101 2 y2))), some (.inr (.inl (s101 3 y2)))]) (pc' := 143) rfl rfl rfl rfl rfl rfl).trans ?_
          exact (zc_goto hm rfl rfl).trans rfl
        · refine (zJ_n rfl).trans ?_
          refine (zq_iinc hm (ls' := [some (.inl (some 17)), some (.inr (.inl y1)), some (.inr (.inl (zw (y2 + 1)))), some (.inr (.inl (s101 2 y2))), some (.inr (.inl (s101 3 y2)))]) (pc' := 143) rfl rfl rfl rfl rfl rfl).trans ?_
          exact (zc_goto hm rfl rfl).trans rfl
  · refine (zJ_n rfl).trans ?_
    refine (zq_iln hm (pc' := 147) rfl rfl rfl rfl).trans ?_
    exact zq_rb hm rfl rfl
noncomputable def P_X9_tellWay_37 (d : Nat) (y1 : Int) (y2 : Int) (y3 : Int) (y4 : Int) (σ : zF) : Option zR := zrunL zX2 (zexec zX2 zMT d) K_X9_tellWay U_X9_tellWay 37 [some (.inl (some 17)), none, some (.inr (.inl y1)), some (.inr (.inl y2)), some (.inr (.inl y3)), some (.inr (.inl y4)), none] [] (LAY, σ)
set_option maxRecDepth 100000 in
set_option maxHeartbeats 4000000 in
theorem e_X9_tellWay (d : Nat) (x1 : Int) (x2 : Int) (x3 : Int) (σ : zF) : zx (d + 1) 96 [.inl (some 17), .inr (.inl x1), .inr (.inl x2), .inr (.inl x3)] σ = (
zCV LAY (zx d 94 [.inl (some 17), .inr (.inl x2)] σ) fun s1 =>
if 0 ≤ x1 ∧ x1 < 8 then (
if (s1 23 x1) < 1000000 then (
if x3 = (-1) then (
if 0 ≤ x1 ∧ x1 < 8 then (
zri (s1 23 x1) s1) else (
none)) else (
P_X9_tellWay_37 d x2 x3 x1 0 s1)) else (
zri (-2) s1)) else (
none)) := by
  unfold zx
  have hm := zexec_m zX2 zMT d
  refine (zexec_eq mt_96 _ rfl (LAY, σ) 0).trans ?_
  show zrunL zX2 (zexec zX2 zMT d) K_X9_tellWay U_X9_tellWay 0 [some (.inl (some 17)), some (.inr (.inl x1)), some (.inr (.inl x2)), some (.inr (.inl x3)), none, none, none] [] (LAY, σ) = _
  refine (zq_aln hm (pc' := 1) rfl rfl rfl rfl).trans ?_
  refine (zq_iln hm (pc' := 2) rfl rfl rfl rfl).trans ?_
  refine (zq_v0 hm (pc' := 5) rfl rfl rfl (cls_17_9) rfl rfl).trans (zCV_c rfl (fun s1 => ?_))
  refine (zJ_n rfl).trans ?_
  refine (zq_aln hm (pc' := 6) rfl rfl rfl rfl).trans ?_
  refine (zq_gr hm (pc' := 9) rfl lay_17 rfl rfl).trans ?_
  refine (zJ_n rfl).trans ?_
  refine (zq_iln hm (pc' := 10) rfl rfl rfl rfl).trans ?_
  refine (zq_ia hm (v := (s1 23 x1)) (pc' := 11) rfl lay_23 rfl rfl).trans (zite ?_ rfl)
  refine (zJ_n rfl).trans ?_
  refine (zq_ld hm (pc' := 13) rfl rfl rfl rfl).trans ?_
  refine (zq_ilt hm (pc' := 16) rfl rfl).trans (zite ?_ ?_)
  · refine (zJ_n rfl).trans ?_
    refine (zq_iln hm (pc' := 20) rfl rfl rfl rfl).trans ?_
    refine (zq_ic hm (pc' := 21) rfl rfl rfl rfl).trans ?_
    refine (zq_ine hm (pc' := 24) rfl rfl).trans (zite ?_ ?_)
    · refine (zJ_n rfl).trans ?_
      refine (zq_aln hm (pc' := 25) rfl rfl rfl rfl).trans ?_
      refine (zq_gr hm (pc' := 28) rfl lay_17 rfl rfl).trans ?_
      refine (zJ_n rfl).trans ?_
      refine (zq_iln hm (pc' := 29) rfl rfl rfl rfl).trans ?_
      refine (zq_ia hm (v := (s1 23 x1)) (pc' := 30) rfl lay_23 rfl rfl).trans (zite ?_ rfl)
      refine (zJ_n rfl).trans ?_
      exact zq_ri hm rfl rfl
    · refine (zJ_n rfl).trans ?_
      refine (zq_iln hm (pc' := 32) rfl rfl rfl rfl).trans ?_
      refine (zq_is hm (ls' := [some (.inl (some 17)), some (.inr (.inl x1)), some (.inr (.inl x2)), some (.inr (.inl x3)), some (.inr (.inl x1)), none, none]) (pc' := 34) rfl rfl rfl rfl).trans ?_
      refine (zq_ic hm (pc' := 35) rfl rfl rfl rfl).trans ?_
      exact (zc_is hm (ls' := [some (.inl (some 17)), some (.inr (.inl x1)), some (.inr (.inl x2)), some (.inr (.inl x3)), some (.inr (.inl x1)), some (.inr (.inl 0)), none]) (pc' := 37) rfl rfl rfl rfl).trans rfl
  · refine (zJ_n rfl).trans ?_
    refine (zq_bi hm (pc' := 18) rfl rfl rfl rfl).trans ?_
    exact zq_ri hm rfl rfl
set_option maxRecDepth 100000 in
set_option maxHeartbeats 4000000 in
theorem e_X9_tellWay_37 (d : Nat) (y1 : Int) (y2 : Int) (y3 : Int) (y4 : Int) (σ : zF) : P_X9_tellWay_37 d y1 y2 y3 y4 σ = (
if y4 < 8 then (
if y3 = y1 then (
if y2 = (-2) then (
zri y4 σ) else (
zri (-2) σ)) else (
zCI LAY (zx d 97 [.inl (some 17), .inr (.inl y3)] σ) fun r102 s101 =>
if r102 = (-1) then (
zri r102 s101) else (
if y4 = y2 then (
zri r102 s101) else (
zCI LAY (zx d 23 [.inl (some 1), .inr (.inl r102), .inr (.inl y3)] s101) fun r104 s103 =>
P_X9_tellWay_37 d y1 y2 r104 (zw (y4 + 1)) s103)))) else (
if y2 = (-2) then (
zri y4 σ) else (
zri (-2) σ))) := by
  have hm := zexec_m zX2 zMT d
  show zrunL zX2 (zexec zX2 zMT d) K_X9_tellWay U_X9_tellWay 37 [some (.inl (some 17)), none, some (.inr (.inl y1)), some (.inr (.inl y2)), some (.inr (.inl y3)), some (.inr (.inl y4)), none] [] (LAY, σ) = _
  refine (zq_il hm (pc' := 39) rfl rfl rfl rfl).trans ?_
  refine (zq_bi hm (pc' := 41) rfl rfl rfl rfl).trans ?_
  refine (zq_ige hm (pc' := 44) rfl rfl).trans (zite ?_ ?_)
  · refine (zJ_n rfl).trans ?_
    refine (zq_il hm (pc' := 46) rfl rfl rfl rfl).trans ?_
    refine (zq_iln hm (pc' := 47) rfl rfl rfl rfl).trans ?_
    refine (zq_ieq hm (pc' := 50) rfl rfl).trans (zite ?_ ?_)
    · refine (zJ_n rfl).trans ?_
      refine (zq_iln hm (pc' := 93) rfl rfl rfl rfl).trans ?_
      refine (zq_bi hm (pc' := 95) rfl rfl rfl rfl).trans ?_
      refine (zq_ine hm (pc' := 98) rfl rfl).trans (zite ?_ ?_)
      · refine (zJ_n rfl).trans ?_
        refine (zq_il hm (pc' := 100) rfl rfl rfl rfl).trans ?_
        refine (zq_goto hm rfl rfl).trans ?_
        exact zq_ri hm rfl rfl
      · refine (zJ_n rfl).trans ?_
        refine (zq_bi hm (pc' := 105) rfl rfl rfl rfl).trans ?_
        exact zq_ri hm rfl rfl
    · refine (zJ_n rfl).trans ?_
      refine (zq_aln hm (pc' := 51) rfl rfl rfl rfl).trans ?_
      refine (zq_il hm (pc' := 53) rfl rfl rfl rfl).trans ?_
      refine (zq_v1 hm (pc' := 56) rfl rfl rfl (cls_17_9) rfl rfl).trans (zCI_c rfl (fun r102 s101 => ?_))
      refine (zJ_n rfl).trans ?_
      refine (zq_is hm (ls' := [some (.inl (some 17)), none, some (.inr (.inl y1)), some (.inr (.inl y2)), some (.inr (.inl y3)), some (.inr (.inl y4)), some (.inr (.inl r102))]) (pc' := 58) rfl rfl rfl rfl).trans ?_
      refine (zq_il hm (pc' := 60) rfl rfl rfl rfl).trans ?_
      refine (zq_ic hm (pc' := 61) rfl rfl rfl rfl).trans ?_
      refine (zq_ieq hm (pc' := 64) rfl rfl).trans (zite ?_ ?_)
      · refine (zJ_n rfl).trans ?_
        refine (zq_il hm (pc' := 72) rfl rfl rfl rfl).trans ?_
        exact zq_ri hm rfl rfl
      · refine (zJ_n rfl).trans ?_
        refine (zq_il hm (pc' := 66) rfl rfl rfl rfl).trans ?_
        refine (zq_iln hm (pc' := 67) rfl rfl rfl rfl).trans ?_
        refine (zq_ine hm (pc' := 70) rfl rfl).trans (zite ?_ ?_)
        · refine (zJ_n rfl).trans ?_
          refine (zq_il hm (pc' := 72) rfl rfl rfl rfl).trans ?_
          exact zq_ri hm rfl rfl
        · refine (zJ_n rfl).trans ?_
          refine (zq_aln hm (pc' := 74) rfl rfl rfl rfl).trans ?_
          refine (zq_gr hm (pc' := 77) rfl lay_17 rfl rfl).trans ?_
          refine (zJ_n rfl).trans ?_
          refine (zq_il hm (pc' := 79) rfl rfl rfl rfl).trans ?_
          refine (zq_il hm (pc' := 81) rfl rfl rfl rfl).trans ?_
          refine (zq_v1 hm (pc' := 84) rfl rfl rfl (cls_1_3) rfl rfl).trans (zCI_c rfl (fun r104 s103 => ?_))
          refine (zJ_n rfl).trans ?_
          refine (zq_is hm (ls' := [some (.inl (some 17)), none, some (.inr (.inl y1)), some (.inr (.inl y2)), some (.inr (.inl r104)), some (.inr (.inl y4)), some (.inr (.inl r102))]) (pc' := 86) rfl rfl rfl rfl).trans ?_
          refine (zq_iinc hm (ls' := [some (.inl (some 17)), none, some (.inr (.inl y1)), some (.inr (.inl y2)), some (.inr (.inl r104)), some (.inr (.inl (zw (y4 + 1)))), some (.inr (.inl r102))]) (pc' := 89) rfl rfl rfl rfl rfl rfl).trans ?_
          exact (zc_goto hm rfl rfl).trans rfl
  · refine (zJ_n rfl).trans ?_
    refine (zq_iln hm (pc' := 93) rfl rfl rfl rfl).trans ?_
    refine (zq_bi hm (pc' := 95) rfl rfl rfl rfl).trans ?_
    refine (zq_ine hm (pc' := 98) rfl rfl).trans (zite ?_ ?_)
    · refine (zJ_n rfl).trans ?_
      refine (zq_il hm (pc' := 100) rfl rfl rfl rfl).trans ?_
      refine (zq_goto hm rfl rfl).trans ?_
      exact zq_ri hm rfl rfl
    · refine (zJ_n rfl).trans ?_
      refine (zq_bi hm (pc' := 105) rfl rfl rfl rfl).trans ?_
      exact zq_ri hm rfl rfl
noncomputable def P_X9_nextRoad_2 (d : Nat) (y1 : Int) (y2 : Int) (σ : zF) : Option zR := zrunL zX2 (zexec zX2 zMT d) K_X9_nextRoad U_X9_nextRoad 2 [some (.inl (some 17)), some (.inr (.inl y1)), some (.inr (.inl y2)), none] [] (LAY, σ)
set_option maxRecDepth 100000 in
set_option maxHeartbeats 4000000 in
theorem e_X9_nextRoad (d : Nat) (x1 : Int) (σ : zF) : zx (d + 1) 97 [.inl (some 17), .inr (.inl x1)] σ = (
P_X9_nextRoad_2 d x1 0 σ) := by
  unfold zx
  have hm := zexec_m zX2 zMT d
  refine (zexec_eq mt_97 _ rfl (LAY, σ) 0).trans ?_
  show zrunL zX2 (zexec zX2 zMT d) K_X9_nextRoad U_X9_nextRoad 0 [some (.inl (some 17)), some (.inr (.inl x1)), none, none] [] (LAY, σ) = _
  refine (zq_ic hm (pc' := 1) rfl rfl rfl rfl).trans ?_
  exact (zc_isn hm (ls' := [some (.inl (some 17)), some (.inr (.inl x1)), some (.inr (.inl 0)), none]) (pc' := 2) rfl rfl rfl rfl).trans rfl
set_option maxRecDepth 100000 in
set_option maxHeartbeats 4000000 in
theorem e_X9_nextRoad_2 (d : Nat) (y1 : Int) (y2 : Int) (σ : zF) : P_X9_nextRoad_2 d y1 y2 σ = (
if y2 < (σ 1 0) then (
zCI LAY (zx d 23 [.inl (some 1), .inr (.inl y2), .inr (.inl y1)] σ) fun r102 s101 =>
zCI LAY (zx d 89 [.inl (some 17), .inr (.inl y2)] s101) fun r104 s103 =>
if r104 = 0 then (
P_X9_nextRoad_2 d y1 (zw (y2 + 1)) s103) else (
if r102 = (-1) then (
P_X9_nextRoad_2 d y1 (zw (y2 + 1)) s103) else (
if 0 ≤ r102 ∧ r102 < 8 then (
if 0 ≤ y2 ∧ y2 < 12 then (
if 0 ≤ y1 ∧ y1 < 8 then (
if zw ((s103 23 r102) + (s103 22 y2)) = (s103 23 y1) then (
zri y2 s103) else (
P_X9_nextRoad_2 d y1 (zw (y2 + 1)) s103)) else (
none)) else (
none)) else (
none)))) else (
zri (-1) σ)) := by
  have hm := zexec_m zX2 zMT d
  show zrunL zX2 (zexec zX2 zMT d) K_X9_nextRoad U_X9_nextRoad 2 [some (.inl (some 17)), some (.inr (.inl y1)), some (.inr (.inl y2)), none] [] (LAY, σ) = _
  refine (zq_iln hm (pc' := 3) rfl rfl rfl rfl).trans ?_
  refine (zq_aln hm (pc' := 4) rfl rfl rfl rfl).trans ?_
  refine (zq_gr hm (pc' := 7) rfl lay_17 rfl rfl).trans ?_
  refine (zJ_n rfl).trans ?_
  refine (zq_gf hm (v := (σ 1 0)) (pc' := 10) rfl lay_1 rfl rfl rfl).trans ?_
  refine (zJ_n rfl).trans ?_
  refine (zq_ige hm (pc' := 13) rfl rfl).trans (zite ?_ ?_)
  · refine (zJ_n rfl).trans ?_
    refine (zq_aln hm (pc' := 14) rfl rfl rfl rfl).trans ?_
    refine (zq_gr hm (pc' := 17) rfl lay_17 rfl rfl).trans ?_
    refine (zJ_n rfl).trans ?_
    refine (zq_iln hm (pc' := 18) rfl rfl rfl rfl).trans ?_
    refine (zq_iln hm (pc' := 19) rfl rfl rfl rfl).trans ?_
    refine (zq_v1 hm (pc' := 22) rfl rfl rfl (cls_1_3) rfl rfl).trans (zCI_c rfl (fun r102 s101 => ?_))
    refine (zJ_n rfl).trans ?_
    refine (zq_isn hm (ls' := [some (.inl (some 17)), some (.inr (.inl y1)), some (.inr (.inl y2)), some (.inr (.inl r102))]) (pc' := 23) rfl rfl rfl rfl).trans ?_
    refine (zq_aln hm (pc' := 24) rfl rfl rfl rfl).trans ?_
    refine (zq_iln hm (pc' := 25) rfl rfl rfl rfl).trans ?_
    refine (zq_v1 hm (pc' := 28) rfl rfl rfl (cls_17_9) rfl rfl).trans (zCI_c rfl (fun r104 s103 => ?_))
    refine (zJ_n rfl).trans ?_
    refine (zq_zeq hm (pc' := 31) rfl rfl).trans (zite ?_ ?_)
    · refine (zJ_n rfl).trans ?_
      refine (zq_iinc hm (ls' := [some (.inl (some 17)), some (.inr (.inl y1)), some (.inr (.inl (zw (y2 + 1)))), some (.inr (.inl r102))]) (pc' := 63) rfl rfl rfl rfl rfl rfl).trans ?_
      exact (zc_goto hm rfl rfl).trans rfl
    · refine (zJ_n rfl).trans ?_
      refine (zq_iln hm (pc' := 32) rfl rfl rfl rfl).trans ?_
      refine (zq_ic hm (pc' := 33) rfl rfl rfl rfl).trans ?_
      refine (zq_ieq hm (pc' := 36) rfl rfl).trans (zite ?_ ?_)
      · refine (zJ_n rfl).trans ?_
        refine (zq_iinc hm (ls' := [some (.inl (some 17)), some (.inr (.inl y1)), some (.inr (.inl (zw (y2 + 1)))), some (.inr (.inl r102))]) (pc' := 63) rfl rfl rfl rfl rfl rfl).trans ?_
        exact (zc_goto hm rfl rfl).trans rfl
      · refine (zJ_n rfl).trans ?_
        refine (zq_aln hm (pc' := 37) rfl rfl rfl rfl).trans ?_
        refine (zq_gr hm (pc' := 40) rfl lay_17 rfl rfl).trans ?_
        refine (zJ_n rfl).trans ?_
        refine (zq_iln hm (pc' := 41) rfl rfl rfl rfl).trans ?_
        refine (zq_ia hm (v := (s103 23 r102)) (pc' := 42) rfl lay_23 rfl rfl).trans (zite ?_ rfl)
        refine (zJ_n rfl).trans ?_
        refine (zq_aln hm (pc' := 43) rfl rfl rfl rfl).trans ?_
        refine (zq_gr hm (pc' := 46) rfl lay_17 rfl rfl).trans ?_
        refine (zJ_n rfl).trans ?_
        refine (zq_iln hm (pc' := 47) rfl rfl rfl rfl).trans ?_
        refine (zq_ia hm (v := (s103 22 y2)) (pc' := 48) rfl lay_22 rfl rfl).trans (zite ?_ rfl)
        refine (zJ_n rfl).trans ?_
        refine (zq_iadd hm (pc' := 49) rfl rfl rfl).trans ?_
        refine (zq_aln hm (pc' := 50) rfl rfl rfl rfl).trans ?_
        refine (zq_gr hm (pc' := 53) rfl lay_17 rfl rfl).trans ?_
        refine (zJ_n rfl).trans ?_
        refine (zq_iln hm (pc' := 54) rfl rfl rfl rfl).trans ?_
        refine (zq_ia hm (v := (s103 23 y1)) (pc' := 55) rfl lay_23 rfl rfl).trans (zite ?_ rfl)
        refine (zJ_n rfl).trans ?_
        refine (zq_ine hm (pc' := 58) rfl rfl).trans (zite ?_ ?_)
        · refine (zJ_n rfl).trans ?_
          refine (zq_iln hm (pc' := 59) rfl rfl rfl rfl).trans ?_
          exact zq_ri hm rfl rfl
        · refine (zJ_n rfl).trans ?_
          refine (zq_iinc hm (ls' := [some (.inl (some 17)), some (.inr (.inl y1)), some (.inr (.inl (zw (y2 + 1)))), some (.inr (.inl r102))]) (pc' := 63) rfl rfl rfl rfl rfl rfl).trans ?_
          exact (zc_goto hm rfl rfl).trans rfl
  · refine (zJ_n rfl).trans ?_
    refine (zq_ic hm (pc' := 67) rfl rfl rfl rfl).trans ?_
    exact zq_ri hm rfl rfl
noncomputable def P_X9_placesWithin_4 (d : Nat) (y1 : Int) (y2 : Int) (y3 : Int) (σ : zF) : Option zR := zrunL zX2 (zexec zX2 zMT d) K_X9_placesWithin U_X9_placesWithin 4 [some (.inl (some 17)), some (.inr (.inl y1)), some (.inr (.inl y2)), some (.inr (.inl y3))] [] (LAY, σ)
set_option maxRecDepth 100000 in
set_option maxHeartbeats 4000000 in
theorem e_X9_placesWithin (d : Nat) (x1 : Int) (σ : zF) : zx (d + 1) 98 [.inl (some 17), .inr (.inl x1)] σ = (
P_X9_placesWithin_4 d x1 0 0 σ) := by
  unfold zx
  have hm := zexec_m zX2 zMT d
  refine (zexec_eq mt_98 _ rfl (LAY, σ) 0).trans ?_
  show zrunL zX2 (zexec zX2 zMT d) K_X9_placesWithin U_X9_placesWithin 0 [some (.inl (some 17)), some (.inr (.inl x1)), none, none] [] (LAY, σ) = _
  refine (zq_ic hm (pc' := 1) rfl rfl rfl rfl).trans ?_
  refine (zq_isn hm (ls' := [some (.inl (some 17)), some (.inr (.inl x1)), some (.inr (.inl 0)), none]) (pc' := 2) rfl rfl rfl rfl).trans ?_
  refine (zq_ic hm (pc' := 3) rfl rfl rfl rfl).trans ?_
  exact (zc_isn hm (ls' := [some (.inl (some 17)), some (.inr (.inl x1)), some (.inr (.inl 0)), some (.inr (.inl 0))]) (pc' := 4) rfl rfl rfl rfl).trans rfl
set_option maxRecDepth 100000 in
set_option maxHeartbeats 4000000 in
theorem e_X9_placesWithin_4 (d : Nat) (y1 : Int) (y2 : Int) (y3 : Int) (σ : zF) : P_X9_placesWithin_4 d y1 y2 y3 σ = (
if y3 < 8 then (
if 0 ≤ y3 ∧ y3 < 8 then (
if y1 < (σ 23 y3) then (
P_X9_placesWithin_4 d y1 y2 (zw (y3 + 1)) σ) else (
P_X9_placesWithin_4 d y1 (zor y2 (zshl 1 y3)) (zw (y3 + 1)) σ)) else (
none)) else (
zri y2 σ)) := by
  have hm := zexec_m zX2 zMT d
  show zrunL zX2 (zexec zX2 zMT d) K_X9_placesWithin U_X9_placesWithin 4 [some (.inl (some 17)), some (.inr (.inl y1)), some (.inr (.inl y2)), some (.inr (.inl y3))] [] (LAY, σ) = _
  refine (zq_iln hm (pc' := 5) rfl rfl rfl rfl).trans ?_
  refine (zq_bi hm (pc' := 7) rfl rfl rfl rfl).trans ?_
  refine (zq_ige hm (pc' := 10) rfl rfl).trans (zite ?_ ?_)
  · refine (zJ_n rfl).trans ?_
    refine (zq_aln hm (pc' := 11) rfl rfl rfl rfl).trans ?_
    refine (zq_gr hm (pc' := 14) rfl lay_17 rfl rfl).trans ?_
    refine (zJ_n rfl).trans ?_
    refine (zq_iln hm (pc' := 15) rfl rfl rfl rfl).trans ?_
    refine (zq_ia hm (v := (σ 23 y3)) (pc' := 16) rfl lay_23 rfl rfl).trans (zite ?_ rfl)
    refine (zJ_n rfl).trans ?_
    refine (zq_iln hm (pc' := 17) rfl rfl rfl rfl).trans ?_
    refine (zq_igt hm (pc' := 20) rfl rfl).trans (zite ?_ ?_)
    · refine (zJ_n rfl).trans ?_
      refine (zq_iinc hm (ls' := [some (.inl (some 17)), some (.inr (.inl y1)), some (.inr (.inl y2)), some (.inr (.inl (zw (y3 + 1))))]) (pc' := 29) rfl rfl rfl rfl rfl rfl).trans ?_
      exact (zc_goto hm rfl rfl).trans rfl
    · refine (zJ_n rfl).trans ?_
      refine (zq_iln hm (pc' := 21) rfl rfl rfl rfl).trans ?_
      refine (zq_ic hm (pc' := 22) rfl rfl rfl rfl).trans ?_
      refine (zq_iln hm (pc' := 23) rfl rfl rfl rfl).trans ?_
      refine (zq_ishl hm (pc' := 24) rfl rfl rfl).trans ?_
      refine (zq_ior hm (pc' := 25) rfl rfl rfl).trans ?_
      refine (zq_isn hm (ls' := [some (.inl (some 17)), some (.inr (.inl y1)), some (.inr (.inl (zor y2 (zshl 1 y3)))), some (.inr (.inl y3))]) (pc' := 26) rfl rfl rfl rfl).trans ?_
      refine (zq_iinc hm (ls' := [some (.inl (some 17)), some (.inr (.inl y1)), some (.inr (.inl (zor y2 (zshl 1 y3)))), some (.inr (.inl (zw (y3 + 1))))]) (pc' := 29) rfl rfl rfl rfl rfl rfl).trans ?_
      exact (zc_goto hm rfl rfl).trans rfl
  · refine (zJ_n rfl).trans ?_
    refine (zq_iln hm (pc' := 33) rfl rfl rfl rfl).trans ?_
    exact zq_ri hm rfl rfl
noncomputable def P_X9_farthest_6 (d : Nat) (y1 : Int) (y2 : Int) (y3 : Int) (σ : zF) : Option zR := zrunL zX2 (zexec zX2 zMT d) K_X9_farthest U_X9_farthest 6 [some (.inl (some 17)), some (.inr (.inl y1)), some (.inr (.inl y2)), some (.inr (.inl y3))] [] (LAY, σ)
set_option maxRecDepth 100000 in
set_option maxHeartbeats 4000000 in
theorem e_X9_farthest (d : Nat) (σ : zF) : zx (d + 1) 99 [.inl (some 17)] σ = (
P_X9_farthest_6 d (-1) (-1) 0 σ) := by
  unfold zx
  have hm := zexec_m zX2 zMT d
  refine (zexec_eq mt_99 _ rfl (LAY, σ) 0).trans ?_
  show zrunL zX2 (zexec zX2 zMT d) K_X9_farthest U_X9_farthest 0 [some (.inl (some 17)), none, none, none] [] (LAY, σ) = _
  refine (zq_ic hm (pc' := 1) rfl rfl rfl rfl).trans ?_
  refine (zq_isn hm (ls' := [some (.inl (some 17)), some (.inr (.inl (-1))), none, none]) (pc' := 2) rfl rfl rfl rfl).trans ?_
  refine (zq_ic hm (pc' := 3) rfl rfl rfl rfl).trans ?_
  refine (zq_isn hm (ls' := [some (.inl (some 17)), some (.inr (.inl (-1))), some (.inr (.inl (-1))), none]) (pc' := 4) rfl rfl rfl rfl).trans ?_
  refine (zq_ic hm (pc' := 5) rfl rfl rfl rfl).trans ?_
  exact (zc_isn hm (ls' := [some (.inl (some 17)), some (.inr (.inl (-1))), some (.inr (.inl (-1))), some (.inr (.inl 0))]) (pc' := 6) rfl rfl rfl rfl).trans rfl
set_option maxRecDepth 100000 in
set_option maxHeartbeats 4000000 in
theorem e_X9_farthest_6 (d : Nat) (y1 : Int) (y2 : Int) (y3 : Int) (σ : zF) : P_X9_farthest_6 d y1 y2 y3 σ = (
if y3 < 8 then (
if 0 ≤ y3 ∧ y3 < 8 then (
if (σ 23 y3) < 1000000 then (
if 0 ≤ y3 ∧ y3 < 8 then (
if y2 < (σ 23 y3) then (
if 0 ≤ y3 ∧ y3 < 8 then (
P_X9_farthest_6 d y3 (σ 23 y3) (zw (y3 + 1)) σ) else (
none)) else (
P_X9_farthest_6 d y1 y2 (zw (y3 + 1)) σ)) else (
none)) else (
P_X9_farthest_6 d y1 y2 (zw (y3 + 1)) σ)) else (
none)) else (
zri (zmax 0 y1) σ)) := by
  have hm := zexec_m zX2 zMT d
  show zrunL zX2 (zexec zX2 zMT d) K_X9_farthest U_X9_farthest 6 [some (.inl (some 17)), some (.inr (.inl y1)), some (.inr (.inl y2)), some (.inr (.inl y3))] [] (LAY, σ) = _
  refine (zq_iln hm (pc' := 7) rfl rfl rfl rfl).trans ?_
  refine (zq_bi hm (pc' := 9) rfl rfl rfl rfl).trans ?_
  refine (zq_ige hm (pc' := 12) rfl rfl).trans (zite ?_ ?_)
  · refine (zJ_n rfl).trans ?_
    refine (zq_aln hm (pc' := 13) rfl rfl rfl rfl).trans ?_
    refine (zq_gr hm (pc' := 16) rfl lay_17 rfl rfl).trans ?_
    refine (zJ_n rfl).trans ?_
    refine (zq_iln hm (pc' := 17) rfl rfl rfl rfl).trans ?_
    refine (zq_ia hm (v := (σ 23 y3)) (pc' := 18) rfl lay_23 rfl rfl).trans (zite ?_ rfl)
    refine (zJ_n rfl).trans ?_
    refine (zq_ld hm (pc' := 20) rfl rfl rfl rfl).trans ?_
    refine (zq_ige hm (pc' := 23) rfl rfl).trans (zite ?_ ?_)
    · refine (zJ_n rfl).trans ?_
      refine (zq_aln hm (pc' := 24) rfl rfl rfl rfl).trans ?_
      refine (zq_gr hm (pc' := 27) rfl lay_17 rfl rfl).trans ?_
      refine (zJ_n rfl).trans ?_
      refine (zq_iln hm (pc' := 28) rfl rfl rfl rfl).trans ?_
      refine (zq_ia hm (v := (σ 23 y3)) (pc' := 29) rfl lay_23 rfl rfl).trans (zite ?_ rfl)
      refine (zJ_n rfl).trans ?_
      refine (zq_iln hm (pc' := 30) rfl rfl rfl rfl).trans ?_
      refine (zq_ile hm (pc' := 33) rfl rfl).trans (zite ?_ ?_)
      · refine (zJ_n rfl).trans ?_
        refine (zq_iln hm (pc' := 34) rfl rfl rfl rfl).trans ?_
        refine (zq_isn hm (ls' := [some (.inl (some 17)), some (.inr (.inl y3)), some (.inr (.inl y2)), some (.inr (.inl y3))]) (pc' := 35) rfl rfl rfl rfl).trans ?_
        refine (zq_aln hm (pc' := 36) rfl rfl rfl rfl).trans ?_
        refine (zq_gr hm (pc' := 39) rfl lay_17 rfl rfl).trans ?_
        refine (zJ_n rfl).trans ?_
        refine (zq_iln hm (pc' := 40) rfl rfl rfl rfl).trans ?_
        refine (zq_ia hm (v := (σ 23 y3)) (pc' := 41) rfl lay_23 rfl rfl).trans (zite ?_ rfl)
        refine (zJ_n rfl).trans ?_
        refine (zq_isn hm (ls' := [some (.inl (some 17)), some (.inr (.inl y3)), some (.inr (.inl (σ 23 y3))), some (.inr (.inl y3))]) (pc' := 42) rfl rfl rfl rfl).trans ?_
        refine (zq_iinc hm (ls' := [some (.inl (some 17)), some (.inr (.inl y3)), some (.inr (.inl (σ 23 y3))), some (.inr (.inl (zw (y3 + 1))))]) (pc' := 45) rfl rfl rfl rfl rfl rfl).trans ?_
        exact (zc_goto hm rfl rfl).trans rfl
      · refine (zJ_n rfl).trans ?_
        refine (zq_iinc hm (ls' := [some (.inl (some 17)), some (.inr (.inl y1)), some (.inr (.inl y2)), some (.inr (.inl (zw (y3 + 1))))]) (pc' := 45) rfl rfl rfl rfl rfl rfl).trans ?_
        exact (zc_goto hm rfl rfl).trans rfl
    · refine (zJ_n rfl).trans ?_
      refine (zq_iinc hm (ls' := [some (.inl (some 17)), some (.inr (.inl y1)), some (.inr (.inl y2)), some (.inr (.inl (zw (y3 + 1))))]) (pc' := 45) rfl rfl rfl rfl rfl rfl).trans ?_
      exact (zc_goto hm rfl rfl).trans rfl
  · refine (zJ_n rfl).trans ?_
    refine (zq_ic hm (pc' := 49) rfl rfl rfl rfl).trans ?_
    refine (zq_iln hm (pc' := 50) rfl rfl rfl rfl).trans ?_
    refine (zq_max hm (pc' := 53) rfl rfl rfl rfl).trans ?_
    refine (zJ_n rfl).trans ?_
    exact zq_ri hm rfl rfl
noncomputable def P_X9_firstNotSo_2 (d : Nat) (y1 : Nat) (y2 : Int) (σ : zF) : Option zR := zrunL zX2 (zexec zX2 zMT d) K_X9_firstNotSo U_X9_firstNotSo 2 [some (.inl (some 17)), some (.inl (some y1)), some (.inr (.inl y2))] [] (LAY, σ)
set_option maxRecDepth 100000 in
set_option maxHeartbeats 4000000 in
theorem e_X9_firstNotSo (d : Nat) (k : Nat) (σ : zF) : zx (d + 1) 100 [.inl (some 17), .inl (some k)] σ = (
P_X9_firstNotSo_2 d k 0 σ) := by
  unfold zx
  have hm := zexec_m zX2 zMT d
  refine (zexec_eq mt_100 _ rfl (LAY, σ) 0).trans ?_
  show zrunL zX2 (zexec zX2 zMT d) K_X9_firstNotSo U_X9_firstNotSo 0 [some (.inl (some 17)), some (.inl (some k)), none] [] (LAY, σ) = _
  refine (zq_ic hm (pc' := 1) rfl rfl rfl rfl).trans ?_
  exact (zc_isn hm (ls' := [some (.inl (some 17)), some (.inl (some k)), some (.inr (.inl 0))]) (pc' := 2) rfl rfl rfl rfl).trans rfl
set_option maxRecDepth 100000 in
set_option maxHeartbeats 4000000 in
theorem e_X9_firstNotSo_2 (d : Nat) (y1 : Nat) (y2 : Int) (σ : zF) : P_X9_firstNotSo_2 d y1 y2 σ = (
zfld LAY y1 7 1 (
if y2 < (σ y1 1) then (
if y2 < (σ 1 0) then (
zCI LAY (zx d 90 [.inl (some 17), .inr (.inl y2)] σ) fun r102 s101 =>
zfld LAY y1 7 3 none (fun t103 =>
zar LAY 1 t103 y2 (
if zcmpl r102 (s101 t103 y2) = 0 then (
P_X9_firstNotSo_2 d y1 (zw (y2 + 1)) s101) else (
zri y2 s101)))) else (
zri y2 σ)) else (
zri (-2) σ)) (fun _ => none)) := by
  have hm := zexec_m zX2 zMT d
  show zrunL zX2 (zexec zX2 zMT d) K_X9_firstNotSo U_X9_firstNotSo 2 [some (.inl (some 17)), some (.inl (some y1)), some (.inr (.inl y2))] [] (LAY, σ) = _
  refine (zq_iln hm (pc' := 3) rfl rfl rfl rfl).trans ?_
  refine (zq_aln hm (pc' := 4) rfl rfl rfl rfl).trans ?_
  refine (zq_gs hm (pc' := 7) rfl rfl).trans (zfld_i lay_num_7_1 ?_)
  refine (zJ_n rfl).trans ?_
  refine (zq_ige hm (pc' := 10) rfl rfl).trans (zite ?_ ?_)
  · refine (zJ_n rfl).trans ?_
    refine (zq_iln hm (pc' := 11) rfl rfl rfl rfl).trans ?_
    refine (zq_aln hm (pc' := 12) rfl rfl rfl rfl).trans ?_
    refine (zq_gr hm (pc' := 15) rfl lay_17 rfl rfl).trans ?_
    refine (zJ_n rfl).trans ?_
    refine (zq_gf hm (v := (σ 1 0)) (pc' := 18) rfl lay_1 rfl rfl rfl).trans ?_
    refine (zJ_n rfl).trans ?_
    refine (zq_ige hm (pc' := 21) rfl rfl).trans (zite ?_ ?_)
    · refine (zJ_n rfl).trans ?_
      refine (zq_aln hm (pc' := 22) rfl rfl rfl rfl).trans ?_
      refine (zq_iln hm (pc' := 23) rfl rfl rfl rfl).trans ?_
      refine (zq_v1 hm (pc' := 26) rfl rfl rfl (cls_17_9) rfl rfl).trans (zCI_c rfl (fun r102 s101 => ?_))
      refine (zJ_n rfl).trans ?_
      refine (zq_i2l hm (pc' := 27) rfl rfl rfl).trans ?_
      refine (zq_aln hm (pc' := 28) rfl rfl rfl rfl).trans ?_
      refine (zq_gs hm (pc' := 31) rfl rfl).trans (zfld_r lay_ref_7_3 (fun t103 => ?_))
      refine (zJ_n rfl).trans ?_
      refine (zq_iln hm (pc' := 32) rfl rfl rfl rfl).trans ?_
      refine (zq_lay hm (pc' := 33) rfl rfl).trans (zar_c ?_)
      refine (zJ_n rfl).trans ?_
      refine (zq_lcmp hm (pc' := 34) rfl rfl rfl).trans ?_
      refine (zq_zeq hm (pc' := 37) rfl rfl).trans (zite ?_ ?_)
      · refine (zJ_n rfl).trans ?_
        refine (zq_iinc hm (ls' := [some (.inl (some 17)), some (.inl (some y1)), some (.inr (.inl (zw (y2 + 1))))]) (pc' := 42) rfl rfl rfl rfl rfl rfl).trans ?_
        exact (zc_goto hm rfl rfl).trans rfl
      · refine (zJ_n rfl).trans ?_
        refine (zq_iln hm (pc' := 38) rfl rfl rfl rfl).trans ?_
        exact zq_ri hm rfl rfl
    · refine (zJ_n rfl).trans ?_
      refine (zq_iln hm (pc' := 38) rfl rfl rfl rfl).trans ?_
      exact zq_ri hm rfl rfl
  · refine (zJ_n rfl).trans ?_
    refine (zq_bi hm (pc' := 47) rfl rfl rfl rfl).trans ?_
    exact zq_ri hm rfl rfl
noncomputable def P_X10_go_26 (d : Nat) (y1 : Nat) (y2 : Int) (σ : zF) : Option zR := zrunL zX2 (zexec zX2 zMT d) K_X10_go U_X10_go 26 [some (.inl (some 31)), some (.inl (some y1)), none, some (.inr (.inl y2)), none, none, none] [] (LAY, σ)
set_option maxRecDepth 100000 in
set_option maxHeartbeats 4000000 in
theorem e_X10_go (d : Nat) (k : Nat) (x2 : Int) (σ : zF) : zx (d + 1) 102 [.inl (some 31), .inl (some k), .inr (.inl x2)] σ = (
zCV LAY (zx d 87 [.inl (some 17), .inr (.inl (-1))] σ) fun s1 =>
P_X10_go_26 d k 0 (zset (zset (zset s1 31 2 0) 31 3 x2) 31 4 (-2))) := by
  unfold zx
  have hm := zexec_m zX2 zMT d
  refine (zexec_eq mt_102 _ rfl (LAY, σ) 0).trans ?_
  show zrunL zX2 (zexec zX2 zMT d) K_X10_go U_X10_go 0 [some (.inl (some 31)), some (.inl (some k)), some (.inr (.inl x2)), none, none, none, none] [] (LAY, σ) = _
  refine (zq_aln hm (pc' := 1) rfl rfl rfl rfl).trans ?_
  refine (zq_gr hm (pc' := 4) rfl lay_31 rfl rfl).trans ?_
  refine (zJ_n rfl).trans ?_
  refine (zq_ic hm (pc' := 5) rfl rfl rfl rfl).trans ?_
  refine (zq_v0 hm (pc' := 8) rfl rfl rfl (cls_17_9) rfl rfl).trans (zCV_c rfl (fun s1 => ?_))
  refine (zJ_n rfl).trans ?_
  refine (zq_aln hm (pc' := 9) rfl rfl rfl rfl).trans ?_
  refine (zq_ic hm (pc' := 10) rfl rfl rfl rfl).trans ?_
  refine (zq_pf hm (pc' := 13) rfl lay_31 rfl rfl rfl).trans ?_
  refine (zJ_n rfl).trans ?_
  refine (zq_aln hm (pc' := 14) rfl rfl rfl rfl).trans ?_
  refine (zq_iln hm (pc' := 15) rfl rfl rfl rfl).trans ?_
  refine (zq_pf hm (pc' := 18) rfl lay_31 rfl rfl rfl).trans ?_
  refine (zJ_n rfl).trans ?_
  refine (zq_aln hm (pc' := 19) rfl rfl rfl rfl).trans ?_
  refine (zq_bi hm (pc' := 21) rfl rfl rfl rfl).trans ?_
  refine (zq_pf hm (pc' := 24) rfl lay_31 rfl rfl rfl).trans ?_
  refine (zJ_n rfl).trans ?_
  refine (zq_ic hm (pc' := 25) rfl rfl rfl rfl).trans ?_
  exact (zc_isn hm (ls' := [some (.inl (some 31)), some (.inl (some k)), some (.inr (.inl x2)), some (.inr (.inl 0)), none, none, none]) (pc' := 26) rfl rfl rfl rfl).trans rfl
set_option maxRecDepth 100000 in
set_option maxHeartbeats 4000000 in
theorem e_X10_go_26 (d : Nat) (y1 : Nat) (y2 : Int) (σ : zF) : P_X10_go_26 d y1 y2 σ = (
if y2 < 20 then (
zfld LAY y1 7 1 (
if y2 < (σ y1 1) then (
zfld LAY y1 7 3 none (fun t101 =>
zar LAY 1 t101 y2 (
if (3 : Int) = 0 then none else (
if zw (σ t101 y2) < 0 then (
zrv σ) else (
zCI LAY (zx d 16 [.inl (some 1), .inr (.inl (zdiv (zw (σ t101 y2)) 3))] σ) fun r103 s102 =>
if r103 = 0 then (
zrv s102) else (
zCI LAY (zx d 23 [.inl (some 1), .inr (.inl (zdiv (zw (σ t101 y2)) 3)), .inr (.inl (s102 31 3))] s102) fun r105 s104 =>
if r105 = (-1) then (
zrv (zset s104 31 4 y2)) else (
if 0 ≤ zdiv (zw (σ t101 y2)) 3 ∧ zdiv (zw (σ t101 y2)) 3 < 12 then (
if (s104 7 (zdiv (zw (σ t101 y2)) 3)) = 0 then (
zCI LAY (zx d 90 [.inl (some 17), .inr (.inl (zdiv (zw (σ t101 y2)) 3))] s104) fun r107 s106 =>
if (3 : Int) = 0 then none else (
zCV LAY (zx d 25 [.inl (some 1), .inl (some 18), .inr (.inl (zdiv (zw (σ t101 y2)) 3)), .inr (.inl (zrem (zw (σ t101 y2)) 3))] (zset s106 31 2 (zw ((s104 31 2) + r107)))) fun s108 =>
P_X10_go_26 d y1 (zw (y2 + 1)) (zset s108 31 3 r105))) else (
zrv (zset s104 31 4 y2))) else (
none)))))))) else (
zrv σ)) (fun _ => none)) else (
zrv σ)) := by
  have hm := zexec_m zX2 zMT d
  show zrunL zX2 (zexec zX2 zMT d) K_X10_go U_X10_go 26 [some (.inl (some 31)), some (.inl (some y1)), none, some (.inr (.inl y2)), none, none, none] [] (LAY, σ) = _
  refine (zq_iln hm (pc' := 27) rfl rfl rfl rfl).trans ?_
  refine (zq_bi hm (pc' := 29) rfl rfl rfl rfl).trans ?_
  refine (zq_ige hm (pc' := 32) rfl rfl).trans (zite ?_ ?_)
  · refine (zJ_n rfl).trans ?_
    refine (zq_iln hm (pc' := 33) rfl rfl rfl rfl).trans ?_
    refine (zq_aln hm (pc' := 34) rfl rfl rfl rfl).trans ?_
    refine (zq_gs hm (pc' := 37) rfl rfl).trans (zfld_i lay_num_7_1 ?_)
    refine (zJ_n rfl).trans ?_
    refine (zq_ige hm (pc' := 40) rfl rfl).trans (zite ?_ ?_)
    · refine (zJ_n rfl).trans ?_
      refine (zq_aln hm (pc' := 41) rfl rfl rfl rfl).trans ?_
      refine (zq_gs hm (pc' := 44) rfl rfl).trans (zfld_r lay_ref_7_3 (fun t101 => ?_))
      refine (zJ_n rfl).trans ?_
      refine (zq_iln hm (pc' := 45) rfl rfl rfl rfl).trans ?_
      refine (zq_lay hm (pc' := 46) rfl rfl).trans (zar_c ?_)
      refine (zJ_n rfl).trans ?_
      refine (zq_l2i hm (pc' := 47) rfl rfl rfl).trans ?_
      refine (zq_is hm (ls' := [some (.inl (some 31)), some (.inl (some y1)), none, some (.inr (.inl y2)), some (.inr (.inl (zw (σ t101 y2)))), none, none]) (pc' := 49) rfl rfl rfl rfl).trans ?_
      refine (zq_il hm (pc' := 51) rfl rfl rfl rfl).trans ?_
      refine (zq_ic hm (pc' := 52) rfl rfl rfl rfl).trans ?_
      refine (zq_idiv hm (pc' := 53) rfl rfl).trans (zite rfl ?_)
      refine (zJ_n rfl).trans ?_
      refine (zq_is hm (ls' := [some (.inl (some 31)), some (.inl (some y1)), none, some (.inr (.inl y2)), some (.inr (.inl (zw (σ t101 y2)))), some (.inr (.inl (zdiv (zw (σ t101 y2)) 3))), none]) (pc' := 55) rfl rfl rfl rfl).trans ?_
      refine (zq_il hm (pc' := 57) rfl rfl rfl rfl).trans ?_
      refine (zq_zlt hm (pc' := 60) rfl rfl).trans (zite ?_ ?_)
      · refine (zJ_n rfl).trans ?_
        exact zq_rv hm rfl
      · refine (zJ_n rfl).trans ?_
        refine (zq_aln hm (pc' := 61) rfl rfl rfl rfl).trans ?_
        refine (zq_gr hm (pc' := 64) rfl lay_31 rfl rfl).trans ?_
        refine (zJ_n rfl).trans ?_
        refine (zq_il hm (pc' := 66) rfl rfl rfl rfl).trans ?_
        refine (zq_v1 hm (pc' := 69) rfl rfl rfl (cls_1_3) rfl rfl).trans (zCI_c rfl (fun r103 s102 => ?_))
        refine (zJ_n rfl).trans ?_
        refine (zq_zne hm (pc' := 72) rfl rfl).trans (zite ?_ ?_)
        · refine (zJ_n rfl).trans ?_
          exact zq_rv hm rfl
        · refine (zJ_n rfl).trans ?_
          refine (zq_aln hm (pc' := 74) rfl rfl rfl rfl).trans ?_
          refine (zq_gr hm (pc' := 77) rfl lay_31 rfl rfl).trans ?_
          refine (zJ_n rfl).trans ?_
          refine (zq_il hm (pc' := 79) rfl rfl rfl rfl).trans ?_
          refine (zq_aln hm (pc' := 80) rfl rfl rfl rfl).trans ?_
          refine (zq_gf hm (v := (s102 31 3)) (pc' := 83) rfl lay_31 rfl rfl rfl).trans ?_
          refine (zJ_n rfl).trans ?_
          refine (zq_v1 hm (pc' := 86) rfl rfl rfl (cls_1_3) rfl rfl).trans (zCI_c rfl (fun r105 s104 => ?_))
          refine (zJ_n rfl).trans ?_
          refine (zq_is hm (ls' := [some (.inl (some 31)), some (.inl (some y1)), none, some (.inr (.inl y2)), some (.inr (.inl (zw (σ t101 y2)))), some (.inr (.inl (zdiv (zw (σ t101 y2)) 3))), some (.inr (.inl r105))]) (pc' := 88) rfl rfl rfl rfl).trans ?_
          refine (zq_il hm (pc' := 90) rfl rfl rfl rfl).trans ?_
          refine (zq_ic hm (pc' := 91) rfl rfl rfl rfl).trans ?_
          refine (zq_ieq hm (pc' := 94) rfl rfl).trans (zite ?_ ?_)
          · refine (zJ_n rfl).trans ?_
            refine (zq_aln hm (pc' := 108) rfl rfl rfl rfl).trans ?_
            refine (zq_iln hm (pc' := 109) rfl rfl rfl rfl).trans ?_
            refine (zq_pf hm (pc' := 112) rfl lay_31 rfl rfl rfl).trans ?_
            refine (zJ_n rfl).trans ?_
            exact zq_rv hm rfl
          · refine (zJ_n rfl).trans ?_
            refine (zq_aln hm (pc' := 95) rfl rfl rfl rfl).trans ?_
            refine (zq_gr hm (pc' := 98) rfl lay_31 rfl rfl).trans ?_
            refine (zJ_n rfl).trans ?_
            refine (zq_gr hm (pc' := 101) rfl lay_1 rfl rfl).trans ?_
            refine (zJ_n rfl).trans ?_
            refine (zq_il hm (pc' := 103) rfl rfl rfl rfl).trans ?_
            refine (zq_ia hm (v := (s104 7 (zdiv (zw (σ t101 y2)) 3))) (pc' := 104) rfl lay_7 rfl rfl).trans (zite ?_ rfl)
            refine (zJ_n rfl).trans ?_
            refine (zq_zeq hm (pc' := 107) rfl rfl).trans (zite ?_ ?_)
            · refine (zJ_n rfl).trans ?_
              refine (zq_aln hm (pc' := 114) rfl rfl rfl rfl).trans ?_
              refine (zq_dup hm (pc' := 115) rfl rfl rfl rfl).trans ?_
              refine (zq_gf hm (v := (s104 31 2)) (pc' := 118) rfl lay_31 rfl rfl rfl).trans ?_
              refine (zJ_n rfl).trans ?_
              refine (zq_aln hm (pc' := 119) rfl rfl rfl rfl).trans ?_
              refine (zq_gr hm (pc' := 122) rfl lay_31 rfl rfl).trans ?_
              refine (zJ_n rfl).trans ?_
              refine (zq_il hm (pc' := 124) rfl rfl rfl rfl).trans ?_
              refine (zq_v1 hm (pc' := 127) rfl rfl rfl (cls_17_9) rfl rfl).trans (zCI_c rfl (fun r107 s106 => ?_))
              refine (zJ_n rfl).trans ?_
              refine (zq_iadd hm (pc' := 128) rfl rfl rfl).trans ?_
              refine (zq_pf hm (pc' := 131) rfl lay_31 rfl rfl rfl).trans ?_
              refine (zJ_n rfl).trans ?_
              refine (zq_aln hm (pc' := 132) rfl rfl rfl rfl).trans ?_
              refine (zq_gr hm (pc' := 135) rfl lay_31 rfl rfl).trans ?_
              refine (zJ_n rfl).trans ?_
              refine (zq_aln hm (pc' := 136) rfl rfl rfl rfl).trans ?_
              refine (zq_gr hm (pc' := 139) rfl lay_31 rfl rfl).trans ?_
              refine (zJ_n rfl).trans ?_
              refine (zq_gr hm (pc' := 142) rfl lay_17 rfl rfl).trans ?_
              refine (zJ_n rfl).trans ?_
              refine (zq_il hm (pc' := 144) rfl rfl rfl rfl).trans ?_
              refine (zq_il hm (pc' := 146) rfl rfl rfl rfl).trans ?_
              refine (zq_ic hm (pc' := 147) rfl rfl rfl rfl).trans ?_
              refine (zq_irem hm (pc' := 148) rfl rfl).trans (zite rfl ?_)
              refine (zJ_n rfl).trans ?_
              refine (zq_v0 hm (pc' := 151) rfl rfl rfl (cls_1_3) rfl rfl).trans (zCV_c rfl (fun s108 => ?_))
              refine (zJ_n rfl).trans ?_
              refine (zq_aln hm (pc' := 152) rfl rfl rfl rfl).trans ?_
              refine (zq_il hm (pc' := 154) rfl rfl rfl rfl).trans ?_
              refine (zq_pf hm (pc' := 157) rfl lay_31 rfl rfl rfl).trans ?_
              refine (zJ_n rfl).trans ?_
              refine (zq_iinc hm (ls' := [some (.inl (some 31)), some (.inl (some y1)), none, some (.inr (.inl (zw (y2 + 1)))), some (.inr (.inl (zw (σ t101 y2)))), some (.inr (.inl (zdiv (zw (σ t101 y2)) 3))), some (.inr (.inl r105))]) (pc' := 160) rfl rfl rfl rfl rfl rfl).trans ?_
              exact (zc_goto hm rfl rfl).trans rfl
            · refine (zJ_n rfl).trans ?_
              refine (zq_aln hm (pc' := 108) rfl rfl rfl rfl).trans ?_
              refine (zq_iln hm (pc' := 109) rfl rfl rfl rfl).trans ?_
              refine (zq_pf hm (pc' := 112) rfl lay_31 rfl rfl rfl).trans ?_
              refine (zJ_n rfl).trans ?_
              exact zq_rv hm rfl
    · refine (zJ_n rfl).trans ?_
      exact zq_rv hm rfl
  · refine (zJ_n rfl).trans ?_
    exact zq_rv hm rfl
set_option maxRecDepth 100000 in
set_option maxHeartbeats 4000000 in
theorem e_X11_road (d : Nat) (x1 : Int) (x2 : Int) (σ : zF) : zx (d + 1) 104 [.inl (some 0), .inr (.inl x1), .inr (.inl x2)] σ = (
zCI LAY (zx d 147 [.inr (.inl x1)] σ) fun r2 s1 =>
if r2 = 0 then (
zri (-1) s1) else (
zCI LAY (zx d 148 [.inr (.inl x2)] s1) fun r4 s3 =>
if r4 = 0 then (
zri (-1) s3) else (
if (10 : Int) = 0 then none else (
if (10 : Int) = 0 then none else (
zCI LAY (zx d 18 [.inl (some 1), .inr (.inl (zdiv x1 10)), .inr (.inl (zrem x1 10)), .inr (.inl x2)] s3) fun r6 s5 =>
zri r6 s5))))) := by
  unfold zx
  have hm := zexec_m zX2 zMT d
  refine (zexec_eq mt_104 _ rfl (LAY, σ) 0).trans ?_
  show zrunL zX2 (zexec zX2 zMT d) K_X11_road U_X11_road 0 [some (.inl (some 0)), some (.inr (.inl x1)), some (.inr (.inl x2))] [] (LAY, σ) = _
  refine (zq_iln hm (pc' := 1) rfl rfl rfl rfl).trans ?_
  refine (zq_s1 hm (pc' := 4) rfl rfl rfl rfl rfl rfl).trans (zCI_c rfl (fun r2 s1 => ?_))
  refine (zJ_n rfl).trans ?_
  refine (zq_zeq hm (pc' := 7) rfl rfl).trans (zite ?_ ?_)
  · refine (zJ_n rfl).trans ?_
    refine (zq_ic hm (pc' := 15) rfl rfl rfl rfl).trans ?_
    exact zq_ri hm rfl rfl
  · refine (zJ_n rfl).trans ?_
    refine (zq_iln hm (pc' := 8) rfl rfl rfl rfl).trans ?_
    refine (zq_s1 hm (pc' := 11) rfl rfl rfl rfl rfl rfl).trans (zCI_c rfl (fun r4 s3 => ?_))
    refine (zJ_n rfl).trans ?_
    refine (zq_zne hm (pc' := 14) rfl rfl).trans (zite ?_ ?_)
    · refine (zJ_n rfl).trans ?_
      refine (zq_ic hm (pc' := 15) rfl rfl rfl rfl).trans ?_
      exact zq_ri hm rfl rfl
    · refine (zJ_n rfl).trans ?_
      refine (zq_aln hm (pc' := 17) rfl rfl rfl rfl).trans ?_
      refine (zq_gr hm (pc' := 20) rfl lay_0 rfl rfl).trans ?_
      refine (zJ_n rfl).trans ?_
      refine (zq_iln hm (pc' := 21) rfl rfl rfl rfl).trans ?_
      refine (zq_bi hm (pc' := 23) rfl rfl rfl rfl).trans ?_
      refine (zq_idiv hm (pc' := 24) rfl rfl).trans (zite rfl ?_)
      refine (zJ_n rfl).trans ?_
      refine (zq_iln hm (pc' := 25) rfl rfl rfl rfl).trans ?_
      refine (zq_bi hm (pc' := 27) rfl rfl rfl rfl).trans ?_
      refine (zq_irem hm (pc' := 28) rfl rfl).trans (zite rfl ?_)
      refine (zJ_n rfl).trans ?_
      refine (zq_iln hm (pc' := 29) rfl rfl rfl rfl).trans ?_
      refine (zq_v1 hm (pc' := 32) rfl rfl rfl (cls_1_3) rfl rfl).trans (zCI_c rfl (fun r6 s5 => ?_))
      refine (zJ_n rfl).trans ?_
      exact zq_ri hm rfl rfl
noncomputable def P_X11_roads_56 (d : Nat) (y1 : Int) (y2 : Nat) (y3 : Int) (y4 : Int) (σ : zF) : Option zR := zrunL zX2 (zexec zX2 zMT d) K_X11_roads U_X11_roads 56 [some (.inl (some 0)), none, none, some (.inr (.inl y1)), some (.inl (some y2)), some (.inr (.inl y3)), some (.inr (.inl y4))] [] (LAY, σ)
set_option maxRecDepth 100000 in
set_option maxHeartbeats 4000000 in
theorem e_X11_roads (d : Nat) (x1 : Int) (x2 : Int) (x3 : Int) (σ : zF) : zx (d + 1) 105 [.inl (some 0), .inr (.inl x1), .inr (.inl x2), .inr (.inl x3)] σ = (
zCI LAY (zx d 150 [.inr (.inl x1)] σ) fun r2 s1 =>
if r2 = 0 then (
zri (-1) s1) else (
if x3 < 1 then (
zri (-1) s1) else (
if (12 : Int) < x3 then (
zri (-1) s1) else (
zaa LAY 44 x1 (fun t3 =>
bif zcls LAY t3 7 && true then (
zCI LAY (zx d 70 [.inl (some t3)] s1) fun r5 s4 =>
if r5 = 0 then (
bif zcls LAY t3 7 && true then (
zCI LAY (zx d 69 [.inl (some t3), .inr (.inl 0)] s4) fun r7 s6 =>
if r7 = 0 then (
zri (-12) s6) else (
P_X11_roads_56 d x3 t3 0 x2 s6)) else none) else (
zri 0 s4)) else none))))) := by
  unfold zx
  have hm := zexec_m zX2 zMT d
  refine (zexec_eq mt_105 _ rfl (LAY, σ) 0).trans ?_
  show zrunL zX2 (zexec zX2 zMT d) K_X11_roads U_X11_roads 0 [some (.inl (some 0)), some (.inr (.inl x1)), some (.inr (.inl x2)), some (.inr (.inl x3)), none, none, none] [] (LAY, σ) = _
  refine (zq_iln hm (pc' := 1) rfl rfl rfl rfl).trans ?_
  refine (zq_s1 hm (pc' := 4) rfl rfl rfl rfl rfl rfl).trans (zCI_c rfl (fun r2 s1 => ?_))
  refine (zJ_n rfl).trans ?_
  refine (zq_zeq hm (pc' := 7) rfl rfl).trans (zite ?_ ?_)
  · refine (zJ_n rfl).trans ?_
    refine (zq_ic hm (pc' := 19) rfl rfl rfl rfl).trans ?_
    exact zq_ri hm rfl rfl
  · refine (zJ_n rfl).trans ?_
    refine (zq_iln hm (pc' := 8) rfl rfl rfl rfl).trans ?_
    refine (zq_ic hm (pc' := 9) rfl rfl rfl rfl).trans ?_
    refine (zq_ilt hm (pc' := 12) rfl rfl).trans (zite ?_ ?_)
    · refine (zJ_n rfl).trans ?_
      refine (zq_ic hm (pc' := 19) rfl rfl rfl rfl).trans ?_
      exact zq_ri hm rfl rfl
    · refine (zJ_n rfl).trans ?_
      refine (zq_iln hm (pc' := 13) rfl rfl rfl rfl).trans ?_
      refine (zq_bi hm (pc' := 15) rfl rfl rfl rfl).trans ?_
      refine (zq_ile hm (pc' := 18) rfl rfl).trans (zite ?_ ?_)
      · refine (zJ_n rfl).trans ?_
        refine (zq_ic hm (pc' := 19) rfl rfl rfl rfl).trans ?_
        exact zq_ri hm rfl rfl
      · refine (zJ_n rfl).trans ?_
        refine (zq_aln hm (pc' := 21) rfl rfl rfl rfl).trans ?_
        refine (zq_gr hm (pc' := 24) rfl lay_0 rfl rfl).trans ?_
        refine (zJ_n rfl).trans ?_
        refine (zq_iln hm (pc' := 25) rfl rfl rfl rfl).trans ?_
        refine (zq_aa hm (pc' := 26) rfl rfl).trans (zaa_c (fun t3 => ?_))
        refine (zJ_n rfl).trans ?_
        refine (zq_as hm (ls' := [some (.inl (some 0)), some (.inr (.inl x1)), some (.inr (.inl x2)), some (.inr (.inl x3)), some (.inl (some t3)), none, none]) (pc' := 28) rfl rfl rfl rfl).trans ?_
        refine (zq_al hm (pc' := 30) rfl rfl rfl rfl).trans ?_
        refine (zq_vy1 hm (pc' := 33) rfl rfl rfl rfl rfl).trans (zbif_c (zCI_c rfl (fun r5 s4 => ?_)))
        refine (zJ_n rfl).trans ?_
        refine (zq_zeq hm (pc' := 36) rfl rfl).trans (zite ?_ ?_)
        · refine (zJ_n rfl).trans ?_
          refine (zq_al hm (pc' := 40) rfl rfl rfl rfl).trans ?_
          refine (zq_ic hm (pc' := 41) rfl rfl rfl rfl).trans ?_
          refine (zq_vy1 hm (pc' := 44) rfl rfl rfl rfl rfl).trans (zbif_c (zCI_c rfl (fun r7 s6 => ?_)))
          refine (zJ_n rfl).trans ?_
          refine (zq_zne hm (pc' := 47) rfl rfl).trans (zite ?_ ?_)
          · refine (zJ_n rfl).trans ?_
            refine (zq_bi hm (pc' := 49) rfl rfl rfl rfl).trans ?_
            exact zq_ri hm rfl rfl
          · refine (zJ_n rfl).trans ?_
            refine (zq_ic hm (pc' := 51) rfl rfl rfl rfl).trans ?_
            refine (zq_is hm (ls' := [some (.inl (some 0)), some (.inr (.inl x1)), some (.inr (.inl x2)), some (.inr (.inl x3)), some (.inl (some t3)), some (.inr (.inl 0)), none]) (pc' := 53) rfl rfl rfl rfl).trans ?_
            refine (zq_iln hm (pc' := 54) rfl rfl rfl rfl).trans ?_
            exact (zc_is hm (ls' := [some (.inl (some 0)), some (.inr (.inl x1)), some (.inr (.inl x2)), some (.inr (.inl x3)), some (.inl (some t3)), some (.inr (.inl 0)), some (.inr (.inl x2))]) (pc' := 56) rfl rfl rfl rfl).trans rfl
        · refine (zJ_n rfl).trans ?_
          refine (zq_ic hm (pc' := 37) rfl rfl rfl rfl).trans ?_
          exact zq_ri hm rfl rfl
set_option maxRecDepth 100000 in
set_option maxHeartbeats 4000000 in
theorem e_X11_roads_56 (d : Nat) (y1 : Int) (y2 : Nat) (y3 : Int) (y4 : Int) (σ : zF) : P_X11_roads_56 d y1 y2 y3 y4 σ = (
if y3 < y1 then (
if y4 < 0 then (
zri y3 σ) else (
zfld LAY y2 7 1 (
if zw ((σ y2 1) - 3) < y4 then (
zri y3 σ) else (
zCI LAY (zx d 106 [.inl (some 0), .inl (some y2), .inr (.inl y4)] σ) fun r102 s101 =>
if r102 = 0 then (
zri y3 s101) else (
P_X11_roads_56 d y1 y2 (zw (y3 + 1)) (zw (y4 + 3)) s101))) (fun _ => none))) else (
zri y3 σ)) := by
  have hm := zexec_m zX2 zMT d
  show zrunL zX2 (zexec zX2 zMT d) K_X11_roads U_X11_roads 56 [some (.inl (some 0)), none, none, some (.inr (.inl y1)), some (.inl (some y2)), some (.inr (.inl y3)), some (.inr (.inl y4))] [] (LAY, σ) = _
  refine (zq_il hm (pc' := 58) rfl rfl rfl rfl).trans ?_
  refine (zq_iln hm (pc' := 59) rfl rfl rfl rfl).trans ?_
  refine (zq_ige hm (pc' := 62) rfl rfl).trans (zite ?_ ?_)
  · refine (zJ_n rfl).trans ?_
    refine (zq_il hm (pc' := 64) rfl rfl rfl rfl).trans ?_
    refine (zq_zlt hm (pc' := 67) rfl rfl).trans (zite ?_ ?_)
    · refine (zJ_n rfl).trans ?_
      refine (zq_il hm (pc' := 104) rfl rfl rfl rfl).trans ?_
      exact zq_ri hm rfl rfl
    · refine (zJ_n rfl).trans ?_
      refine (zq_il hm (pc' := 69) rfl rfl rfl rfl).trans ?_
      refine (zq_al hm (pc' := 71) rfl rfl rfl rfl).trans ?_
      refine (zq_gs hm (pc' := 74) rfl rfl).trans (zfld_i lay_num_7_1 ?_)
      refine (zJ_n rfl).trans ?_
      refine (zq_ic hm (pc' := 75) rfl rfl rfl rfl).trans ?_
      refine (zq_isub hm (pc' := 76) rfl rfl rfl).trans ?_
      refine (zq_igt hm (pc' := 79) rfl rfl).trans (zite ?_ ?_)
      · refine (zJ_n rfl).trans ?_
        refine (zq_il hm (pc' := 104) rfl rfl rfl rfl).trans ?_
        exact zq_ri hm rfl rfl
      · refine (zJ_n rfl).trans ?_
        refine (zq_aln hm (pc' := 80) rfl rfl rfl rfl).trans ?_
        refine (zq_al hm (pc' := 82) rfl rfl rfl rfl).trans ?_
        refine (zq_il hm (pc' := 84) rfl rfl rfl rfl).trans ?_
        refine (zq_v1 hm (pc' := 87) rfl rfl rfl (cls_0_11) rfl rfl).trans (zCI_c rfl (fun r102 s101 => ?_))
        refine (zJ_n rfl).trans ?_
        refine (zq_zne hm (pc' := 90) rfl rfl).trans (zite ?_ ?_)
        · refine (zJ_n rfl).trans ?_
          refine (zq_goto hm rfl rfl).trans ?_
          refine (zq_il hm (pc' := 104) rfl rfl rfl rfl).trans ?_
          exact zq_ri hm rfl rfl
        · refine (zJ_n rfl).trans ?_
          refine (zq_iinc hm (ls' := [some (.inl (some 0)), none, none, some (.inr (.inl y1)), some (.inl (some y2)), some (.inr (.inl (zw (y3 + 1)))), some (.inr (.inl y4))]) (pc' := 96) rfl rfl rfl rfl rfl rfl).trans ?_
          refine (zq_iinc hm (ls' := [some (.inl (some 0)), none, none, some (.inr (.inl y1)), some (.inl (some y2)), some (.inr (.inl (zw (y3 + 1)))), some (.inr (.inl (zw (y4 + 3))))]) (pc' := 99) rfl rfl rfl rfl rfl rfl).trans ?_
          exact (zc_goto hm rfl rfl).trans rfl
  · refine (zJ_n rfl).trans ?_
    refine (zq_il hm (pc' := 104) rfl rfl rfl rfl).trans ?_
    exact zq_ri hm rfl rfl
set_option maxRecDepth 100000 in
set_option maxHeartbeats 4000000 in
theorem e_X11_addRoadFrom (d : Nat) (k : Nat) (x2 : Int) (σ : zF) : zx (d + 1) 106 [.inl (some 0), .inl (some k), .inr (.inl x2)] σ = (
zfld LAY k 7 3 none (fun t1 =>
zar LAY 1 t1 x2 (
zfld LAY k 7 3 none (fun t2 =>
zar LAY 1 t2 (zw (x2 + 1)) (
zfld LAY k 7 3 none (fun t3 =>
zar LAY 1 t3 (zw (x2 + 2)) (
zCI LAY (zx d 146 [.inr (.inl (zw (σ t1 x2)))] σ) fun r5 s4 =>
if r5 = 0 then (
zri 0 s4) else (
zCI LAY (zx d 146 [.inr (.inl (zw (σ t2 (zw (x2 + 1)))))] s4) fun r7 s6 =>
if r7 = 0 then (
zri 0 s6) else (
if zw (σ t1 x2) = zw (σ t2 (zw (x2 + 1))) then (
zri 0 s6) else (
zCI LAY (zx d 148 [.inr (.inl (zw (σ t3 (zw (x2 + 2)))))] s6) fun r9 s8 =>
if r9 = 0 then (
zri 0 s8) else (
zCI LAY (zx d 18 [.inl (some 1), .inr (.inl (zw (σ t1 x2))), .inr (.inl (zw (σ t2 (zw (x2 + 1))))), .inr (.inl (zw (σ t3 (zw (x2 + 2)))))] s8) fun r11 s10 =>
if r11 < 0 then (
zri 0 s10) else (
zri 1 s10)))))))))))) := by
  unfold zx
  have hm := zexec_m zX2 zMT d
  refine (zexec_eq mt_106 _ rfl (LAY, σ) 0).trans ?_
  show zrunL zX2 (zexec zX2 zMT d) K_X11_addRoadFrom U_X11_addRoadFrom 0 [some (.inl (some 0)), some (.inl (some k)), some (.inr (.inl x2)), none, none, none] [] (LAY, σ) = _
  refine (zq_aln hm (pc' := 1) rfl rfl rfl rfl).trans ?_
  refine (zq_gs hm (pc' := 4) rfl rfl).trans (zfld_r lay_ref_7_3 (fun t1 => ?_))
  refine (zJ_n rfl).trans ?_
  refine (zq_iln hm (pc' := 5) rfl rfl rfl rfl).trans ?_
  refine (zq_lay hm (pc' := 6) rfl rfl).trans (zar_c ?_)
  refine (zJ_n rfl).trans ?_
  refine (zq_l2i hm (pc' := 7) rfl rfl rfl).trans ?_
  refine (zq_isn hm (ls' := [some (.inl (some 0)), some (.inl (some k)), some (.inr (.inl x2)), some (.inr (.inl (zw (σ t1 x2)))), none, none]) (pc' := 8) rfl rfl rfl rfl).trans ?_
  refine (zq_aln hm (pc' := 9) rfl rfl rfl rfl).trans ?_
  refine (zq_gs hm (pc' := 12) rfl rfl).trans (zfld_r lay_ref_7_3 (fun t2 => ?_))
  refine (zJ_n rfl).trans ?_
  refine (zq_iln hm (pc' := 13) rfl rfl rfl rfl).trans ?_
  refine (zq_ic hm (pc' := 14) rfl rfl rfl rfl).trans ?_
  refine (zq_iadd hm (pc' := 15) rfl rfl rfl).trans ?_
  refine (zq_lay hm (pc' := 16) rfl rfl).trans (zar_c ?_)
  refine (zJ_n rfl).trans ?_
  refine (zq_l2i hm (pc' := 17) rfl rfl rfl).trans ?_
  refine (zq_is hm (ls' := [some (.inl (some 0)), some (.inl (some k)), some (.inr (.inl x2)), some (.inr (.inl (zw (σ t1 x2)))), some (.inr (.inl (zw (σ t2 (zw (x2 + 1)))))), none]) (pc' := 19) rfl rfl rfl rfl).trans ?_
  refine (zq_aln hm (pc' := 20) rfl rfl rfl rfl).trans ?_
  refine (zq_gs hm (pc' := 23) rfl rfl).trans (zfld_r lay_ref_7_3 (fun t3 => ?_))
  refine (zJ_n rfl).trans ?_
  refine (zq_iln hm (pc' := 24) rfl rfl rfl rfl).trans ?_
  refine (zq_ic hm (pc' := 25) rfl rfl rfl rfl).trans ?_
  refine (zq_iadd hm (pc' := 26) rfl rfl rfl).trans ?_
  refine (zq_lay hm (pc' := 27) rfl rfl).trans (zar_c ?_)
  refine (zJ_n rfl).trans ?_
  refine (zq_l2i hm (pc' := 28) rfl rfl rfl).trans ?_
  refine (zq_is hm (ls' := [some (.inl (some 0)), some (.inl (some k)), some (.inr (.inl x2)), some (.inr (.inl (zw (σ t1 x2)))), some (.inr (.inl (zw (σ t2 (zw (x2 + 1)))))), some (.inr (.inl (zw (σ t3 (zw (x2 + 2))))))]) (pc' := 30) rfl rfl rfl rfl).trans ?_
  refine (zq_iln hm (pc' := 31) rfl rfl rfl rfl).trans ?_
  refine (zq_s1 hm (pc' := 34) rfl rfl rfl rfl rfl rfl).trans (zCI_c rfl (fun r5 s4 => ?_))
  refine (zJ_n rfl).trans ?_
  refine (zq_zeq hm (pc' := 37) rfl rfl).trans (zite ?_ ?_)
  · refine (zJ_n rfl).trans ?_
    refine (zq_ic hm (pc' := 60) rfl rfl rfl rfl).trans ?_
    exact (zq_rb hm rfl rfl).trans (zif1 (by decide))
  · refine (zJ_n rfl).trans ?_
    refine (zq_il hm (pc' := 39) rfl rfl rfl rfl).trans ?_
    refine (zq_s1 hm (pc' := 42) rfl rfl rfl rfl rfl rfl).trans (zCI_c rfl (fun r7 s6 => ?_))
    refine (zJ_n rfl).trans ?_
    refine (zq_zeq hm (pc' := 45) rfl rfl).trans (zite ?_ ?_)
    · refine (zJ_n rfl).trans ?_
      refine (zq_ic hm (pc' := 60) rfl rfl rfl rfl).trans ?_
      exact (zq_rb hm rfl rfl).trans (zif1 (by decide))
    · refine (zJ_n rfl).trans ?_
      refine (zq_iln hm (pc' := 46) rfl rfl rfl rfl).trans ?_
      refine (zq_il hm (pc' := 48) rfl rfl rfl rfl).trans ?_
      refine (zq_ieq hm (pc' := 51) rfl rfl).trans (zite ?_ ?_)
      · refine (zJ_n rfl).trans ?_
        refine (zq_ic hm (pc' := 60) rfl rfl rfl rfl).trans ?_
        exact (zq_rb hm rfl rfl).trans (zif1 (by decide))
      · refine (zJ_n rfl).trans ?_
        refine (zq_il hm (pc' := 53) rfl rfl rfl rfl).trans ?_
        refine (zq_s1 hm (pc' := 56) rfl rfl rfl rfl rfl rfl).trans (zCI_c rfl (fun r9 s8 => ?_))
        refine (zJ_n rfl).trans ?_
        refine (zq_zne hm (pc' := 59) rfl rfl).trans (zite ?_ ?_)
        · refine (zJ_n rfl).trans ?_
          refine (zq_ic hm (pc' := 60) rfl rfl rfl rfl).trans ?_
          exact (zq_rb hm rfl rfl).trans (zif1 (by decide))
        · refine (zJ_n rfl).trans ?_
          refine (zq_aln hm (pc' := 62) rfl rfl rfl rfl).trans ?_
          refine (zq_gr hm (pc' := 65) rfl lay_0 rfl rfl).trans ?_
          refine (zJ_n rfl).trans ?_
          refine (zq_iln hm (pc' := 66) rfl rfl rfl rfl).trans ?_
          refine (zq_il hm (pc' := 68) rfl rfl rfl rfl).trans ?_
          refine (zq_il hm (pc' := 70) rfl rfl rfl rfl).trans ?_
          refine (zq_v1 hm (pc' := 73) rfl rfl rfl (cls_1_3) rfl rfl).trans (zCI_c rfl (fun r11 s10 => ?_))
          refine (zJ_n rfl).trans ?_
          refine (zq_zlt hm (pc' := 76) rfl rfl).trans (zite ?_ ?_)
          · refine (zJ_n rfl).trans ?_
            refine (zq_ic hm (pc' := 81) rfl rfl rfl rfl).trans ?_
            exact (zq_rb hm rfl rfl).trans (zif1 (by decide))
          · refine (zJ_n rfl).trans ?_
            refine (zq_ic hm (pc' := 77) rfl rfl rfl rfl).trans ?_
            refine (zq_goto hm rfl rfl).trans ?_
            exact (zq_rb hm rfl rfl).trans (zif1 (by decide))
set_option maxRecDepth 100000 in
set_option maxHeartbeats 4000000 in
theorem e_X11_traveller (d : Nat) (x1 : Int) (σ : zF) : zx (d + 1) 107 [.inl (some 0), .inr (.inl x1)] σ = (
zCI LAY (zx d 146 [.inr (.inl x1)] σ) fun r2 s1 =>
if r2 = 0 then (
zri (-1) s1) else (
zCI LAY (zx d 19 [.inl (some 1), .inr (.inl x1)] s1) fun r4 s3 =>
zri r4 s3)) := by
  unfold zx
  have hm := zexec_m zX2 zMT d
  refine (zexec_eq mt_107 _ rfl (LAY, σ) 0).trans ?_
  show zrunL zX2 (zexec zX2 zMT d) K_X11_traveller U_X11_traveller 0 [some (.inl (some 0)), some (.inr (.inl x1))] [] (LAY, σ) = _
  refine (zq_iln hm (pc' := 1) rfl rfl rfl rfl).trans ?_
  refine (zq_s1 hm (pc' := 4) rfl rfl rfl rfl rfl rfl).trans (zCI_c rfl (fun r2 s1 => ?_))
  refine (zJ_n rfl).trans ?_
  refine (zq_zeq hm (pc' := 7) rfl rfl).trans (zite ?_ ?_)
  · refine (zJ_n rfl).trans ?_
    refine (zq_ic hm (pc' := 19) rfl rfl rfl rfl).trans ?_
    exact zq_ri hm rfl rfl
  · refine (zJ_n rfl).trans ?_
    refine (zq_aln hm (pc' := 8) rfl rfl rfl rfl).trans ?_
    refine (zq_gr hm (pc' := 11) rfl lay_0 rfl rfl).trans ?_
    refine (zJ_n rfl).trans ?_
    refine (zq_iln hm (pc' := 12) rfl rfl rfl rfl).trans ?_
    refine (zq_v1 hm (pc' := 15) rfl rfl rfl (cls_1_3) rfl rfl).trans (zCI_c rfl (fun r4 s3 => ?_))
    refine (zJ_n rfl).trans ?_
    refine (zq_goto hm rfl rfl).trans ?_
    exact zq_ri hm rfl rfl
set_option maxRecDepth 100000 in
set_option maxHeartbeats 4000000 in
theorem e_X11_mend (d : Nat) (x1 : Int) (x2 : Int) (x3 : Int) (σ : zF) : zx (d + 1) 108 [.inl (some 0), .inr (.inl x1), .inr (.inl x2), .inr (.inl x3)] σ = (
if (5 : Int) < x2 then (
zri (-2000000000) σ) else (
zCI LAY (zx d 20 [.inl (some 1), .inr (.inl x1), .inr (.inl x2)] σ) fun r2 s1 =>
if r2 = 0 then (
zri (-2000000000) s1) else (
zCI LAY (zx d 22 [.inl (some 1), .inr (.inl x1), .inr (.inl x2), .inr (.inl x3)] s1) fun r4 s3 =>
if r4 = 0 then (
zri (-2000000000) s3) else (
zCR LAY (zx d 21 [.inl (some 1), .inr (.inl x2)] s3) fun t6 s5 =>
zia zX2 LAY s5 t6 x1 (fun v7 =>
if v7 = x3 then (
zri v7 s5) else (
zar LAY 0 t6 x1 (
zCV LAY (zx d 1 [.inl (some 32), .inr (.inl x1), .inr (.inl x2), .inr (.inl v7), .inr (.inl x3)] (zset s5 t6 x1 x3)) fun s8 =>
zri v7 s8))))))) := by
  unfold zx
  have hm := zexec_m zX2 zMT d
  refine (zexec_eq mt_108 _ rfl (LAY, σ) 0).trans ?_
  show zrunL zX2 (zexec zX2 zMT d) K_X11_mend U_X11_mend 0 [some (.inl (some 0)), some (.inr (.inl x1)), some (.inr (.inl x2)), some (.inr (.inl x3)), none, none] [] (LAY, σ) = _
  refine (zq_iln hm (pc' := 1) rfl rfl rfl rfl).trans ?_
  refine (zq_ic hm (pc' := 2) rfl rfl rfl rfl).trans ?_
  refine (zq_igt hm (pc' := 5) rfl rfl).trans (zite ?_ ?_)
  · refine (zJ_n rfl).trans ?_
    refine (zq_ld hm (pc' := 32) rfl rfl rfl rfl).trans ?_
    exact zq_ri hm rfl rfl
  · refine (zJ_n rfl).trans ?_
    refine (zq_aln hm (pc' := 6) rfl rfl rfl rfl).trans ?_
    refine (zq_gr hm (pc' := 9) rfl lay_0 rfl rfl).trans ?_
    refine (zJ_n rfl).trans ?_
    refine (zq_iln hm (pc' := 10) rfl rfl rfl rfl).trans ?_
    refine (zq_iln hm (pc' := 11) rfl rfl rfl rfl).trans ?_
    refine (zq_v1 hm (pc' := 14) rfl rfl rfl (cls_1_3) rfl rfl).trans (zCI_c rfl (fun r2 s1 => ?_))
    refine (zJ_n rfl).trans ?_
    refine (zq_zeq hm (pc' := 17) rfl rfl).trans (zite ?_ ?_)
    · refine (zJ_n rfl).trans ?_
      refine (zq_ld hm (pc' := 32) rfl rfl rfl rfl).trans ?_
      exact zq_ri hm rfl rfl
    · refine (zJ_n rfl).trans ?_
      refine (zq_aln hm (pc' := 18) rfl rfl rfl rfl).trans ?_
      refine (zq_gr hm (pc' := 21) rfl lay_0 rfl rfl).trans ?_
      refine (zJ_n rfl).trans ?_
      refine (zq_iln hm (pc' := 22) rfl rfl rfl rfl).trans ?_
      refine (zq_iln hm (pc' := 23) rfl rfl rfl rfl).trans ?_
      refine (zq_iln hm (pc' := 24) rfl rfl rfl rfl).trans ?_
      refine (zq_v1 hm (pc' := 27) rfl rfl rfl (cls_1_3) rfl rfl).trans (zCI_c rfl (fun r4 s3 => ?_))
      refine (zJ_n rfl).trans ?_
      refine (zq_zne hm (pc' := 30) rfl rfl).trans (zite ?_ ?_)
      · refine (zJ_n rfl).trans ?_
        refine (zq_ld hm (pc' := 32) rfl rfl rfl rfl).trans ?_
        exact zq_ri hm rfl rfl
      · refine (zJ_n rfl).trans ?_
        refine (zq_aln hm (pc' := 34) rfl rfl rfl rfl).trans ?_
        refine (zq_gr hm (pc' := 37) rfl lay_0 rfl rfl).trans ?_
        refine (zJ_n rfl).trans ?_
        refine (zq_iln hm (pc' := 38) rfl rfl rfl rfl).trans ?_
        refine (zq_v3 hm (pc' := 41) rfl rfl rfl (cls_1_3) rfl rfl).trans (zCR_c rfl (fun t6 s5 => ?_))
        refine (zJ_n rfl).trans ?_
        refine (zq_as hm (ls' := [some (.inl (some 0)), some (.inr (.inl x1)), some (.inr (.inl x2)), some (.inr (.inl x3)), some (.inl (some t6)), none]) (pc' := 43) rfl rfl rfl rfl).trans ?_
        refine (zq_al hm (pc' := 45) rfl rfl rfl rfl).trans ?_
        refine (zq_iln hm (pc' := 46) rfl rfl rfl rfl).trans ?_
        refine (zq_iy hm (pc' := 47) rfl rfl).trans (zia_c (fun v7 => ?_))
        refine (zJ_n rfl).trans ?_
        refine (zq_is hm (ls' := [some (.inl (some 0)), some (.inr (.inl x1)), some (.inr (.inl x2)), some (.inr (.inl x3)), some (.inl (some t6)), some (.inr (.inl v7))]) (pc' := 49) rfl rfl rfl rfl).trans ?_
        refine (zq_il hm (pc' := 51) rfl rfl rfl rfl).trans ?_
        refine (zq_iln hm (pc' := 52) rfl rfl rfl rfl).trans ?_
        refine (zq_ieq hm (pc' := 55) rfl rfl).trans (zite ?_ ?_)
        · refine (zJ_n rfl).trans ?_
          refine (zq_il hm (pc' := 74) rfl rfl rfl rfl).trans ?_
          exact zq_ri hm rfl rfl
        · refine (zJ_n rfl).trans ?_
          refine (zq_al hm (pc' := 57) rfl rfl rfl rfl).trans ?_
          refine (zq_iln hm (pc' := 58) rfl rfl rfl rfl).trans ?_
          refine (zq_iln hm (pc' := 59) rfl rfl rfl rfl).trans ?_
          refine (zq_isy hm (pc' := 60) rfl rfl).trans (zar_c ?_)
          refine (zJ_n rfl).trans ?_
          refine (zq_aln hm (pc' := 61) rfl rfl rfl rfl).trans ?_
          refine (zq_gr hm (pc' := 64) rfl lay_0 rfl rfl).trans ?_
          refine (zJ_n rfl).trans ?_
          refine (zq_iln hm (pc' := 65) rfl rfl rfl rfl).trans ?_
          refine (zq_iln hm (pc' := 66) rfl rfl rfl rfl).trans ?_
          refine (zq_il hm (pc' := 68) rfl rfl rfl rfl).trans ?_
          refine (zq_iln hm (pc' := 69) rfl rfl rfl rfl).trans ?_
          refine (zq_v0 hm (pc' := 72) rfl rfl rfl (cls_32_0) rfl rfl).trans (zCV_c rfl (fun s8 => ?_))
          refine (zJ_n rfl).trans ?_
          refine (zq_il hm (pc' := 74) rfl rfl rfl rfl).trans ?_
          exact zq_ri hm rfl rfl
set_option maxRecDepth 100000 in
set_option maxHeartbeats 4000000 in
theorem e_X11_of (d : Nat) (x1 : Int) (x2 : Int) (σ : zF) : zx (d + 1) 109 [.inl (some 0), .inr (.inl x1), .inr (.inl x2)] σ = (
zCI LAY (zx d 20 [.inl (some 1), .inr (.inl x1), .inr (.inl x2)] σ) fun r2 s1 =>
if r2 = 0 then (
zri (-2000000000) s1) else (
zCR LAY (zx d 21 [.inl (some 1), .inr (.inl x2)] s1) fun t4 s3 =>
zia zX2 LAY s3 t4 x1 (fun v5 =>
zri v5 s3))) := by
  unfold zx
  have hm := zexec_m zX2 zMT d
  refine (zexec_eq mt_109 _ rfl (LAY, σ) 0).trans ?_
  show zrunL zX2 (zexec zX2 zMT d) K_X11_of U_X11_of 0 [some (.inl (some 0)), some (.inr (.inl x1)), some (.inr (.inl x2))] [] (LAY, σ) = _
  refine (zq_aln hm (pc' := 1) rfl rfl rfl rfl).trans ?_
  refine (zq_gr hm (pc' := 4) rfl lay_0 rfl rfl).trans ?_
  refine (zJ_n rfl).trans ?_
  refine (zq_iln hm (pc' := 5) rfl rfl rfl rfl).trans ?_
  refine (zq_iln hm (pc' := 6) rfl rfl rfl rfl).trans ?_
  refine (zq_v1 hm (pc' := 9) rfl rfl rfl (cls_1_3) rfl rfl).trans (zCI_c rfl (fun r2 s1 => ?_))
  refine (zJ_n rfl).trans ?_
  refine (zq_zeq hm (pc' := 12) rfl rfl).trans (zite ?_ ?_)
  · refine (zJ_n rfl).trans ?_
    refine (zq_ld hm (pc' := 27) rfl rfl rfl rfl).trans ?_
    exact zq_ri hm rfl rfl
  · refine (zJ_n rfl).trans ?_
    refine (zq_aln hm (pc' := 13) rfl rfl rfl rfl).trans ?_
    refine (zq_gr hm (pc' := 16) rfl lay_0 rfl rfl).trans ?_
    refine (zJ_n rfl).trans ?_
    refine (zq_iln hm (pc' := 17) rfl rfl rfl rfl).trans ?_
    refine (zq_v3 hm (pc' := 20) rfl rfl rfl (cls_1_3) rfl rfl).trans (zCR_c rfl (fun t4 s3 => ?_))
    refine (zJ_n rfl).trans ?_
    refine (zq_iln hm (pc' := 21) rfl rfl rfl rfl).trans ?_
    refine (zq_iy hm (pc' := 22) rfl rfl).trans (zia_c (fun v5 => ?_))
    refine (zJ_n rfl).trans ?_
    refine (zq_goto hm rfl rfl).trans ?_
    exact zq_ri hm rfl rfl
set_option maxRecDepth 100000 in
set_option maxHeartbeats 4000000 in
theorem e_X11_feed (d : Nat) (x1 : Int) (σ : zF) : zx (d + 1) 110 [.inl (some 0), .inr (.inl x1)] σ = (
if x1 < 0 then (
zri (-1) σ) else (
if (255 : Int) < x1 then (
zri (-1) σ) else (
zCI LAY (zx d 34 [.inl (some 11), .inr (.inl x1)] σ) fun r2 s1 =>
zri r2 s1))) := by
  unfold zx
  have hm := zexec_m zX2 zMT d
  refine (zexec_eq mt_110 _ rfl (LAY, σ) 0).trans ?_
  show zrunL zX2 (zexec zX2 zMT d) K_X11_feed U_X11_feed 0 [some (.inl (some 0)), some (.inr (.inl x1))] [] (LAY, σ) = _
  refine (zq_iln hm (pc' := 1) rfl rfl rfl rfl).trans ?_
  refine (zq_zlt hm (pc' := 4) rfl rfl).trans (zite ?_ ?_)
  · refine (zJ_n rfl).trans ?_
    refine (zq_ic hm (pc' := 12) rfl rfl rfl rfl).trans ?_
    exact zq_ri hm rfl rfl
  · refine (zJ_n rfl).trans ?_
    refine (zq_iln hm (pc' := 5) rfl rfl rfl rfl).trans ?_
    refine (zq_si hm (pc' := 8) rfl rfl rfl rfl).trans ?_
    refine (zq_ile hm (pc' := 11) rfl rfl).trans (zite ?_ ?_)
    · refine (zJ_n rfl).trans ?_
      refine (zq_ic hm (pc' := 12) rfl rfl rfl rfl).trans ?_
      exact zq_ri hm rfl rfl
    · refine (zJ_n rfl).trans ?_
      refine (zq_aln hm (pc' := 14) rfl rfl rfl rfl).trans ?_
      refine (zq_gr hm (pc' := 17) rfl lay_0 rfl rfl).trans ?_
      refine (zJ_n rfl).trans ?_
      refine (zq_iln hm (pc' := 18) rfl rfl rfl rfl).trans ?_
      refine (zq_v1 hm (pc' := 21) rfl rfl rfl (cls_11_4) rfl rfl).trans (zCI_c rfl (fun r2 s1 => ?_))
      refine (zJ_n rfl).trans ?_
      exact zq_ri hm rfl rfl
set_option maxRecDepth 100000 in
set_option maxHeartbeats 4000000 in
theorem e_X11_law (d : Nat) (σ : zF) : zx (d + 1) 111 [.inl (some 0)] σ = (
zCI LAY (zx d 35 [.inl (some 11)] σ) fun r2 s1 =>
if r2 = (-1) then (
zCV LAY (zx d 9 [.inl (some 14), .inl (some 13), .inr (.inl (s1 11 3))] (zset s1 11 1 0)) fun s3 =>
zri 1 s3) else (
zri (zw ((-100) - r2)) (zset s1 11 1 0))) := by
  unfold zx
  have hm := zexec_m zX2 zMT d
  refine (zexec_eq mt_111 _ rfl (LAY, σ) 0).trans ?_
  show zrunL zX2 (zexec zX2 zMT d) K_X11_law U_X11_law 0 [some (.inl (some 0)), none] [] (LAY, σ) = _
  refine (zq_aln hm (pc' := 1) rfl rfl rfl rfl).trans ?_
  refine (zq_gr hm (pc' := 4) rfl lay_0 rfl rfl).trans ?_
  refine (zJ_n rfl).trans ?_
  refine (zq_v1 hm (pc' := 7) rfl rfl rfl (cls_11_4) rfl rfl).trans (zCI_c rfl (fun r2 s1 => ?_))
  refine (zJ_n rfl).trans ?_
  refine (zq_isn hm (ls' := [some (.inl (some 0)), some (.inr (.inl r2))]) (pc' := 8) rfl rfl rfl rfl).trans ?_
  refine (zq_aln hm (pc' := 9) rfl rfl rfl rfl).trans ?_
  refine (zq_gr hm (pc' := 12) rfl lay_0 rfl rfl).trans ?_
  refine (zJ_n rfl).trans ?_
  refine (zq_ic hm (pc' := 13) rfl rfl rfl rfl).trans ?_
  refine (zq_pf hm (pc' := 16) rfl lay_11 rfl rfl rfl).trans ?_
  refine (zJ_n rfl).trans ?_
  refine (zq_iln hm (pc' := 17) rfl rfl rfl rfl).trans ?_
  refine (zq_ic hm (pc' := 18) rfl rfl rfl rfl).trans ?_
  refine (zq_ieq hm (pc' := 21) rfl rfl).trans (zite ?_ ?_)
  · refine (zJ_n rfl).trans ?_
    refine (zq_aln hm (pc' := 27) rfl rfl rfl rfl).trans ?_
    refine (zq_gr hm (pc' := 30) rfl lay_0 rfl rfl).trans ?_
    refine (zJ_n rfl).trans ?_
    refine (zq_aln hm (pc' := 31) rfl rfl rfl rfl).trans ?_
    refine (zq_gr hm (pc' := 34) rfl lay_0 rfl rfl).trans ?_
    refine (zJ_n rfl).trans ?_
    refine (zq_gr hm (pc' := 37) rfl lay_11 rfl rfl).trans ?_
    refine (zJ_n rfl).trans ?_
    refine (zq_aln hm (pc' := 38) rfl rfl rfl rfl).trans ?_
    refine (zq_gr hm (pc' := 41) rfl lay_0 rfl rfl).trans ?_
    refine (zJ_n rfl).trans ?_
    refine (zq_gf hm (v := (s1 11 3)) (pc' := 44) rfl lay_11 rfl (zsi (by decide)) rfl).trans ?_
    refine (zJ_n rfl).trans ?_
    refine (zq_v0 hm (pc' := 47) rfl rfl rfl (cls_14_2) rfl rfl).trans (zCV_c rfl (fun s3 => ?_))
    refine (zJ_n rfl).trans ?_
    refine (zq_ic hm (pc' := 48) rfl rfl rfl rfl).trans ?_
    exact zq_ri hm rfl rfl
  · refine (zJ_n rfl).trans ?_
    refine (zq_bi hm (pc' := 23) rfl rfl rfl rfl).trans ?_
    refine (zq_iln hm (pc' := 24) rfl rfl rfl rfl).trans ?_
    refine (zq_isub hm (pc' := 25) rfl rfl rfl).trans ?_
    exact zq_ri hm rfl rfl
set_option maxRecDepth 100000 in
set_option maxHeartbeats 4000000 in
theorem e_X11_hours (d : Nat) (x1 : Int) (σ : zF) : zx (d + 1) 112 [.inl (some 0), .inr (.inl x1)] σ = (
if x1 = (-1) then (
zCV LAY (zx d 87 [.inl (some 17), .inr (.inl (-1))] σ) fun s1 =>
if x1 = (-1) then (
zCI LAY (zx d 93 [.inl (some 17)] s1) fun r5 s4 =>
zri r5 s4) else (
zCI LAY (zx d 90 [.inl (some 17), .inr (.inl x1)] s1) fun r3 s2 =>
zri r3 s2)) else (
zCI LAY (zx d 16 [.inl (some 1), .inr (.inl x1)] σ) fun r7 s6 =>
if r7 = 0 then (
zri (-1) s6) else (
zCV LAY (zx d 87 [.inl (some 17), .inr (.inl (-1))] s6) fun s8 =>
if x1 = (-1) then (
zCI LAY (zx d 93 [.inl (some 17)] s8) fun r12 s11 =>
zri r12 s11) else (
zCI LAY (zx d 90 [.inl (some 17), .inr (.inl x1)] s8) fun r10 s9 =>
zri r10 s9)))) := by
  unfold zx
  have hm := zexec_m zX2 zMT d
  refine (zexec_eq mt_112 _ rfl (LAY, σ) 0).trans ?_
  show zrunL zX2 (zexec zX2 zMT d) K_X11_hours U_X11_hours 0 [some (.inl (some 0)), some (.inr (.inl x1))] [] (LAY, σ) = _
  refine (zq_iln hm (pc' := 1) rfl rfl rfl rfl).trans ?_
  refine (zq_ic hm (pc' := 2) rfl rfl rfl rfl).trans ?_
  refine (zq_ieq hm (pc' := 5) rfl rfl).trans (zite ?_ ?_)
  · refine (zJ_n rfl).trans ?_
    refine (zq_aln hm (pc' := 19) rfl rfl rfl rfl).trans ?_
    refine (zq_gr hm (pc' := 22) rfl lay_0 rfl rfl).trans ?_
    refine (zJ_n rfl).trans ?_
    refine (zq_ic hm (pc' := 23) rfl rfl rfl rfl).trans ?_
    refine (zq_v0 hm (pc' := 26) rfl rfl rfl (cls_17_9) rfl rfl).trans (zCV_c rfl (fun s1 => ?_))
    refine (zJ_n rfl).trans ?_
    refine (zq_iln hm (pc' := 27) rfl rfl rfl rfl).trans ?_
    refine (zq_ic hm (pc' := 28) rfl rfl rfl rfl).trans ?_
    refine (zq_ine hm (pc' := 31) rfl rfl).trans (zite ?_ ?_)
    · refine (zJ_n rfl).trans ?_
      refine (zq_aln hm (pc' := 32) rfl rfl rfl rfl).trans ?_
      refine (zq_gr hm (pc' := 35) rfl lay_0 rfl rfl).trans ?_
      refine (zJ_n rfl).trans ?_
      refine (zq_v1 hm (pc' := 38) rfl rfl rfl (cls_17_9) rfl rfl).trans (zCI_c rfl (fun r5 s4 => ?_))
      refine (zJ_n rfl).trans ?_
      refine (zq_goto hm rfl rfl).trans ?_
      exact zq_ri hm rfl rfl
    · refine (zJ_n rfl).trans ?_
      refine (zq_aln hm (pc' := 42) rfl rfl rfl rfl).trans ?_
      refine (zq_gr hm (pc' := 45) rfl lay_0 rfl rfl).trans ?_
      refine (zJ_n rfl).trans ?_
      refine (zq_iln hm (pc' := 46) rfl rfl rfl rfl).trans ?_
      refine (zq_v1 hm (pc' := 49) rfl rfl rfl (cls_17_9) rfl rfl).trans (zCI_c rfl (fun r3 s2 => ?_))
      refine (zJ_n rfl).trans ?_
      exact zq_ri hm rfl rfl
  · refine (zJ_n rfl).trans ?_
    refine (zq_aln hm (pc' := 6) rfl rfl rfl rfl).trans ?_
    refine (zq_gr hm (pc' := 9) rfl lay_0 rfl rfl).trans ?_
    refine (zJ_n rfl).trans ?_
    refine (zq_iln hm (pc' := 10) rfl rfl rfl rfl).trans ?_
    refine (zq_v1 hm (pc' := 13) rfl rfl rfl (cls_1_3) rfl rfl).trans (zCI_c rfl (fun r7 s6 => ?_))
    refine (zJ_n rfl).trans ?_
    refine (zq_zne hm (pc' := 16) rfl rfl).trans (zite ?_ ?_)
    · refine (zJ_n rfl).trans ?_
      refine (zq_ic hm (pc' := 17) rfl rfl rfl rfl).trans ?_
      exact zq_ri hm rfl rfl
    · refine (zJ_n rfl).trans ?_
      refine (zq_aln hm (pc' := 19) rfl rfl rfl rfl).trans ?_
      refine (zq_gr hm (pc' := 22) rfl lay_0 rfl rfl).trans ?_
      refine (zJ_n rfl).trans ?_
      refine (zq_ic hm (pc' := 23) rfl rfl rfl rfl).trans ?_
      refine (zq_v0 hm (pc' := 26) rfl rfl rfl (cls_17_9) rfl rfl).trans (zCV_c rfl (fun s8 => ?_))
      refine (zJ_n rfl).trans ?_
      refine (zq_iln hm (pc' := 27) rfl rfl rfl rfl).trans ?_
      refine (zq_ic hm (pc' := 28) rfl rfl rfl rfl).trans ?_
      refine (zq_ine hm (pc' := 31) rfl rfl).trans (zite ?_ ?_)
      · refine (zJ_n rfl).trans ?_
        refine (zq_aln hm (pc' := 32) rfl rfl rfl rfl).trans ?_
        refine (zq_gr hm (pc' := 35) rfl lay_0 rfl rfl).trans ?_
        refine (zJ_n rfl).trans ?_
        refine (zq_v1 hm (pc' := 38) rfl rfl rfl (cls_17_9) rfl rfl).trans (zCI_c rfl (fun r12 s11 => ?_))
        refine (zJ_n rfl).trans ?_
        refine (zq_goto hm rfl rfl).trans ?_
        exact zq_ri hm rfl rfl
      · refine (zJ_n rfl).trans ?_
        refine (zq_aln hm (pc' := 42) rfl rfl rfl rfl).trans ?_
        refine (zq_gr hm (pc' := 45) rfl lay_0 rfl rfl).trans ?_
        refine (zJ_n rfl).trans ?_
        refine (zq_iln hm (pc' := 46) rfl rfl rfl rfl).trans ?_
        refine (zq_v1 hm (pc' := 49) rfl rfl rfl (cls_17_9) rfl rfl).trans (zCI_c rfl (fun r10 s9 => ?_))
        refine (zJ_n rfl).trans ?_
        exact zq_ri hm rfl rfl
set_option maxRecDepth 100000 in
set_option maxHeartbeats 4000000 in
theorem e_X11_way (d : Nat) (x1 : Int) (x2 : Int) (σ : zF) : zx (d + 1) 113 [.inl (some 0), .inr (.inl x1), .inr (.inl x2)] σ = (
zCI LAY (zx d 147 [.inr (.inl x1)] σ) fun r2 s1 =>
if r2 = 0 then (
zri (-1) s1) else (
if x2 < (-2) then (
zri (-1) s1) else (
zCV LAY (zx d 87 [.inl (some 17), .inr (.inl (-1))] s1) fun s3 =>
if (10 : Int) = 0 then none else (
if (10 : Int) = 0 then none else (
zCI LAY (zx d 96 [.inl (some 17), .inr (.inl (zdiv x1 10)), .inr (.inl (zrem x1 10)), .inr (.inl x2)] s3) fun r5 s4 =>
zri r5 s4))))) := by
  unfold zx
  have hm := zexec_m zX2 zMT d
  refine (zexec_eq mt_113 _ rfl (LAY, σ) 0).trans ?_
  show zrunL zX2 (zexec zX2 zMT d) K_X11_way U_X11_way 0 [some (.inl (some 0)), some (.inr (.inl x1)), some (.inr (.inl x2))] [] (LAY, σ) = _
  refine (zq_iln hm (pc' := 1) rfl rfl rfl rfl).trans ?_
  refine (zq_s1 hm (pc' := 4) rfl rfl rfl rfl rfl rfl).trans (zCI_c rfl (fun r2 s1 => ?_))
  refine (zJ_n rfl).trans ?_
  refine (zq_zeq hm (pc' := 7) rfl rfl).trans (zite ?_ ?_)
  · refine (zJ_n rfl).trans ?_
    refine (zq_ic hm (pc' := 14) rfl rfl rfl rfl).trans ?_
    exact zq_ri hm rfl rfl
  · refine (zJ_n rfl).trans ?_
    refine (zq_iln hm (pc' := 8) rfl rfl rfl rfl).trans ?_
    refine (zq_bi hm (pc' := 10) rfl rfl rfl rfl).trans ?_
    refine (zq_ige hm (pc' := 13) rfl rfl).trans (zite ?_ ?_)
    · refine (zJ_n rfl).trans ?_
      refine (zq_ic hm (pc' := 14) rfl rfl rfl rfl).trans ?_
      exact zq_ri hm rfl rfl
    · refine (zJ_n rfl).trans ?_
      refine (zq_aln hm (pc' := 16) rfl rfl rfl rfl).trans ?_
      refine (zq_gr hm (pc' := 19) rfl lay_0 rfl rfl).trans ?_
      refine (zJ_n rfl).trans ?_
      refine (zq_ic hm (pc' := 20) rfl rfl rfl rfl).trans ?_
      refine (zq_v0 hm (pc' := 23) rfl rfl rfl (cls_17_9) rfl rfl).trans (zCV_c rfl (fun s3 => ?_))
      refine (zJ_n rfl).trans ?_
      refine (zq_aln hm (pc' := 24) rfl rfl rfl rfl).trans ?_
      refine (zq_gr hm (pc' := 27) rfl lay_0 rfl rfl).trans ?_
      refine (zJ_n rfl).trans ?_
      refine (zq_iln hm (pc' := 28) rfl rfl rfl rfl).trans ?_
      refine (zq_bi hm (pc' := 30) rfl rfl rfl rfl).trans ?_
      refine (zq_idiv hm (pc' := 31) rfl rfl).trans (zite rfl ?_)
      refine (zJ_n rfl).trans ?_
      refine (zq_iln hm (pc' := 32) rfl rfl rfl rfl).trans ?_
      refine (zq_bi hm (pc' := 34) rfl rfl rfl rfl).trans ?_
      refine (zq_irem hm (pc' := 35) rfl rfl).trans (zite rfl ?_)
      refine (zJ_n rfl).trans ?_
      refine (zq_iln hm (pc' := 36) rfl rfl rfl rfl).trans ?_
      refine (zq_v1 hm (pc' := 39) rfl rfl rfl (cls_17_9) rfl rfl).trans (zCI_c rfl (fun r5 s4 => ?_))
      refine (zJ_n rfl).trans ?_
      exact zq_ri hm rfl rfl
set_option maxRecDepth 100000 in
set_option maxHeartbeats 4000000 in
theorem e_X11_reach (d : Nat) (x1 : Int) (x2 : Int) (x3 : Int) (σ : zF) : zx (d + 1) 114 [.inl (some 0), .inr (.inl x1), .inr (.inl x2), .inr (.inl x3)] σ = (
zCI LAY (zx d 146 [.inr (.inl x1)] σ) fun r2 s1 =>
if r2 = 0 then (
zri (-1) s1) else (
zCI LAY (zx d 149 [.inr (.inl x2)] s1) fun r4 s3 =>
if r4 = 0 then (
zri (-1) s3) else (
if x3 < 0 then (
zri (-1) s3) else (
if (2 : Int) < x3 then (
zri (-1) s3) else (
zCV LAY (zx d 87 [.inl (some 17), .inr (.inl (-1))] s3) fun s5 =>
zCV LAY (zx d 94 [.inl (some 17), .inr (.inl x1)] s5) fun s6 =>
if x3 = 0 then (
zCI LAY (zx d 98 [.inl (some 17), .inr (.inl x2)] s6) fun r10 s9 =>
zri r10 s9) else (
zCI LAY (zx d 99 [.inl (some 17)] s6) fun r8 s7 =>
if x3 = 1 then (
zri r8 s7) else (
if 0 ≤ r8 ∧ r8 < 8 then (
zri (s7 23 r8) s7) else (
none)))))))) := by
  unfold zx
  have hm := zexec_m zX2 zMT d
  refine (zexec_eq mt_114 _ rfl (LAY, σ) 0).trans ?_
  show zrunL zX2 (zexec zX2 zMT d) K_X11_reach U_X11_reach 0 [some (.inl (some 0)), some (.inr (.inl x1)), some (.inr (.inl x2)), some (.inr (.inl x3)), none] [] (LAY, σ) = _
  refine (zq_iln hm (pc' := 1) rfl rfl rfl rfl).trans ?_
  refine (zq_s1 hm (pc' := 4) rfl rfl rfl rfl rfl rfl).trans (zCI_c rfl (fun r2 s1 => ?_))
  refine (zJ_n rfl).trans ?_
  refine (zq_zeq hm (pc' := 7) rfl rfl).trans (zite ?_ ?_)
  · refine (zJ_n rfl).trans ?_
    refine (zq_ic hm (pc' := 24) rfl rfl rfl rfl).trans ?_
    exact zq_ri hm rfl rfl
  · refine (zJ_n rfl).trans ?_
    refine (zq_iln hm (pc' := 8) rfl rfl rfl rfl).trans ?_
    refine (zq_s1 hm (pc' := 11) rfl rfl rfl rfl rfl rfl).trans (zCI_c rfl (fun r4 s3 => ?_))
    refine (zJ_n rfl).trans ?_
    refine (zq_zeq hm (pc' := 14) rfl rfl).trans (zite ?_ ?_)
    · refine (zJ_n rfl).trans ?_
      refine (zq_ic hm (pc' := 24) rfl rfl rfl rfl).trans ?_
      exact zq_ri hm rfl rfl
    · refine (zJ_n rfl).trans ?_
      refine (zq_iln hm (pc' := 15) rfl rfl rfl rfl).trans ?_
      refine (zq_zlt hm (pc' := 18) rfl rfl).trans (zite ?_ ?_)
      · refine (zJ_n rfl).trans ?_
        refine (zq_ic hm (pc' := 24) rfl rfl rfl rfl).trans ?_
        exact zq_ri hm rfl rfl
      · refine (zJ_n rfl).trans ?_
        refine (zq_iln hm (pc' := 19) rfl rfl rfl rfl).trans ?_
        refine (zq_ic hm (pc' := 20) rfl rfl rfl rfl).trans ?_
        refine (zq_ile hm (pc' := 23) rfl rfl).trans (zite ?_ ?_)
        · refine (zJ_n rfl).trans ?_
          refine (zq_ic hm (pc' := 24) rfl rfl rfl rfl).trans ?_
          exact zq_ri hm rfl rfl
        · refine (zJ_n rfl).trans ?_
          refine (zq_aln hm (pc' := 26) rfl rfl rfl rfl).trans ?_
          refine (zq_gr hm (pc' := 29) rfl lay_0 rfl rfl).trans ?_
          refine (zJ_n rfl).trans ?_
          refine (zq_ic hm (pc' := 30) rfl rfl rfl rfl).trans ?_
          refine (zq_v0 hm (pc' := 33) rfl rfl rfl (cls_17_9) rfl rfl).trans (zCV_c rfl (fun s5 => ?_))
          refine (zJ_n rfl).trans ?_
          refine (zq_aln hm (pc' := 34) rfl rfl rfl rfl).trans ?_
          refine (zq_gr hm (pc' := 37) rfl lay_0 rfl rfl).trans ?_
          refine (zJ_n rfl).trans ?_
          refine (zq_iln hm (pc' := 38) rfl rfl rfl rfl).trans ?_
          refine (zq_v0 hm (pc' := 41) rfl rfl rfl (cls_17_9) rfl rfl).trans (zCV_c rfl (fun s6 => ?_))
          refine (zJ_n rfl).trans ?_
          refine (zq_iln hm (pc' := 42) rfl rfl rfl rfl).trans ?_
          refine (zq_zne hm (pc' := 45) rfl rfl).trans (zite ?_ ?_)
          · refine (zJ_n rfl).trans ?_
            refine (zq_aln hm (pc' := 46) rfl rfl rfl rfl).trans ?_
            refine (zq_gr hm (pc' := 49) rfl lay_0 rfl rfl).trans ?_
            refine (zJ_n rfl).trans ?_
            refine (zq_iln hm (pc' := 50) rfl rfl rfl rfl).trans ?_
            refine (zq_v1 hm (pc' := 53) rfl rfl rfl (cls_17_9) rfl rfl).trans (zCI_c rfl (fun r10 s9 => ?_))
            refine (zJ_n rfl).trans ?_
            exact zq_ri hm rfl rfl
          · refine (zJ_n rfl).trans ?_
            refine (zq_aln hm (pc' := 55) rfl rfl rfl rfl).trans ?_
            refine (zq_gr hm (pc' := 58) rfl lay_0 rfl rfl).trans ?_
            refine (zJ_n rfl).trans ?_
            refine (zq_v1 hm (pc' := 61) rfl rfl rfl (cls_17_9) rfl rfl).trans (zCI_c rfl (fun r8 s7 => ?_))
            refine (zJ_n rfl).trans ?_
            refine (zq_is hm (ls' := [some (.inl (some 0)), some (.inr (.inl x1)), some (.inr (.inl x2)), some (.inr (.inl x3)), some (.inr (.inl r8))]) (pc' := 63) rfl rfl rfl rfl).trans ?_
            refine (zq_iln hm (pc' := 64) rfl rfl rfl rfl).trans ?_
            refine (zq_ic hm (pc' := 65) rfl rfl rfl rfl).trans ?_
            refine (zq_ine hm (pc' := 68) rfl rfl).trans (zite ?_ ?_)
            · refine (zJ_n rfl).trans ?_
              refine (zq_il hm (pc' := 70) rfl rfl rfl rfl).trans ?_
              refine (zq_goto hm rfl rfl).trans ?_
              exact zq_ri hm rfl rfl
            · refine (zJ_n rfl).trans ?_
              refine (zq_aln hm (pc' := 74) rfl rfl rfl rfl).trans ?_
              refine (zq_gr hm (pc' := 77) rfl lay_0 rfl rfl).trans ?_
              refine (zJ_n rfl).trans ?_
              refine (zq_gr hm (pc' := 80) rfl lay_17 rfl rfl).trans ?_
              refine (zJ_n rfl).trans ?_
              refine (zq_il hm (pc' := 82) rfl rfl rfl rfl).trans ?_
              refine (zq_ia hm (v := (s7 23 r8)) (pc' := 83) rfl lay_23 rfl rfl).trans (zite ?_ rfl)
              refine (zJ_n rfl).trans ?_
              exact zq_ri hm rfl rfl
noncomputable def P_X11_needed_40 (d : Nat) (y1 : Int) (y2 : Int) (y3 : Int) (y4 : Int) (σ : zF) : Option zR := zrunL zX2 (zexec zX2 zMT d) K_X11_needed U_X11_needed 40 [some (.inl (some 0)), none, some (.inr (.inl y1)), some (.inr (.inl y2)), some (.inr (.inl y3)), some (.inr (.inl y4))] [] (LAY, σ)
set_option maxRecDepth 100000 in
set_option maxHeartbeats 4000000 in
theorem e_X11_needed (d : Nat) (x1 : Int) (σ : zF) : zx (d + 1) 115 [.inl (some 0), .inr (.inl x1)] σ = (
zCI LAY (zx d 147 [.inr (.inl x1)] σ) fun r2 s1 =>
if r2 = 0 then (
zri (-1) s1) else (
if (10 : Int) = 0 then none else (
if (10 : Int) = 0 then none else (
zCI LAY (zx d 27 [.inl (some 1), .inr (.inl (zdiv x1 10)), .inr (.inl (zrem x1 10)), .inr (.inl (-1))] s1) fun r4 s3 =>
if r4 = 0 then (
zri 0 s3) else (
P_X11_needed_40 d (zdiv x1 10) (zrem x1 10) 0 0 s3))))) := by
  unfold zx
  have hm := zexec_m zX2 zMT d
  refine (zexec_eq mt_115 _ rfl (LAY, σ) 0).trans ?_
  show zrunL zX2 (zexec zX2 zMT d) K_X11_needed U_X11_needed 0 [some (.inl (some 0)), some (.inr (.inl x1)), none, none, none, none] [] (LAY, σ) = _
  refine (zq_iln hm (pc' := 1) rfl rfl rfl rfl).trans ?_
  refine (zq_s1 hm (pc' := 4) rfl rfl rfl rfl rfl rfl).trans (zCI_c rfl (fun r2 s1 => ?_))
  refine (zJ_n rfl).trans ?_
  refine (zq_zne hm (pc' := 7) rfl rfl).trans (zite ?_ ?_)
  · refine (zJ_n rfl).trans ?_
    refine (zq_ic hm (pc' := 8) rfl rfl rfl rfl).trans ?_
    exact zq_ri hm rfl rfl
  · refine (zJ_n rfl).trans ?_
    refine (zq_iln hm (pc' := 10) rfl rfl rfl rfl).trans ?_
    refine (zq_bi hm (pc' := 12) rfl rfl rfl rfl).trans ?_
    refine (zq_idiv hm (pc' := 13) rfl rfl).trans (zite rfl ?_)
    refine (zJ_n rfl).trans ?_
    refine (zq_isn hm (ls' := [some (.inl (some 0)), some (.inr (.inl x1)), some (.inr (.inl (zdiv x1 10))), none, none, none]) (pc' := 14) rfl rfl rfl rfl).trans ?_
    refine (zq_iln hm (pc' := 15) rfl rfl rfl rfl).trans ?_
    refine (zq_bi hm (pc' := 17) rfl rfl rfl rfl).trans ?_
    refine (zq_irem hm (pc' := 18) rfl rfl).trans (zite rfl ?_)
    refine (zJ_n rfl).trans ?_
    refine (zq_isn hm (ls' := [some (.inl (some 0)), some (.inr (.inl x1)), some (.inr (.inl (zdiv x1 10))), some (.inr (.inl (zrem x1 10))), none, none]) (pc' := 19) rfl rfl rfl rfl).trans ?_
    refine (zq_aln hm (pc' := 20) rfl rfl rfl rfl).trans ?_
    refine (zq_gr hm (pc' := 23) rfl lay_0 rfl rfl).trans ?_
    refine (zJ_n rfl).trans ?_
    refine (zq_iln hm (pc' := 24) rfl rfl rfl rfl).trans ?_
    refine (zq_iln hm (pc' := 25) rfl rfl rfl rfl).trans ?_
    refine (zq_ic hm (pc' := 26) rfl rfl rfl rfl).trans ?_
    refine (zq_v1 hm (pc' := 29) rfl rfl rfl (cls_1_3) rfl rfl).trans (zCI_c rfl (fun r4 s3 => ?_))
    refine (zJ_n rfl).trans ?_
    refine (zq_zne hm (pc' := 32) rfl rfl).trans (zite ?_ ?_)
    · refine (zJ_n rfl).trans ?_
      refine (zq_ic hm (pc' := 33) rfl rfl rfl rfl).trans ?_
      exact zq_ri hm rfl rfl
    · refine (zJ_n rfl).trans ?_
      refine (zq_ic hm (pc' := 35) rfl rfl rfl rfl).trans ?_
      refine (zq_is hm (ls' := [some (.inl (some 0)), some (.inr (.inl x1)), some (.inr (.inl (zdiv x1 10))), some (.inr (.inl (zrem x1 10))), some (.inr (.inl 0)), none]) (pc' := 37) rfl rfl rfl rfl).trans ?_
      refine (zq_ic hm (pc' := 38) rfl rfl rfl rfl).trans ?_
      exact (zc_is hm (ls' := [some (.inl (some 0)), some (.inr (.inl x1)), some (.inr (.inl (zdiv x1 10))), some (.inr (.inl (zrem x1 10))), some (.inr (.inl 0)), some (.inr (.inl 0))]) (pc' := 40) rfl rfl rfl rfl).trans rfl
set_option maxRecDepth 100000 in
set_option maxHeartbeats 4000000 in
theorem e_X11_needed_40 (d : Nat) (y1 : Int) (y2 : Int) (y3 : Int) (y4 : Int) (σ : zF) : P_X11_needed_40 d y1 y2 y3 y4 σ = (
if y4 < (σ 1 0) then (
zCI LAY (zx d 27 [.inl (some 1), .inr (.inl y1), .inr (.inl y2), .inr (.inl y4)] σ) fun r102 s101 =>
if r102 = 0 then (
P_X11_needed_40 d y1 y2 (zor y3 (zshl 1 y4)) (zw (y4 + 1)) s101) else (
P_X11_needed_40 d y1 y2 y3 (zw (y4 + 1)) s101)) else (
zri y3 σ)) := by
  have hm := zexec_m zX2 zMT d
  show zrunL zX2 (zexec zX2 zMT d) K_X11_needed U_X11_needed 40 [some (.inl (some 0)), none, some (.inr (.inl y1)), some (.inr (.inl y2)), some (.inr (.inl y3)), some (.inr (.inl y4))] [] (LAY, σ) = _
  refine (zq_il hm (pc' := 42) rfl rfl rfl rfl).trans ?_
  refine (zq_aln hm (pc' := 43) rfl rfl rfl rfl).trans ?_
  refine (zq_gr hm (pc' := 46) rfl lay_0 rfl rfl).trans ?_
  refine (zJ_n rfl).trans ?_
  refine (zq_gf hm (v := (σ 1 0)) (pc' := 49) rfl lay_1 rfl rfl rfl).trans ?_
  refine (zJ_n rfl).trans ?_
  refine (zq_ige hm (pc' := 52) rfl rfl).trans (zite ?_ ?_)
  · refine (zJ_n rfl).trans ?_
    refine (zq_aln hm (pc' := 53) rfl rfl rfl rfl).trans ?_
    refine (zq_gr hm (pc' := 56) rfl lay_0 rfl rfl).trans ?_
    refine (zJ_n rfl).trans ?_
    refine (zq_iln hm (pc' := 57) rfl rfl rfl rfl).trans ?_
    refine (zq_iln hm (pc' := 58) rfl rfl rfl rfl).trans ?_
    refine (zq_il hm (pc' := 60) rfl rfl rfl rfl).trans ?_
    refine (zq_v1 hm (pc' := 63) rfl rfl rfl (cls_1_3) rfl rfl).trans (zCI_c rfl (fun r102 s101 => ?_))
    refine (zJ_n rfl).trans ?_
    refine (zq_zne hm (pc' := 66) rfl rfl).trans (zite ?_ ?_)
    · refine (zJ_n rfl).trans ?_
      refine (zq_il hm (pc' := 68) rfl rfl rfl rfl).trans ?_
      refine (zq_ic hm (pc' := 69) rfl rfl rfl rfl).trans ?_
      refine (zq_il hm (pc' := 71) rfl rfl rfl rfl).trans ?_
      refine (zq_ishl hm (pc' := 72) rfl rfl rfl).trans ?_
      refine (zq_ior hm (pc' := 73) rfl rfl rfl).trans ?_
      refine (zq_is hm (ls' := [some (.inl (some 0)), none, some (.inr (.inl y1)), some (.inr (.inl y2)), some (.inr (.inl (zor y3 (zshl 1 y4)))), some (.inr (.inl y4))]) (pc' := 75) rfl rfl rfl rfl).trans ?_
      refine (zq_iinc hm (ls' := [some (.inl (some 0)), none, some (.inr (.inl y1)), some (.inr (.inl y2)), some (.inr (.inl (zor y3 (zshl 1 y4)))), some (.inr (.inl (zw (y4 + 1))))]) (pc' := 78) rfl rfl rfl rfl rfl rfl).trans ?_
      exact (zc_goto hm rfl rfl).trans rfl
    · refine (zJ_n rfl).trans ?_
      refine (zq_iinc hm (ls' := [some (.inl (some 0)), none, some (.inr (.inl y1)), some (.inr (.inl y2)), some (.inr (.inl y3)), some (.inr (.inl (zw (y4 + 1))))]) (pc' := 78) rfl rfl rfl rfl rfl rfl).trans ?_
      exact (zc_goto hm rfl rfl).trans rfl
  · refine (zJ_n rfl).trans ?_
    refine (zq_il hm (pc' := 83) rfl rfl rfl rfl).trans ?_
    exact zq_ri hm rfl rfl
set_option maxRecDepth 100000 in
set_option maxHeartbeats 4000000 in
theorem e_X11_longer (d : Nat) (x1 : Int) (x2 : Int) (σ : zF) : zx (d + 1) 116 [.inl (some 0), .inr (.inl x1), .inr (.inl x2)] σ = (
zCI LAY (zx d 147 [.inr (.inl x1)] σ) fun r2 s1 =>
if r2 = 0 then (
zri (-1) s1) else (
zCI LAY (zx d 16 [.inl (some 1), .inr (.inl x2)] s1) fun r4 s3 =>
if r4 = 0 then (
zri (-1) s3) else (
zCV LAY (zx d 87 [.inl (some 17), .inr (.inl (-1))] s3) fun s5 =>
if (10 : Int) = 0 then none else (
zCV LAY (zx d 94 [.inl (some 17), .inr (.inl (zdiv x1 10))] s5) fun s6 =>
if (10 : Int) = 0 then none else (
if 0 ≤ zrem x1 10 ∧ zrem x1 10 < 8 then (
zCV LAY (zx d 87 [.inl (some 17), .inr (.inl x2)] s6) fun s7 =>
if (10 : Int) = 0 then none else (
zCV LAY (zx d 94 [.inl (some 17), .inr (.inl (zdiv x1 10))] s7) fun s8 =>
if (10 : Int) = 0 then none else (
if 0 ≤ zrem x1 10 ∧ zrem x1 10 < 8 then (
if (s6 23 (zrem x1 10)) < 1000000 then (
if (s8 23 (zrem x1 10)) < 1000000 then (
zri (zmax 0 (zw ((s8 23 (zrem x1 10)) - (s6 23 (zrem x1 10))))) s8) else (
zri (-2) s8)) else (
zri (-2) s8)) else (
none)))) else (
none)))))) := by
  unfold zx
  have hm := zexec_m zX2 zMT d
  refine (zexec_eq mt_116 _ rfl (LAY, σ) 0).trans ?_
  show zrunL zX2 (zexec zX2 zMT d) K_X11_longer U_X11_longer 0 [some (.inl (some 0)), some (.inr (.inl x1)), some (.inr (.inl x2)), none, none] [] (LAY, σ) = _
  refine (zq_iln hm (pc' := 1) rfl rfl rfl rfl).trans ?_
  refine (zq_s1 hm (pc' := 4) rfl rfl rfl rfl rfl rfl).trans (zCI_c rfl (fun r2 s1 => ?_))
  refine (zJ_n rfl).trans ?_
  refine (zq_zeq hm (pc' := 7) rfl rfl).trans (zite ?_ ?_)
  · refine (zJ_n rfl).trans ?_
    refine (zq_ic hm (pc' := 19) rfl rfl rfl rfl).trans ?_
    exact zq_ri hm rfl rfl
  · refine (zJ_n rfl).trans ?_
    refine (zq_aln hm (pc' := 8) rfl rfl rfl rfl).trans ?_
    refine (zq_gr hm (pc' := 11) rfl lay_0 rfl rfl).trans ?_
    refine (zJ_n rfl).trans ?_
    refine (zq_iln hm (pc' := 12) rfl rfl rfl rfl).trans ?_
    refine (zq_v1 hm (pc' := 15) rfl rfl rfl (cls_1_3) rfl rfl).trans (zCI_c rfl (fun r4 s3 => ?_))
    refine (zJ_n rfl).trans ?_
    refine (zq_zne hm (pc' := 18) rfl rfl).trans (zite ?_ ?_)
    · refine (zJ_n rfl).trans ?_
      refine (zq_ic hm (pc' := 19) rfl rfl rfl rfl).trans ?_
      exact zq_ri hm rfl rfl
    · refine (zJ_n rfl).trans ?_
      refine (zq_aln hm (pc' := 21) rfl rfl rfl rfl).trans ?_
      refine (zq_gr hm (pc' := 24) rfl lay_0 rfl rfl).trans ?_
      refine (zJ_n rfl).trans ?_
      refine (zq_ic hm (pc' := 25) rfl rfl rfl rfl).trans ?_
      refine (zq_v0 hm (pc' := 28) rfl rfl rfl (cls_17_9) rfl rfl).trans (zCV_c rfl (fun s5 => ?_))
      refine (zJ_n rfl).trans ?_
      refine (zq_aln hm (pc' := 29) rfl rfl rfl rfl).trans ?_
      refine (zq_gr hm (pc' := 32) rfl lay_0 rfl rfl).trans ?_
      refine (zJ_n rfl).trans ?_
      refine (zq_iln hm (pc' := 33) rfl rfl rfl rfl).trans ?_
      refine (zq_bi hm (pc' := 35) rfl rfl rfl rfl).trans ?_
      refine (zq_idiv hm (pc' := 36) rfl rfl).trans (zite rfl ?_)
      refine (zJ_n rfl).trans ?_
      refine (zq_v0 hm (pc' := 39) rfl rfl rfl (cls_17_9) rfl rfl).trans (zCV_c rfl (fun s6 => ?_))
      refine (zJ_n rfl).trans ?_
      refine (zq_aln hm (pc' := 40) rfl rfl rfl rfl).trans ?_
      refine (zq_gr hm (pc' := 43) rfl lay_0 rfl rfl).trans ?_
      refine (zJ_n rfl).trans ?_
      refine (zq_gr hm (pc' := 46) rfl lay_17 rfl rfl).trans ?_
      refine (zJ_n rfl).trans ?_
      refine (zq_iln hm (pc' := 47) rfl rfl rfl rfl).trans ?_
      refine (zq_bi hm (pc' := 49) rfl rfl rfl rfl).trans ?_
      refine (zq_irem hm (pc' := 50) rfl rfl).trans (zite rfl ?_)
      refine (zJ_n rfl).trans ?_
      refine (zq_ia hm (v := (s6 23 (zrem x1 10))) (pc' := 51) rfl lay_23 rfl rfl).trans (zite ?_ rfl)
      refine (zJ_n rfl).trans ?_
      refine (zq_isn hm (ls' := [some (.inl (some 0)), some (.inr (.inl x1)), some (.inr (.inl x2)), some (.inr (.inl (s6 23 (zrem x1 10)))), none]) (pc' := 52) rfl rfl rfl rfl).trans ?_
      refine (zq_aln hm (pc' := 53) rfl rfl rfl rfl).trans ?_
      refine (zq_gr hm (pc' := 56) rfl lay_0 rfl rfl).trans ?_
      refine (zJ_n rfl).trans ?_
      refine (zq_iln hm (pc' := 57) rfl rfl rfl rfl).trans ?_
      refine (zq_v0 hm (pc' := 60) rfl rfl rfl (cls_17_9) rfl rfl).trans (zCV_c rfl (fun s7 => ?_))
      refine (zJ_n rfl).trans ?_
      refine (zq_aln hm (pc' := 61) rfl rfl rfl rfl).trans ?_
      refine (zq_gr hm (pc' := 64) rfl lay_0 rfl rfl).trans ?_
      refine (zJ_n rfl).trans ?_
      refine (zq_iln hm (pc' := 65) rfl rfl rfl rfl).trans ?_
      refine (zq_bi hm (pc' := 67) rfl rfl rfl rfl).trans ?_
      refine (zq_idiv hm (pc' := 68) rfl rfl).trans (zite rfl ?_)
      refine (zJ_n rfl).trans ?_
      refine (zq_v0 hm (pc' := 71) rfl rfl rfl (cls_17_9) rfl rfl).trans (zCV_c rfl (fun s8 => ?_))
      refine (zJ_n rfl).trans ?_
      refine (zq_aln hm (pc' := 72) rfl rfl rfl rfl).trans ?_
      refine (zq_gr hm (pc' := 75) rfl lay_0 rfl rfl).trans ?_
      refine (zJ_n rfl).trans ?_
      refine (zq_gr hm (pc' := 78) rfl lay_17 rfl rfl).trans ?_
      refine (zJ_n rfl).trans ?_
      refine (zq_iln hm (pc' := 79) rfl rfl rfl rfl).trans ?_
      refine (zq_bi hm (pc' := 81) rfl rfl rfl rfl).trans ?_
      refine (zq_irem hm (pc' := 82) rfl rfl).trans (zite rfl ?_)
      refine (zJ_n rfl).trans ?_
      refine (zq_ia hm (v := (s8 23 (zrem x1 10))) (pc' := 83) rfl lay_23 rfl rfl).trans (zite ?_ rfl)
      refine (zJ_n rfl).trans ?_
      refine (zq_is hm (ls' := [some (.inl (some 0)), some (.inr (.inl x1)), some (.inr (.inl x2)), some (.inr (.inl (s6 23 (zrem x1 10)))), some (.inr (.inl (s8 23 (zrem x1 10))))]) (pc' := 85) rfl rfl rfl rfl).trans ?_
      refine (zq_iln hm (pc' := 86) rfl rfl rfl rfl).trans ?_
      refine (zq_ld hm (pc' := 88) rfl rfl rfl rfl).trans ?_
      refine (zq_ige hm (pc' := 91) rfl rfl).trans (zite ?_ ?_)
      · refine (zJ_n rfl).trans ?_
        refine (zq_il hm (pc' := 93) rfl rfl rfl rfl).trans ?_
        refine (zq_ld hm (pc' := 95) rfl rfl rfl rfl).trans ?_
        refine (zq_ilt hm (pc' := 98) rfl rfl).trans (zite ?_ ?_)
        · refine (zJ_n rfl).trans ?_
          refine (zq_ic hm (pc' := 102) rfl rfl rfl rfl).trans ?_
          refine (zq_il hm (pc' := 104) rfl rfl rfl rfl).trans ?_
          refine (zq_iln hm (pc' := 105) rfl rfl rfl rfl).trans ?_
          refine (zq_isub hm (pc' := 106) rfl rfl rfl).trans ?_
          refine (zq_max hm (pc' := 109) rfl rfl rfl rfl).trans ?_
          refine (zJ_n rfl).trans ?_
          exact zq_ri hm rfl rfl
        · refine (zJ_n rfl).trans ?_
          refine (zq_bi hm (pc' := 100) rfl rfl rfl rfl).trans ?_
          exact zq_ri hm rfl rfl
      · refine (zJ_n rfl).trans ?_
        refine (zq_bi hm (pc' := 100) rfl rfl rfl rfl).trans ?_
        exact zq_ri hm rfl rfl
set_option maxRecDepth 100000 in
set_option maxHeartbeats 4000000 in
theorem e_X11_trip (d : Nat) (x1 : Int) (x2 : Int) (x3 : Int) (σ : zF) : zx (d + 1) 117 [.inl (some 0), .inr (.inl x1), .inr (.inl x2), .inr (.inl x3)] σ = (
zCI LAY (zx d 150 [.inr (.inl x1)] σ) fun r2 s1 =>
if r2 = 0 then (
zri (-2000000000) s1) else (
zCI LAY (zx d 146 [.inr (.inl x2)] s1) fun r4 s3 =>
if r4 = 0 then (
zri (-2000000000) s3) else (
zCI LAY (zx d 118 [.inl (some 0), .inr (.inl x3)] s3) fun r6 s5 =>
if r6 = 0 then (
zri (-2000000000) s5) else (
zaa LAY 44 x1 (fun t7 =>
bif zcls LAY t7 7 && true then (
zCI LAY (zx d 69 [.inl (some t7), .inr (.inl 0)] s5) fun r9 s8 =>
if r9 = 0 then (
zri (-2000000000) s8) else (
zaa LAY 44 x1 (fun t10 =>
zCV LAY (zx d 102 [.inl (some 31), .inl (some t10), .inr (.inl x2)] s8) fun s11 =>
if x3 = 0 then (
zri (s11 31 2) s11) else (
if x3 = 1 then (
zri (s11 31 3) s11) else (
if x3 = 2 then (
zri (s11 31 4) s11) else (
if 0 ≤ zw (x3 - 10) ∧ zw (x3 - 10) < 12 then (
zri (s11 18 (zw (x3 - 10))) s11) else (
none))))))) else none))))) := by
  unfold zx
  have hm := zexec_m zX2 zMT d
  refine (zexec_eq mt_117 _ rfl (LAY, σ) 0).trans ?_
  show zrunL zX2 (zexec zX2 zMT d) K_X11_trip U_X11_trip 0 [some (.inl (some 0)), some (.inr (.inl x1)), some (.inr (.inl x2)), some (.inr (.inl x3))] [] (LAY, σ) = _
  refine (zq_iln hm (pc' := 1) rfl rfl rfl rfl).trans ?_
  refine (zq_s1 hm (pc' := 4) rfl rfl rfl rfl rfl rfl).trans (zCI_c rfl (fun r2 s1 => ?_))
  refine (zJ_n rfl).trans ?_
  refine (zq_zeq hm (pc' := 7) rfl rfl).trans (zite ?_ ?_)
  · refine (zJ_n rfl).trans ?_
    refine (zq_ld hm (pc' := 37) rfl rfl rfl rfl).trans ?_
    exact zq_ri hm rfl rfl
  · refine (zJ_n rfl).trans ?_
    refine (zq_iln hm (pc' := 8) rfl rfl rfl rfl).trans ?_
    refine (zq_s1 hm (pc' := 11) rfl rfl rfl rfl rfl rfl).trans (zCI_c rfl (fun r4 s3 => ?_))
    refine (zJ_n rfl).trans ?_
    refine (zq_zeq hm (pc' := 14) rfl rfl).trans (zite ?_ ?_)
    · refine (zJ_n rfl).trans ?_
      refine (zq_ld hm (pc' := 37) rfl rfl rfl rfl).trans ?_
      exact zq_ri hm rfl rfl
    · refine (zJ_n rfl).trans ?_
      refine (zq_aln hm (pc' := 15) rfl rfl rfl rfl).trans ?_
      refine (zq_iln hm (pc' := 16) rfl rfl rfl rfl).trans ?_
      refine (zq_v1 hm (pc' := 19) rfl rfl rfl (cls_0_11) rfl rfl).trans (zCI_c rfl (fun r6 s5 => ?_))
      refine (zJ_n rfl).trans ?_
      refine (zq_zeq hm (pc' := 22) rfl rfl).trans (zite ?_ ?_)
      · refine (zJ_n rfl).trans ?_
        refine (zq_ld hm (pc' := 37) rfl rfl rfl rfl).trans ?_
        exact zq_ri hm rfl rfl
      · refine (zJ_n rfl).trans ?_
        refine (zq_aln hm (pc' := 23) rfl rfl rfl rfl).trans ?_
        refine (zq_gr hm (pc' := 26) rfl lay_0 rfl rfl).trans ?_
        refine (zJ_n rfl).trans ?_
        refine (zq_iln hm (pc' := 27) rfl rfl rfl rfl).trans ?_
        refine (zq_aa hm (pc' := 28) rfl rfl).trans (zaa_c (fun t7 => ?_))
        refine (zJ_n rfl).trans ?_
        refine (zq_ic hm (pc' := 29) rfl rfl rfl rfl).trans ?_
        refine (zq_vy1 hm (pc' := 32) rfl rfl rfl rfl rfl).trans (zbif_c (zCI_c rfl (fun r9 s8 => ?_)))
        refine (zJ_n rfl).trans ?_
        refine (zq_zne hm (pc' := 35) rfl rfl).trans (zite ?_ ?_)
        · refine (zJ_n rfl).trans ?_
          refine (zq_ld hm (pc' := 37) rfl rfl rfl rfl).trans ?_
          exact zq_ri hm rfl rfl
        · refine (zJ_n rfl).trans ?_
          refine (zq_aln hm (pc' := 39) rfl rfl rfl rfl).trans ?_
          refine (zq_gr hm (pc' := 42) rfl lay_0 rfl rfl).trans ?_
          refine (zJ_n rfl).trans ?_
          refine (zq_aln hm (pc' := 43) rfl rfl rfl rfl).trans ?_
          refine (zq_gr hm (pc' := 46) rfl lay_0 rfl rfl).trans ?_
          refine (zJ_n rfl).trans ?_
          refine (zq_iln hm (pc' := 47) rfl rfl rfl rfl).trans ?_
          refine (zq_aa hm (pc' := 48) rfl rfl).trans (zaa_c (fun t10 => ?_))
          refine (zJ_n rfl).trans ?_
          refine (zq_iln hm (pc' := 49) rfl rfl rfl rfl).trans ?_
          refine (zq_v0 hm (pc' := 52) rfl rfl rfl (cls_31_10) rfl rfl).trans (zCV_c rfl (fun s11 => ?_))
          refine (zJ_n rfl).trans ?_
          refine (zq_iln hm (pc' := 53) rfl rfl rfl rfl).trans ?_
          refine (zq_ts hm rfl).trans (zsw_c (k' := fun _ => none) ?_ (zsw_c (k' := fun _ => none) ?_ (zsw_c (k' := fun _ => none) ?_ (zsw_n ?_))))
          · refine (zJ_n rfl).trans ?_
            refine (zq_aln hm (pc' := 81) rfl rfl rfl rfl).trans ?_
            refine (zq_gr hm (pc' := 84) rfl lay_0 rfl rfl).trans ?_
            refine (zJ_n rfl).trans ?_
            refine (zq_gf hm (v := (s11 31 2)) (pc' := 87) rfl lay_31 rfl rfl rfl).trans ?_
            refine (zJ_n rfl).trans ?_
            exact zq_ri hm rfl rfl
          · refine (zJ_n rfl).trans ?_
            refine (zq_aln hm (pc' := 89) rfl rfl rfl rfl).trans ?_
            refine (zq_gr hm (pc' := 92) rfl lay_0 rfl rfl).trans ?_
            refine (zJ_n rfl).trans ?_
            refine (zq_gf hm (v := (s11 31 3)) (pc' := 95) rfl lay_31 rfl rfl rfl).trans ?_
            refine (zJ_n rfl).trans ?_
            exact zq_ri hm rfl rfl
          · refine (zJ_n rfl).trans ?_
            refine (zq_aln hm (pc' := 97) rfl rfl rfl rfl).trans ?_
            refine (zq_gr hm (pc' := 100) rfl lay_0 rfl rfl).trans ?_
            refine (zJ_n rfl).trans ?_
            refine (zq_gf hm (v := (s11 31 4)) (pc' := 103) rfl lay_31 rfl rfl rfl).trans ?_
            refine (zJ_n rfl).trans ?_
            exact zq_ri hm rfl rfl
          · refine (zJ_n rfl).trans ?_
            refine (zq_aln hm (pc' := 105) rfl rfl rfl rfl).trans ?_
            refine (zq_gr hm (pc' := 108) rfl lay_0 rfl rfl).trans ?_
            refine (zJ_n rfl).trans ?_
            refine (zq_gr hm (pc' := 111) rfl lay_17 rfl rfl).trans ?_
            refine (zJ_n rfl).trans ?_
            refine (zq_iln hm (pc' := 112) rfl rfl rfl rfl).trans ?_
            refine (zq_bi hm (pc' := 114) rfl rfl rfl rfl).trans ?_
            refine (zq_isub hm (pc' := 115) rfl rfl rfl).trans ?_
            refine (zq_ia hm (v := (s11 18 (zw (x3 - 10)))) (pc' := 116) rfl lay_18 rfl rfl).trans (zite ?_ rfl)
            refine (zJ_n rfl).trans ?_
            exact zq_ri hm rfl rfl
set_option maxRecDepth 100000 in
set_option maxHeartbeats 4000000 in
theorem e_X11_isOfTrip (d : Nat) (x1 : Int) (σ : zF) : zx (d + 1) 118 [.inl (some 0), .inr (.inl x1)] σ = (
if x1 < 0 then (
if x1 < 10 then (
zri 0 σ) else (
zCI LAY (zx d 16 [.inl (some 1), .inr (.inl (zw (x1 - 10)))] σ) fun r2 s1 =>
if r2 = 0 then (
zri 0 s1) else (
zri 1 s1))) else (
if (2 : Int) < x1 then (
if x1 < 10 then (
zri 0 σ) else (
zCI LAY (zx d 16 [.inl (some 1), .inr (.inl (zw (x1 - 10)))] σ) fun r4 s3 =>
if r4 = 0 then (
zri 0 s3) else (
zri 1 s3))) else (
zri 1 σ))) := by
  unfold zx
  have hm := zexec_m zX2 zMT d
  refine (zexec_eq mt_118 _ rfl (LAY, σ) 0).trans ?_
  show zrunL zX2 (zexec zX2 zMT d) K_X11_isOfTrip U_X11_isOfTrip 0 [some (.inl (some 0)), some (.inr (.inl x1))] [] (LAY, σ) = _
  refine (zq_iln hm (pc' := 1) rfl rfl rfl rfl).trans ?_
  refine (zq_zlt hm (pc' := 4) rfl rfl).trans (zite ?_ ?_)
  · refine (zJ_n rfl).trans ?_
    refine (zq_iln hm (pc' := 10) rfl rfl rfl rfl).trans ?_
    refine (zq_bi hm (pc' := 12) rfl rfl rfl rfl).trans ?_
    refine (zq_ilt hm (pc' := 15) rfl rfl).trans (zite ?_ ?_)
    · refine (zJ_n rfl).trans ?_
      refine (zq_ic hm (pc' := 34) rfl rfl rfl rfl).trans ?_
      exact (zq_rb hm rfl rfl).trans (zif1 (by decide))
    · refine (zJ_n rfl).trans ?_
      refine (zq_aln hm (pc' := 16) rfl rfl rfl rfl).trans ?_
      refine (zq_gr hm (pc' := 19) rfl lay_0 rfl rfl).trans ?_
      refine (zJ_n rfl).trans ?_
      refine (zq_iln hm (pc' := 20) rfl rfl rfl rfl).trans ?_
      refine (zq_bi hm (pc' := 22) rfl rfl rfl rfl).trans ?_
      refine (zq_isub hm (pc' := 23) rfl rfl rfl).trans ?_
      refine (zq_v1 hm (pc' := 26) rfl rfl rfl (cls_1_3) rfl rfl).trans (zCI_c rfl (fun r2 s1 => ?_))
      refine (zJ_n rfl).trans ?_
      refine (zq_zeq hm (pc' := 29) rfl rfl).trans (zite ?_ ?_)
      · refine (zJ_n rfl).trans ?_
        refine (zq_ic hm (pc' := 34) rfl rfl rfl rfl).trans ?_
        exact (zq_rb hm rfl rfl).trans (zif1 (by decide))
      · refine (zJ_n rfl).trans ?_
        refine (zq_ic hm (pc' := 30) rfl rfl rfl rfl).trans ?_
        refine (zq_goto hm rfl rfl).trans ?_
        exact (zq_rb hm rfl rfl).trans (zif1 (by decide))
  · refine (zJ_n rfl).trans ?_
    refine (zq_iln hm (pc' := 5) rfl rfl rfl rfl).trans ?_
    refine (zq_ic hm (pc' := 6) rfl rfl rfl rfl).trans ?_
    refine (zq_ile hm (pc' := 9) rfl rfl).trans (zite ?_ ?_)
    · refine (zJ_n rfl).trans ?_
      refine (zq_iln hm (pc' := 10) rfl rfl rfl rfl).trans ?_
      refine (zq_bi hm (pc' := 12) rfl rfl rfl rfl).trans ?_
      refine (zq_ilt hm (pc' := 15) rfl rfl).trans (zite ?_ ?_)
      · refine (zJ_n rfl).trans ?_
        refine (zq_ic hm (pc' := 34) rfl rfl rfl rfl).trans ?_
        exact (zq_rb hm rfl rfl).trans (zif1 (by decide))
      · refine (zJ_n rfl).trans ?_
        refine (zq_aln hm (pc' := 16) rfl rfl rfl rfl).trans ?_
        refine (zq_gr hm (pc' := 19) rfl lay_0 rfl rfl).trans ?_
        refine (zJ_n rfl).trans ?_
        refine (zq_iln hm (pc' := 20) rfl rfl rfl rfl).trans ?_
        refine (zq_bi hm (pc' := 22) rfl rfl rfl rfl).trans ?_
        refine (zq_isub hm (pc' := 23) rfl rfl rfl).trans ?_
        refine (zq_v1 hm (pc' := 26) rfl rfl rfl (cls_1_3) rfl rfl).trans (zCI_c rfl (fun r4 s3 => ?_))
        refine (zJ_n rfl).trans ?_
        refine (zq_zeq hm (pc' := 29) rfl rfl).trans (zite ?_ ?_)
        · refine (zJ_n rfl).trans ?_
          refine (zq_ic hm (pc' := 34) rfl rfl rfl rfl).trans ?_
          exact (zq_rb hm rfl rfl).trans (zif1 (by decide))
        · refine (zJ_n rfl).trans ?_
          refine (zq_ic hm (pc' := 30) rfl rfl rfl rfl).trans ?_
          refine (zq_goto hm rfl rfl).trans ?_
          exact (zq_rb hm rfl rfl).trans (zif1 (by decide))
    · refine (zJ_n rfl).trans ?_
      refine (zq_ic hm (pc' := 30) rfl rfl rfl rfl).trans ?_
      refine (zq_goto hm rfl rfl).trans ?_
      exact (zq_rb hm rfl rfl).trans (zif1 (by decide))
