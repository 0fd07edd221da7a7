/-! equations, 2 -/
noncomputable def P_X3_jealousOf_4 (d : Nat) (y1 : Int) (y2 : Int) (y3 : Int) (σ : zF) : Option zR := zrunL zX2 (zexec zX2 zMT d) K_X3_jealousOf U_X3_jealousOf 4 [some (.inl (some 1)), some (.inr (.inl y1)), some (.inr (.inl y2)), some (.inr (.inl y3))] [] (LAY, σ)
set_option maxRecDepth 100000 in
set_option maxHeartbeats 4000000 in
theorem e_X3_jealousOf (d : Nat) (x1 : Int) (σ : zF) : zx (d + 1) 28 [.inl (some 1), .inr (.inl x1)] σ = (
P_X3_jealousOf_4 d x1 0 0 σ) := by
  unfold zx
  have hm := zexec_m zX2 zMT d
  refine (zexec_eq mt_28 _ rfl (LAY, σ) 0).trans ?_
  show zrunL zX2 (zexec zX2 zMT d) K_X3_jealousOf U_X3_jealousOf 0 [some (.inl (some 1)), some (.inr (.inl x1)), none, none] [] (LAY, σ) = _
  refine (zq_ic hm (pc' := 1) rfl rfl rfl rfl).trans ?_
  refine (zq_isn hm (ls' := [some (.inl (some 1)), some (.inr (.inl x1)), some (.inr (.inl 0)), none]) (pc' := 2) rfl rfl rfl rfl).trans ?_
  refine (zq_ic hm (pc' := 3) rfl rfl rfl rfl).trans ?_
  exact (zc_isn hm (ls' := [some (.inl (some 1)), some (.inr (.inl x1)), some (.inr (.inl 0)), some (.inr (.inl 0))]) (pc' := 4) rfl rfl rfl rfl).trans rfl
set_option maxRecDepth 100000 in
set_option maxHeartbeats 4000000 in
theorem e_X3_jealousOf_4 (d : Nat) (y1 : Int) (y2 : Int) (y3 : Int) (σ : zF) : P_X3_jealousOf_4 d y1 y2 y3 σ = (
if y3 < (σ 1 0) then (
if 0 ≤ y3 ∧ y3 < 12 then (
if (σ 6 y3) = y1 then (
P_X3_jealousOf_4 d y1 (zor y2 (zshl 1 y3)) (zw (y3 + 1)) σ) else (
P_X3_jealousOf_4 d y1 y2 (zw (y3 + 1)) σ)) else (
none)) else (
zri y2 σ)) := by
  have hm := zexec_m zX2 zMT d
  show zrunL zX2 (zexec zX2 zMT d) K_X3_jealousOf U_X3_jealousOf 4 [some (.inl (some 1)), some (.inr (.inl y1)), some (.inr (.inl y2)), some (.inr (.inl y3))] [] (LAY, σ) = _
  refine (zq_iln hm (pc' := 5) rfl rfl rfl rfl).trans ?_
  refine (zq_aln hm (pc' := 6) rfl rfl rfl rfl).trans ?_
  refine (zq_gf hm (v := (σ 1 0)) (pc' := 9) rfl lay_1 rfl rfl rfl).trans ?_
  refine (zJ_n rfl).trans ?_
  refine (zq_ige hm (pc' := 12) rfl rfl).trans (zite ?_ ?_)
  · refine (zJ_n rfl).trans ?_
    refine (zq_aln hm (pc' := 13) rfl rfl rfl rfl).trans ?_
    refine (zq_gr hm (pc' := 16) rfl lay_1 rfl rfl).trans ?_
    refine (zJ_n rfl).trans ?_
    refine (zq_iln hm (pc' := 17) rfl rfl rfl rfl).trans ?_
    refine (zq_ia hm (v := (σ 6 y3)) (pc' := 18) rfl lay_6 rfl rfl).trans (zite ?_ rfl)
    refine (zJ_n rfl).trans ?_
    refine (zq_iln hm (pc' := 19) rfl rfl rfl rfl).trans ?_
    refine (zq_ine hm (pc' := 22) rfl rfl).trans (zite ?_ ?_)
    · refine (zJ_n rfl).trans ?_
      refine (zq_iln hm (pc' := 23) rfl rfl rfl rfl).trans ?_
      refine (zq_ic hm (pc' := 24) rfl rfl rfl rfl).trans ?_
      refine (zq_iln hm (pc' := 25) rfl rfl rfl rfl).trans ?_
      refine (zq_ishl hm (pc' := 26) rfl rfl rfl).trans ?_
      refine (zq_ior hm (pc' := 27) rfl rfl rfl).trans ?_
      refine (zq_isn hm (ls' := [some (.inl (some 1)), some (.inr (.inl y1)), some (.inr (.inl (zor y2 (zshl 1 y3)))), some (.inr (.inl y3))]) (pc' := 28) rfl rfl rfl rfl).trans ?_
      refine (zq_iinc hm (ls' := [some (.inl (some 1)), some (.inr (.inl y1)), some (.inr (.inl (zor y2 (zshl 1 y3)))), some (.inr (.inl (zw (y3 + 1))))]) (pc' := 31) rfl rfl rfl rfl rfl rfl).trans ?_
      exact (zc_goto hm rfl rfl).trans rfl
    · refine (zJ_n rfl).trans ?_
      refine (zq_iinc hm (ls' := [some (.inl (some 1)), some (.inr (.inl y1)), some (.inr (.inl y2)), some (.inr (.inl (zw (y3 + 1))))]) (pc' := 31) rfl rfl rfl rfl rfl rfl).trans ?_
      exact (zc_goto hm rfl rfl).trans rfl
  · refine (zJ_n rfl).trans ?_
    refine (zq_iln hm (pc' := 35) rfl rfl rfl rfl).trans ?_
    exact zq_ri hm rfl rfl
noncomputable def P_X3_mostInPeace_14 (d : Nat) (y1 : Int) (y2 : Int) (y3 : Int) (y4 : Int) (σ : zF) : Option zR := zrunL zX2 (zexec zX2 zMT d) K_X3_mostInPeace U_X3_mostInPeace 14 [some (.inl (some 1)), some (.inr (.inl y1)), some (.inr (.inl y2)), some (.inr (.inl y3)), some (.inr (.inl y4))] [] (LAY, σ)
set_option maxRecDepth 100000 in
set_option maxHeartbeats 4000000 in
theorem e_X3_mostInPeace (d : Nat) (σ : zF) : zx (d + 1) 29 [.inl (some 1)] σ = (
P_X3_mostInPeace_14 d 0 0 (zshl 1 (σ 1 0)) 1 σ) := by
  unfold zx
  have hm := zexec_m zX2 zMT d
  refine (zexec_eq mt_29 _ rfl (LAY, σ) 0).trans ?_
  show zrunL zX2 (zexec zX2 zMT d) K_X3_mostInPeace U_X3_mostInPeace 0 [some (.inl (some 1)), none, none, none, none] [] (LAY, σ) = _
  refine (zq_ic hm (pc' := 1) rfl rfl rfl rfl).trans ?_
  refine (zq_isn hm (ls' := [some (.inl (some 1)), some (.inr (.inl 0)), none, none, none]) (pc' := 2) rfl rfl rfl rfl).trans ?_
  refine (zq_ic hm (pc' := 3) rfl rfl rfl rfl).trans ?_
  refine (zq_isn hm (ls' := [some (.inl (some 1)), some (.inr (.inl 0)), some (.inr (.inl 0)), none, none]) (pc' := 4) rfl rfl rfl rfl).trans ?_
  refine (zq_ic hm (pc' := 5) rfl rfl rfl rfl).trans ?_
  refine (zq_aln hm (pc' := 6) rfl rfl rfl rfl).trans ?_
  refine (zq_gf hm (v := (σ 1 0)) (pc' := 9) rfl lay_1 rfl rfl rfl).trans ?_
  refine (zJ_n rfl).trans ?_
  refine (zq_ishl hm (pc' := 10) rfl rfl rfl).trans ?_
  refine (zq_isn hm (ls' := [some (.inl (some 1)), some (.inr (.inl 0)), some (.inr (.inl 0)), some (.inr (.inl (zshl 1 (σ 1 0)))), none]) (pc' := 11) rfl rfl rfl rfl).trans ?_
  refine (zq_ic hm (pc' := 12) rfl rfl rfl rfl).trans ?_
  exact (zc_is hm (ls' := [some (.inl (some 1)), some (.inr (.inl 0)), some (.inr (.inl 0)), some (.inr (.inl (zshl 1 (σ 1 0)))), some (.inr (.inl 1))]) (pc' := 14) rfl rfl rfl rfl).trans rfl
set_option maxRecDepth 100000 in
set_option maxHeartbeats 4000000 in
theorem e_X3_mostInPeace_14 (d : Nat) (y1 : Int) (y2 : Int) (y3 : Int) (y4 : Int) (σ : zF) : P_X3_mostInPeace_14 d y1 y2 y3 y4 σ = (
if y4 < y3 then (
zCI LAY (zx d 253 [.inr (.inl y4)] σ) fun r102 s101 =>
if y2 < r102 then (
zCI LAY (zx d 30 [.inl (some 1), .inr (.inl y4)] s101) fun r104 s103 =>
if r104 = 0 then (
P_X3_mostInPeace_14 d y1 y2 y3 (zw (y4 + 1)) s103) else (
zCI LAY (zx d 253 [.inr (.inl y4)] s103) fun r106 s105 =>
P_X3_mostInPeace_14 d y4 r106 y3 (zw (y4 + 1)) s105)) else (
P_X3_mostInPeace_14 d y1 y2 y3 (zw (y4 + 1)) s101)) else (
zri y1 σ)) := by
  have hm := zexec_m zX2 zMT d
  show zrunL zX2 (zexec zX2 zMT d) K_X3_mostInPeace U_X3_mostInPeace 14 [some (.inl (some 1)), some (.inr (.inl y1)), some (.inr (.inl y2)), some (.inr (.inl y3)), some (.inr (.inl y4))] [] (LAY, σ) = _
  refine (zq_il hm (pc' := 16) rfl rfl rfl rfl).trans ?_
  refine (zq_iln hm (pc' := 17) rfl rfl rfl rfl).trans ?_
  refine (zq_ige hm (pc' := 20) rfl rfl).trans (zite ?_ ?_)
  · refine (zJ_n rfl).trans ?_
    refine (zq_il hm (pc' := 22) rfl rfl rfl rfl).trans ?_
    refine (zq_s1 hm (pc' := 25) rfl rfl rfl rfl rfl rfl).trans (zCI_c rfl (fun r102 s101 => ?_))
    refine (zJ_n rfl).trans ?_
    refine (zq_iln hm (pc' := 26) rfl rfl rfl rfl).trans ?_
    refine (zq_ile hm (pc' := 29) rfl rfl).trans (zite ?_ ?_)
    · refine (zJ_n rfl).trans ?_
      refine (zq_aln hm (pc' := 30) rfl rfl rfl rfl).trans ?_
      refine (zq_il hm (pc' := 32) rfl rfl rfl rfl).trans ?_
      refine (zq_v1 hm (pc' := 35) rfl rfl rfl (cls_1_3) rfl rfl).trans (zCI_c rfl (fun r104 s103 => ?_))
      refine (zJ_n rfl).trans ?_
      refine (zq_zeq hm (pc' := 38) rfl rfl).trans (zite ?_ ?_)
      · refine (zJ_n rfl).trans ?_
        refine (zq_iinc hm (ls' := [some (.inl (some 1)), some (.inr (.inl y1)), some (.inr (.inl y2)), some (.inr (.inl y3)), some (.inr (.inl (zw (y4 + 1))))]) (pc' := 50) rfl rfl rfl rfl rfl rfl).trans ?_
        exact (zc_goto hm rfl rfl).trans rfl
      · refine (zJ_n rfl).trans ?_
        refine (zq_il hm (pc' := 40) rfl rfl rfl rfl).trans ?_
        refine (zq_isn hm (ls' := [some (.inl (some 1)), some (.inr (.inl y4)), some (.inr (.inl y2)), some (.inr (.inl y3)), some (.inr (.inl y4))]) (pc' := 41) rfl rfl rfl rfl).trans ?_
        refine (zq_il hm (pc' := 43) rfl rfl rfl rfl).trans ?_
        refine (zq_s1 hm (pc' := 46) rfl rfl rfl rfl rfl rfl).trans (zCI_c rfl (fun r106 s105 => ?_))
        refine (zJ_n rfl).trans ?_
        refine (zq_isn hm (ls' := [some (.inl (some 1)), some (.inr (.inl y4)), some (.inr (.inl r106)), some (.inr (.inl y3)), some (.inr (.inl y4))]) (pc' := 47) rfl rfl rfl rfl).trans ?_
        refine (zq_iinc hm (ls' := [some (.inl (some 1)), some (.inr (.inl y4)), some (.inr (.inl r106)), some (.inr (.inl y3)), some (.inr (.inl (zw (y4 + 1))))]) (pc' := 50) rfl rfl rfl rfl rfl rfl).trans ?_
        exact (zc_goto hm rfl rfl).trans rfl
    · refine (zJ_n rfl).trans ?_
      refine (zq_iinc hm (ls' := [some (.inl (some 1)), some (.inr (.inl y1)), some (.inr (.inl y2)), some (.inr (.inl y3)), some (.inr (.inl (zw (y4 + 1))))]) (pc' := 50) rfl rfl rfl rfl rfl rfl).trans ?_
      exact (zc_goto hm rfl rfl).trans rfl
  · refine (zJ_n rfl).trans ?_
    refine (zq_iln hm (pc' := 54) rfl rfl rfl rfl).trans ?_
    exact zq_ri hm rfl rfl
noncomputable def P_X3_isPeace_2 (d : Nat) (y1 : Int) (y2 : Int) (σ : zF) : Option zR := zrunL zX2 (zexec zX2 zMT d) K_X3_isPeace U_X3_isPeace 2 [some (.inl (some 1)), some (.inr (.inl y1)), some (.inr (.inl y2))] [] (LAY, σ)
set_option maxRecDepth 100000 in
set_option maxHeartbeats 4000000 in
theorem e_X3_isPeace (d : Nat) (x1 : Int) (σ : zF) : zx (d + 1) 30 [.inl (some 1), .inr (.inl x1)] σ = (
P_X3_isPeace_2 d x1 0 σ) := by
  unfold zx
  have hm := zexec_m zX2 zMT d
  refine (zexec_eq mt_30 _ rfl (LAY, σ) 0).trans ?_
  show zrunL zX2 (zexec zX2 zMT d) K_X3_isPeace U_X3_isPeace 0 [some (.inl (some 1)), some (.inr (.inl x1)), none] [] (LAY, σ) = _
  refine (zq_ic hm (pc' := 1) rfl rfl rfl rfl).trans ?_
  exact (zc_isn hm (ls' := [some (.inl (some 1)), some (.inr (.inl x1)), some (.inr (.inl 0))]) (pc' := 2) rfl rfl rfl rfl).trans rfl
set_option maxRecDepth 100000 in
set_option maxHeartbeats 4000000 in
theorem e_X3_isPeace_2 (d : Nat) (y1 : Int) (y2 : Int) (σ : zF) : P_X3_isPeace_2 d y1 y2 σ = (
if y2 < (σ 1 0) then (
if zand (zshr y1 y2) 1 = 1 then (
if 0 ≤ y2 ∧ y2 < 12 then (
if (σ 6 y2) = (-1) then (
P_X3_isPeace_2 d y1 (zw (y2 + 1)) σ) else (
if 0 ≤ y2 ∧ y2 < 12 then (
if zand (zshr y1 (σ 6 y2)) 1 = 1 then (
zri 0 σ) else (
P_X3_isPeace_2 d y1 (zw (y2 + 1)) σ)) else (
none))) else (
none)) else (
P_X3_isPeace_2 d y1 (zw (y2 + 1)) σ)) else (
zri 1 σ)) := by
  have hm := zexec_m zX2 zMT d
  show zrunL zX2 (zexec zX2 zMT d) K_X3_isPeace U_X3_isPeace 2 [some (.inl (some 1)), some (.inr (.inl y1)), some (.inr (.inl y2))] [] (LAY, σ) = _
  refine (zq_iln hm (pc' := 3) rfl rfl rfl rfl).trans ?_
  refine (zq_aln hm (pc' := 4) rfl rfl rfl rfl).trans ?_
  refine (zq_gf hm (v := (σ 1 0)) (pc' := 7) rfl lay_1 rfl rfl rfl).trans ?_
  refine (zJ_n rfl).trans ?_
  refine (zq_ige hm (pc' := 10) rfl rfl).trans (zite ?_ ?_)
  · refine (zJ_n rfl).trans ?_
    refine (zq_iln hm (pc' := 11) rfl rfl rfl rfl).trans ?_
    refine (zq_iln hm (pc' := 12) rfl rfl rfl rfl).trans ?_
    refine (zq_ishr hm (pc' := 13) rfl rfl rfl).trans ?_
    refine (zq_ic hm (pc' := 14) rfl rfl rfl rfl).trans ?_
    refine (zq_iand hm (pc' := 15) rfl rfl rfl).trans ?_
    refine (zq_ic hm (pc' := 16) rfl rfl rfl rfl).trans ?_
    refine (zq_ine hm (pc' := 19) rfl rfl).trans (zite ?_ ?_)
    · refine (zJ_n rfl).trans ?_
      refine (zq_aln hm (pc' := 20) rfl rfl rfl rfl).trans ?_
      refine (zq_gr hm (pc' := 23) rfl lay_1 rfl rfl).trans ?_
      refine (zJ_n rfl).trans ?_
      refine (zq_iln hm (pc' := 24) rfl rfl rfl rfl).trans ?_
      refine (zq_ia hm (v := (σ 6 y2)) (pc' := 25) rfl lay_6 rfl rfl).trans (zite ?_ rfl)
      refine (zJ_n rfl).trans ?_
      refine (zq_ic hm (pc' := 26) rfl rfl rfl rfl).trans ?_
      refine (zq_ieq hm (pc' := 29) rfl rfl).trans (zite ?_ ?_)
      · refine (zJ_n rfl).trans ?_
        refine (zq_iinc hm (ls' := [some (.inl (some 1)), some (.inr (.inl y1)), some (.inr (.inl (zw (y2 + 1))))]) (pc' := 48) rfl rfl rfl rfl rfl rfl).trans ?_
        exact (zc_goto hm rfl rfl).trans rfl
      · refine (zJ_n rfl).trans ?_
        refine (zq_iln hm (pc' := 30) rfl rfl rfl rfl).trans ?_
        refine (zq_aln hm (pc' := 31) rfl rfl rfl rfl).trans ?_
        refine (zq_gr hm (pc' := 34) rfl lay_1 rfl rfl).trans ?_
        refine (zJ_n rfl).trans ?_
        refine (zq_iln hm (pc' := 35) rfl rfl rfl rfl).trans ?_
        refine (zq_ia hm (v := (σ 6 y2)) (pc' := 36) rfl lay_6 rfl rfl).trans (zite ?_ rfl)
        refine (zJ_n rfl).trans ?_
        refine (zq_ishr hm (pc' := 37) rfl rfl rfl).trans ?_
        refine (zq_ic hm (pc' := 38) rfl rfl rfl rfl).trans ?_
        refine (zq_iand hm (pc' := 39) rfl rfl rfl).trans ?_
        refine (zq_ic hm (pc' := 40) rfl rfl rfl rfl).trans ?_
        refine (zq_ine hm (pc' := 43) rfl rfl).trans (zite ?_ ?_)
        · refine (zJ_n rfl).trans ?_
          refine (zq_ic hm (pc' := 44) rfl rfl rfl rfl).trans ?_
          exact (zq_rb hm rfl rfl).trans (zif1 (by decide))
        · refine (zJ_n rfl).trans ?_
          refine (zq_iinc hm (ls' := [some (.inl (some 1)), some (.inr (.inl y1)), some (.inr (.inl (zw (y2 + 1))))]) (pc' := 48) rfl rfl rfl rfl rfl rfl).trans ?_
          exact (zc_goto hm rfl rfl).trans rfl
    · refine (zJ_n rfl).trans ?_
      refine (zq_iinc hm (ls' := [some (.inl (some 1)), some (.inr (.inl y1)), some (.inr (.inl (zw (y2 + 1))))]) (pc' := 48) rfl rfl rfl rfl rfl rfl).trans ?_
      exact (zc_goto hm rfl rfl).trans rfl
  · refine (zJ_n rfl).trans ?_
    refine (zq_ic hm (pc' := 52) rfl rfl rfl rfl).trans ?_
    exact (zq_rb hm rfl rfl).trans (zif1 (by decide))
noncomputable def P_X3_ringOf_9 (d : Nat) (y1 : Int) (y2 : Int) (y3 : Int) (σ : zF) : Option zR := zrunL zX2 (zexec zX2 zMT d) K_X3_ringOf U_X3_ringOf 9 [some (.inl (some 1)), some (.inr (.inl y1)), some (.inr (.inl y2)), some (.inr (.inl y3))] [] (LAY, σ)
set_option maxRecDepth 100000 in
set_option maxHeartbeats 4000000 in
theorem e_X3_ringOf (d : Nat) (x1 : Int) (σ : zF) : zx (d + 1) 31 [.inl (some 1), .inr (.inl x1)] σ = (
if 0 ≤ x1 ∧ x1 < 12 then (
P_X3_ringOf_9 d x1 (σ 6 x1) 1 σ) else (
none)) := by
  unfold zx
  have hm := zexec_m zX2 zMT d
  refine (zexec_eq mt_31 _ rfl (LAY, σ) 0).trans ?_
  show zrunL zX2 (zexec zX2 zMT d) K_X3_ringOf U_X3_ringOf 0 [some (.inl (some 1)), some (.inr (.inl x1)), none, none] [] (LAY, σ) = _
  refine (zq_aln hm (pc' := 1) rfl rfl rfl rfl).trans ?_
  refine (zq_gr hm (pc' := 4) rfl lay_1 rfl rfl).trans ?_
  refine (zJ_n rfl).trans ?_
  refine (zq_iln hm (pc' := 5) rfl rfl rfl rfl).trans ?_
  refine (zq_ia hm (v := (σ 6 x1)) (pc' := 6) rfl lay_6 rfl rfl).trans (zite ?_ rfl)
  refine (zJ_n rfl).trans ?_
  refine (zq_isn hm (ls' := [some (.inl (some 1)), some (.inr (.inl x1)), some (.inr (.inl (σ 6 x1))), none]) (pc' := 7) rfl rfl rfl rfl).trans ?_
  refine (zq_ic hm (pc' := 8) rfl rfl rfl rfl).trans ?_
  exact (zc_isn hm (ls' := [some (.inl (some 1)), some (.inr (.inl x1)), some (.inr (.inl (σ 6 x1))), some (.inr (.inl 1))]) (pc' := 9) rfl rfl rfl rfl).trans rfl
set_option maxRecDepth 100000 in
set_option maxHeartbeats 4000000 in
theorem e_X3_ringOf_9 (d : Nat) (y1 : Int) (y2 : Int) (y3 : Int) (σ : zF) : P_X3_ringOf_9 d y1 y2 y3 σ = (
if (12 : Int) < y3 then (
zri (-2) σ) else (
if y2 = (-1) then (
zri (-2) σ) else (
if y2 = y1 then (
zri y3 σ) else (
if 0 ≤ y2 ∧ y2 < 12 then (
P_X3_ringOf_9 d y1 (σ 6 y2) (zw (y3 + 1)) σ) else (
none))))) := by
  have hm := zexec_m zX2 zMT d
  show zrunL zX2 (zexec zX2 zMT d) K_X3_ringOf U_X3_ringOf 9 [some (.inl (some 1)), some (.inr (.inl y1)), some (.inr (.inl y2)), some (.inr (.inl y3))] [] (LAY, σ) = _
  refine (zq_iln hm (pc' := 10) rfl rfl rfl rfl).trans ?_
  refine (zq_bi hm (pc' := 12) rfl rfl rfl rfl).trans ?_
  refine (zq_igt hm (pc' := 15) rfl rfl).trans (zite ?_ ?_)
  · refine (zJ_n rfl).trans ?_
    refine (zq_bi hm (pc' := 42) rfl rfl rfl rfl).trans ?_
    exact zq_ri hm rfl rfl
  · refine (zJ_n rfl).trans ?_
    refine (zq_iln hm (pc' := 16) rfl rfl rfl rfl).trans ?_
    refine (zq_ic hm (pc' := 17) rfl rfl rfl rfl).trans ?_
    refine (zq_ieq hm (pc' := 20) rfl rfl).trans (zite ?_ ?_)
    · refine (zJ_n rfl).trans ?_
      refine (zq_bi hm (pc' := 42) rfl rfl rfl rfl).trans ?_
      exact zq_ri hm rfl rfl
    · refine (zJ_n rfl).trans ?_
      refine (zq_iln hm (pc' := 21) rfl rfl rfl rfl).trans ?_
      refine (zq_iln hm (pc' := 22) rfl rfl rfl rfl).trans ?_
      refine (zq_ine hm (pc' := 25) rfl rfl).trans (zite ?_ ?_)
      · refine (zJ_n rfl).trans ?_
        refine (zq_iln hm (pc' := 26) rfl rfl rfl rfl).trans ?_
        exact zq_ri hm rfl rfl
      · refine (zJ_n rfl).trans ?_
        refine (zq_aln hm (pc' := 28) rfl rfl rfl rfl).trans ?_
        refine (zq_gr hm (pc' := 31) rfl lay_1 rfl rfl).trans ?_
        refine (zJ_n rfl).trans ?_
        refine (zq_iln hm (pc' := 32) rfl rfl rfl rfl).trans ?_
        refine (zq_ia hm (v := (σ 6 y2)) (pc' := 33) rfl lay_6 rfl rfl).trans (zite ?_ rfl)
        refine (zJ_n rfl).trans ?_
        refine (zq_isn hm (ls' := [some (.inl (some 1)), some (.inr (.inl y1)), some (.inr (.inl (σ 6 y2))), some (.inr (.inl y3))]) (pc' := 34) rfl rfl rfl rfl).trans ?_
        refine (zq_iinc hm (ls' := [some (.inl (some 1)), some (.inr (.inl y1)), some (.inr (.inl (σ 6 y2))), some (.inr (.inl (zw (y3 + 1))))]) (pc' := 37) rfl rfl rfl rfl rfl rfl).trans ?_
        exact (zc_goto hm rfl rfl).trans rfl
noncomputable def P_X3_chainFrom_14 (d : Nat) (y1 : Int) (y2 : Int) (y3 : Int) (σ : zF) : Option zR := zrunL zX2 (zexec zX2 zMT d) K_X3_chainFrom U_X3_chainFrom 14 [some (.inl (some 1)), none, some (.inr (.inl y1)), some (.inr (.inl y2)), some (.inr (.inl y3))] [] (LAY, σ)
set_option maxRecDepth 100000 in
set_option maxHeartbeats 4000000 in
theorem e_X3_chainFrom (d : Nat) (x1 : Int) (σ : zF) : zx (d + 1) 32 [.inl (some 1), .inr (.inl x1)] σ = (
if 0 ≤ x1 ∧ x1 < 12 then (
P_X3_chainFrom_14 d (zshl 1 x1) 0 (σ 6 x1) σ) else (
none)) := by
  unfold zx
  have hm := zexec_m zX2 zMT d
  refine (zexec_eq mt_32 _ rfl (LAY, σ) 0).trans ?_
  show zrunL zX2 (zexec zX2 zMT d) K_X3_chainFrom U_X3_chainFrom 0 [some (.inl (some 1)), some (.inr (.inl x1)), none, none, none] [] (LAY, σ) = _
  refine (zq_ic hm (pc' := 1) rfl rfl rfl rfl).trans ?_
  refine (zq_iln hm (pc' := 2) rfl rfl rfl rfl).trans ?_
  refine (zq_ishl hm (pc' := 3) rfl rfl rfl).trans ?_
  refine (zq_isn hm (ls' := [some (.inl (some 1)), some (.inr (.inl x1)), some (.inr (.inl (zshl 1 x1))), none, none]) (pc' := 4) rfl rfl rfl rfl).trans ?_
  refine (zq_ic hm (pc' := 5) rfl rfl rfl rfl).trans ?_
  refine (zq_isn hm (ls' := [some (.inl (some 1)), some (.inr (.inl x1)), some (.inr (.inl (zshl 1 x1))), some (.inr (.inl 0)), none]) (pc' := 6) rfl rfl rfl rfl).trans ?_
  refine (zq_aln hm (pc' := 7) rfl rfl rfl rfl).trans ?_
  refine (zq_gr hm (pc' := 10) rfl lay_1 rfl rfl).trans ?_
  refine (zJ_n rfl).trans ?_
  refine (zq_iln hm (pc' := 11) rfl rfl rfl rfl).trans ?_
  refine (zq_ia hm (v := (σ 6 x1)) (pc' := 12) rfl lay_6 rfl rfl).trans (zite ?_ rfl)
  refine (zJ_n rfl).trans ?_
  exact (zc_is hm (ls' := [some (.inl (some 1)), some (.inr (.inl x1)), some (.inr (.inl (zshl 1 x1))), some (.inr (.inl 0)), some (.inr (.inl (σ 6 x1)))]) (pc' := 14) rfl rfl rfl rfl).trans rfl
set_option maxRecDepth 100000 in
set_option maxHeartbeats 4000000 in
theorem e_X3_chainFrom_14 (d : Nat) (y1 : Int) (y2 : Int) (y3 : Int) (σ : zF) : P_X3_chainFrom_14 d y1 y2 y3 σ = (
if y2 < 12 then (
if y3 = (-1) then (
zri y2 σ) else (
if zand (zshr y1 y3) 1 = 0 then (
if 0 ≤ y3 ∧ y3 < 12 then (
P_X3_chainFrom_14 d (zor y1 (zshl 1 y3)) (zw (y2 + 1)) (σ 6 y3) σ) else (
none)) else (
zri y2 σ))) else (
zri y2 σ)) := by
  have hm := zexec_m zX2 zMT d
  show zrunL zX2 (zexec zX2 zMT d) K_X3_chainFrom U_X3_chainFrom 14 [some (.inl (some 1)), none, some (.inr (.inl y1)), some (.inr (.inl y2)), some (.inr (.inl y3))] [] (LAY, σ) = _
  refine (zq_iln hm (pc' := 15) rfl rfl rfl rfl).trans ?_
  refine (zq_bi hm (pc' := 17) rfl rfl rfl rfl).trans ?_
  refine (zq_ige hm (pc' := 20) rfl rfl).trans (zite ?_ ?_)
  · refine (zJ_n rfl).trans ?_
    refine (zq_il hm (pc' := 22) rfl rfl rfl rfl).trans ?_
    refine (zq_ic hm (pc' := 23) rfl rfl rfl rfl).trans ?_
    refine (zq_ieq hm (pc' := 26) rfl rfl).trans (zite ?_ ?_)
    · refine (zJ_n rfl).trans ?_
      refine (zq_iln hm (pc' := 58) rfl rfl rfl rfl).trans ?_
      exact zq_ri hm rfl rfl
    · refine (zJ_n rfl).trans ?_
      refine (zq_iln hm (pc' := 27) rfl rfl rfl rfl).trans ?_
      refine (zq_il hm (pc' := 29) rfl rfl rfl rfl).trans ?_
      refine (zq_ishr hm (pc' := 30) rfl rfl rfl).trans ?_
      refine (zq_ic hm (pc' := 31) rfl rfl rfl rfl).trans ?_
      refine (zq_iand hm (pc' := 32) rfl rfl rfl).trans ?_
      refine (zq_zne hm (pc' := 35) rfl rfl).trans (zite ?_ ?_)
      · refine (zJ_n rfl).trans ?_
        refine (zq_iln hm (pc' := 36) rfl rfl rfl rfl).trans ?_
        refine (zq_ic hm (pc' := 37) rfl rfl rfl rfl).trans ?_
        refine (zq_il hm (pc' := 39) rfl rfl rfl rfl).trans ?_
        refine (zq_ishl hm (pc' := 40) rfl rfl rfl).trans ?_
        refine (zq_ior hm (pc' := 41) rfl rfl rfl).trans ?_
        refine (zq_isn hm (ls' := [some (.inl (some 1)), none, some (.inr (.inl (zor y1 (zshl 1 y3)))), some (.inr (.inl y2)), some (.inr (.inl y3))]) (pc' := 42) rfl rfl rfl rfl).trans ?_
        refine (zq_iinc hm (ls' := [some (.inl (some 1)), none, some (.inr (.inl (zor y1 (zshl 1 y3)))), some (.inr (.inl (zw (y2 + 1)))), some (.inr (.inl y3))]) (pc' := 45) rfl rfl rfl rfl rfl rfl).trans ?_
        refine (zq_aln hm (pc' := 46) rfl rfl rfl rfl).trans ?_
        refine (zq_gr hm (pc' := 49) rfl lay_1 rfl rfl).trans ?_
        refine (zJ_n rfl).trans ?_
        refine (zq_il hm (pc' := 51) rfl rfl rfl rfl).trans ?_
        refine (zq_ia hm (v := (σ 6 y3)) (pc' := 52) rfl lay_6 rfl rfl).trans (zite ?_ rfl)
        refine (zJ_n rfl).trans ?_
        refine (zq_is hm (ls' := [some (.inl (some 1)), none, some (.inr (.inl (zor y1 (zshl 1 y3)))), some (.inr (.inl (zw (y2 + 1)))), some (.inr (.inl (σ 6 y3)))]) (pc' := 54) rfl rfl rfl rfl).trans ?_
        exact (zc_goto hm rfl rfl).trans rfl
      · refine (zJ_n rfl).trans ?_
        refine (zq_iln hm (pc' := 58) rfl rfl rfl rfl).trans ?_
        exact zq_ri hm rfl rfl
  · refine (zJ_n rfl).trans ?_
    refine (zq_iln hm (pc' := 58) rfl rfl rfl rfl).trans ?_
    exact zq_ri hm rfl rfl
set_option maxRecDepth 100000 in
set_option maxHeartbeats 4000000 in
theorem e_X4_append (d : Nat) (x1 : Int) (σ : zF) : zx (d + 1) 34 [.inl (some 11), .inr (.inl x1)] σ = (
if (σ 11 1) < 120 then (
if 0 ≤ (σ 11 1) ∧ (σ 11 1) < 120 then (
zri (zw ((σ 11 1) + 1)) (zset (zset σ 12 (σ 11 1) x1) 11 1 (zw ((σ 11 1) + 1)))) else (
none)) else (
zri (-3) σ)) := by
  unfold zx
  have hm := zexec_m zX2 zMT d
  refine (zexec_eq mt_34 _ rfl (LAY, σ) 0).trans ?_
  show zrunL zX2 (zexec zX2 zMT d) K_X4_append U_X4_append 0 [some (.inl (some 11)), some (.inr (.inl x1))] [] (LAY, σ) = _
  refine (zq_aln hm (pc' := 1) rfl rfl rfl rfl).trans ?_
  refine (zq_gf hm (v := (σ 11 1)) (pc' := 4) rfl lay_11 rfl rfl rfl).trans ?_
  refine (zJ_n rfl).trans ?_
  refine (zq_bi hm (pc' := 6) rfl rfl rfl rfl).trans ?_
  refine (zq_ilt hm (pc' := 9) rfl rfl).trans (zite ?_ ?_)
  · refine (zJ_n rfl).trans ?_
    refine (zq_aln hm (pc' := 13) rfl rfl rfl rfl).trans ?_
    refine (zq_gr hm (pc' := 16) rfl lay_11 rfl rfl).trans ?_
    refine (zJ_n rfl).trans ?_
    refine (zq_aln hm (pc' := 17) rfl rfl rfl rfl).trans ?_
    refine (zq_gf hm (v := (σ 11 1)) (pc' := 20) rfl lay_11 rfl rfl rfl).trans ?_
    refine (zJ_n rfl).trans ?_
    refine (zq_iln hm (pc' := 21) rfl rfl rfl rfl).trans ?_
    refine (zq_ist hm (pc' := 22) rfl lay_12 rfl).trans (zite ?_ rfl)
    refine (zJ_n rfl).trans ?_
    refine (zq_aln hm (pc' := 23) rfl rfl rfl rfl).trans ?_
    refine (zq_dup hm (pc' := 24) rfl rfl rfl rfl).trans ?_
    refine (zq_gf hm (v := (σ 11 1)) (pc' := 27) rfl lay_11 rfl (zsn rfl) rfl).trans ?_
    refine (zJ_n rfl).trans ?_
    refine (zq_ic hm (pc' := 28) rfl rfl rfl rfl).trans ?_
    refine (zq_iadd hm (pc' := 29) rfl rfl rfl).trans ?_
    refine (zq_pf hm (pc' := 32) rfl lay_11 rfl rfl rfl).trans ?_
    refine (zJ_n rfl).trans ?_
    refine (zq_aln hm (pc' := 33) rfl rfl rfl rfl).trans ?_
    refine (zq_gf hm (v := zw ((σ 11 1) + 1)) (pc' := 36) rfl lay_11 rfl zsh rfl).trans ?_
    refine (zJ_n rfl).trans ?_
    exact zq_ri hm rfl rfl
  · refine (zJ_n rfl).trans ?_
    refine (zq_bi hm (pc' := 11) rfl rfl rfl rfl).trans ?_
    exact zq_ri hm rfl rfl
noncomputable def P_X4_read_21 (d : Nat) (y1 : Int) (σ : zF) : Option zR := zrunL zX2 (zexec zX2 zMT d) K_X4_read U_X4_read 21 [some (.inl (some 11)), some (.inr (.inl y1))] [] (LAY, σ)
set_option maxRecDepth 100000 in
set_option maxHeartbeats 4000000 in
theorem e_X4_read (d : Nat) (σ : zF) : zx (d + 1) 35 [.inl (some 11)] σ = (
zCV LAY (zx d 36 [.inl (some 11)] (zset (zset (zset σ 11 3 0) 11 4 0) 11 5 (-1))) fun s1 =>
P_X4_read_21 d 0 s1) := by
  unfold zx
  have hm := zexec_m zX2 zMT d
  refine (zexec_eq mt_35 _ rfl (LAY, σ) 0).trans ?_
  show zrunL zX2 (zexec zX2 zMT d) K_X4_read U_X4_read 0 [some (.inl (some 11)), none] [] (LAY, σ) = _
  refine (zq_aln hm (pc' := 1) rfl rfl rfl rfl).trans ?_
  refine (zq_ic hm (pc' := 2) rfl rfl rfl rfl).trans ?_
  refine (zq_pf hm (pc' := 5) rfl lay_11 rfl rfl rfl).trans ?_
  refine (zJ_n rfl).trans ?_
  refine (zq_aln hm (pc' := 6) rfl rfl rfl rfl).trans ?_
  refine (zq_ic hm (pc' := 7) rfl rfl rfl rfl).trans ?_
  refine (zq_pf hm (pc' := 10) rfl lay_11 rfl rfl rfl).trans ?_
  refine (zJ_n rfl).trans ?_
  refine (zq_aln hm (pc' := 11) rfl rfl rfl rfl).trans ?_
  refine (zq_ic hm (pc' := 12) rfl rfl rfl rfl).trans ?_
  refine (zq_pf hm (pc' := 15) rfl lay_11 rfl rfl rfl).trans ?_
  refine (zJ_n rfl).trans ?_
  refine (zq_aln hm (pc' := 16) rfl rfl rfl rfl).trans ?_
  refine (zq_v0 hm (pc' := 19) rfl rfl rfl (cls_11_4) rfl rfl).trans (zCV_c rfl (fun s1 => ?_))
  refine (zJ_n rfl).trans ?_
  refine (zq_ic hm (pc' := 20) rfl rfl rfl rfl).trans ?_
  exact (zc_isn hm (ls' := [some (.inl (some 11)), some (.inr (.inl 0))]) (pc' := 21) rfl rfl rfl rfl).trans rfl
set_option maxRecDepth 100000 in
set_option maxHeartbeats 4000000 in
theorem e_X4_read_21 (d : Nat) (y1 : Int) (σ : zF) : P_X4_read_21 d y1 σ = (
if y1 < 120 then (
if (σ 11 5) = (-1) then (
if (σ 11 4) < (σ 11 1) then (
zCV LAY (zx d 36 [.inl (some 11)] (zset σ 11 4 (zw ((σ 11 4) + 1)))) fun s101 =>
P_X4_read_21 d (zw (y1 + 1)) s101) else (
zri (σ 11 5) σ)) else (
zri (σ 11 5) σ)) else (
zri (σ 11 5) σ)) := by
  have hm := zexec_m zX2 zMT d
  show zrunL zX2 (zexec zX2 zMT d) K_X4_read U_X4_read 21 [some (.inl (some 11)), some (.inr (.inl y1))] [] (LAY, σ) = _
  refine (zq_iln hm (pc' := 22) rfl rfl rfl rfl).trans ?_
  refine (zq_bi hm (pc' := 24) rfl rfl rfl rfl).trans ?_
  refine (zq_ige hm (pc' := 27) rfl rfl).trans (zite ?_ ?_)
  · refine (zJ_n rfl).trans ?_
    refine (zq_aln hm (pc' := 28) rfl rfl rfl rfl).trans ?_
    refine (zq_gf hm (v := (σ 11 5)) (pc' := 31) rfl lay_11 rfl rfl rfl).trans ?_
    refine (zJ_n rfl).trans ?_
    refine (zq_ic hm (pc' := 32) rfl rfl rfl rfl).trans ?_
    refine (zq_ine hm (pc' := 35) rfl rfl).trans (zite ?_ ?_)
    · refine (zJ_n rfl).trans ?_
      refine (zq_aln hm (pc' := 36) rfl rfl rfl rfl).trans ?_
      refine (zq_gf hm (v := (σ 11 4)) (pc' := 39) rfl lay_11 rfl rfl rfl).trans ?_
      refine (zJ_n rfl).trans ?_
      refine (zq_aln hm (pc' := 40) rfl rfl rfl rfl).trans ?_
      refine (zq_gf hm (v := (σ 11 1)) (pc' := 43) rfl lay_11 rfl rfl rfl).trans ?_
      refine (zJ_n rfl).trans ?_
      refine (zq_ige hm (pc' := 46) rfl rfl).trans (zite ?_ ?_)
      · refine (zJ_n rfl).trans ?_
        refine (zq_aln hm (pc' := 47) rfl rfl rfl rfl).trans ?_
        refine (zq_dup hm (pc' := 48) rfl rfl rfl rfl).trans ?_
        refine (zq_gf hm (v := (σ 11 4)) (pc' := 51) rfl lay_11 rfl rfl rfl).trans ?_
        refine (zJ_n rfl).trans ?_
        refine (zq_ic hm (pc' := 52) rfl rfl rfl rfl).trans ?_
        refine (zq_iadd hm (pc' := 53) rfl rfl rfl).trans ?_
        refine (zq_pf hm (pc' := 56) rfl lay_11 rfl rfl rfl).trans ?_
        refine (zJ_n rfl).trans ?_
        refine (zq_aln hm (pc' := 57) rfl rfl rfl rfl).trans ?_
        refine (zq_v0 hm (pc' := 60) rfl rfl rfl (cls_11_4) rfl rfl).trans (zCV_c rfl (fun s101 => ?_))
        refine (zJ_n rfl).trans ?_
        refine (zq_iinc hm (ls' := [some (.inl (some 11)), some (.inr (.inl (zw (y1 + 1))))]) (pc' := 63) rfl rfl rfl rfl rfl rfl).trans ?_
        exact (zc_goto hm rfl rfl).trans rfl
      · refine (zJ_n rfl).trans ?_
        refine (zq_aln hm (pc' := 67) rfl rfl rfl rfl).trans ?_
        refine (zq_gf hm (v := (σ 11 5)) (pc' := 70) rfl lay_11 rfl rfl rfl).trans ?_
        refine (zJ_n rfl).trans ?_
        exact zq_ri hm rfl rfl
    · refine (zJ_n rfl).trans ?_
      refine (zq_aln hm (pc' := 67) rfl rfl rfl rfl).trans ?_
      refine (zq_gf hm (v := (σ 11 5)) (pc' := 70) rfl lay_11 rfl rfl rfl).trans ?_
      refine (zJ_n rfl).trans ?_
      exact zq_ri hm rfl rfl
  · refine (zJ_n rfl).trans ?_
    refine (zq_aln hm (pc' := 67) rfl rfl rfl rfl).trans ?_
    refine (zq_gf hm (v := (σ 11 5)) (pc' := 70) rfl lay_11 rfl rfl rfl).trans ?_
    refine (zJ_n rfl).trans ?_
    exact zq_ri hm rfl rfl
noncomputable def P_X4_readLine_45 (d : Nat) (σ : zF) : Option zR := zrunL zX2 (zexec zX2 zMT d) K_X4_readLine U_X4_readLine 45 [some (.inl (some 11))] [] (LAY, σ)
set_option maxRecDepth 100000 in
set_option maxHeartbeats 4000000 in
theorem e_X4_readLine (d : Nat) (σ : zF) : zx (d + 1) 36 [.inl (some 11)] σ = (
zCV LAY (zx d 37 [.inl (some 11), .inr (.inl 0), .inr (.inl 0)] σ) fun s1 =>
if (s1 11 5) = (-1) then (
zCI LAY (zx d 42 [.inl (some 11)] s1) fun r3 s2 =>
if r3 = 63 then (
zCV LAY (zx d 44 [.inl (some 11), .inr (.inl (-63))] (zset s2 11 4 (zw ((s2 11 4) + 1)))) fun s4 =>
zCV LAY (zx d 37 [.inl (some 11), .inr (.inl 0), .inr (.inl 0)] s4) fun s5 =>
P_X4_readLine_45 d s5) else (
P_X4_readLine_45 d s2)) else (
P_X4_readLine_45 d s1)) := by
  unfold zx
  have hm := zexec_m zX2 zMT d
  refine (zexec_eq mt_36 _ rfl (LAY, σ) 0).trans ?_
  show zrunL zX2 (zexec zX2 zMT d) K_X4_readLine U_X4_readLine 0 [some (.inl (some 11))] [] (LAY, σ) = _
  refine (zq_aln hm (pc' := 1) rfl rfl rfl rfl).trans ?_
  refine (zq_ic hm (pc' := 2) rfl rfl rfl rfl).trans ?_
  refine (zq_ic hm (pc' := 3) rfl rfl rfl rfl).trans ?_
  refine (zq_v0 hm (pc' := 6) rfl rfl rfl (cls_11_4) rfl rfl).trans (zCV_c rfl (fun s1 => ?_))
  refine (zJ_n rfl).trans ?_
  refine (zq_aln hm (pc' := 7) rfl rfl rfl rfl).trans ?_
  refine (zq_gf hm (v := (s1 11 5)) (pc' := 10) rfl lay_11 rfl rfl rfl).trans ?_
  refine (zJ_n rfl).trans ?_
  refine (zq_ic hm (pc' := 11) rfl rfl rfl rfl).trans ?_
  refine (zq_ine hm (pc' := 14) rfl rfl).trans (zite ?_ ?_)
  · refine (zJ_n rfl).trans ?_
    refine (zq_aln hm (pc' := 15) rfl rfl rfl rfl).trans ?_
    refine (zq_v1 hm (pc' := 18) rfl rfl rfl (cls_11_4) rfl rfl).trans (zCI_c rfl (fun r3 s2 => ?_))
    refine (zJ_n rfl).trans ?_
    refine (zq_bi hm (pc' := 20) rfl rfl rfl rfl).trans ?_
    refine (zq_ine hm (pc' := 23) rfl rfl).trans (zite ?_ ?_)
    · refine (zJ_n rfl).trans ?_
      refine (zq_aln hm (pc' := 24) rfl rfl rfl rfl).trans ?_
      refine (zq_dup hm (pc' := 25) rfl rfl rfl rfl).trans ?_
      refine (zq_gf hm (v := (s2 11 4)) (pc' := 28) rfl lay_11 rfl rfl rfl).trans ?_
      refine (zJ_n rfl).trans ?_
      refine (zq_ic hm (pc' := 29) rfl rfl rfl rfl).trans ?_
      refine (zq_iadd hm (pc' := 30) rfl rfl rfl).trans ?_
      refine (zq_pf hm (pc' := 33) rfl lay_11 rfl rfl rfl).trans ?_
      refine (zJ_n rfl).trans ?_
      refine (zq_aln hm (pc' := 34) rfl rfl rfl rfl).trans ?_
      refine (zq_bi hm (pc' := 36) rfl rfl rfl rfl).trans ?_
      refine (zq_v0 hm (pc' := 39) rfl rfl rfl (cls_11_4) rfl rfl).trans (zCV_c rfl (fun s4 => ?_))
      refine (zJ_n rfl).trans ?_
      refine (zq_aln hm (pc' := 40) rfl rfl rfl rfl).trans ?_
      refine (zq_ic hm (pc' := 41) rfl rfl rfl rfl).trans ?_
      refine (zq_ic hm (pc' := 42) rfl rfl rfl rfl).trans ?_
      refine (zq_v0 hm (pc' := 45) rfl rfl rfl (cls_11_4) rfl rfl).trans (zCV_c rfl (fun s5 => ?_))
      exact (zJ_c rfl).trans rfl
    · exact (zJ_c rfl).trans rfl
  · exact (zJ_c rfl).trans rfl
set_option maxRecDepth 100000 in
set_option maxHeartbeats 4000000 in
theorem e_X4_readLine_45 (d : Nat) (σ : zF) : P_X4_readLine_45 d σ = (
if (σ 11 4) < (σ 11 1) then (
zCI LAY (zx d 42 [.inl (some 11)] σ) fun r103 s102 =>
if r103 = 59 then (
zCV LAY (zx d 44 [.inl (some 11), .inr (.inl (-59))] s102) fun s104 =>
zrv s104) else (
zCV LAY (zx d 43 [.inl (some 11)] s102) fun s105 =>
zCV LAY (zx d 44 [.inl (some 11), .inr (.inl (-59))] s105) fun s106 =>
zrv s106)) else (
zCV LAY (zx d 44 [.inl (some 11), .inr (.inl (-59))] σ) fun s101 =>
zrv s101)) := by
  have hm := zexec_m zX2 zMT d
  show zrunL zX2 (zexec zX2 zMT d) K_X4_readLine U_X4_readLine 45 [some (.inl (some 11))] [] (LAY, σ) = _
  refine (zq_aln hm (pc' := 46) rfl rfl rfl rfl).trans ?_
  refine (zq_gf hm (v := (σ 11 4)) (pc' := 49) rfl lay_11 rfl rfl rfl).trans ?_
  refine (zJ_n rfl).trans ?_
  refine (zq_aln hm (pc' := 50) rfl rfl rfl rfl).trans ?_
  refine (zq_gf hm (v := (σ 11 1)) (pc' := 53) rfl lay_11 rfl rfl rfl).trans ?_
  refine (zJ_n rfl).trans ?_
  refine (zq_ige hm (pc' := 56) rfl rfl).trans (zite ?_ ?_)
  · refine (zJ_n rfl).trans ?_
    refine (zq_aln hm (pc' := 57) rfl rfl rfl rfl).trans ?_
    refine (zq_v1 hm (pc' := 60) rfl rfl rfl (cls_11_4) rfl rfl).trans (zCI_c rfl (fun r103 s102 => ?_))
    refine (zJ_n rfl).trans ?_
    refine (zq_bi hm (pc' := 62) rfl rfl rfl rfl).trans ?_
    refine (zq_ieq hm (pc' := 65) rfl rfl).trans (zite ?_ ?_)
    · refine (zJ_n rfl).trans ?_
      refine (zq_aln hm (pc' := 70) rfl rfl rfl rfl).trans ?_
      refine (zq_bi hm (pc' := 72) rfl rfl rfl rfl).trans ?_
      refine (zq_v0 hm (pc' := 75) rfl rfl rfl (cls_11_4) rfl rfl).trans (zCV_c rfl (fun s104 => ?_))
      refine (zJ_n rfl).trans ?_
      exact zq_rv hm rfl
    · refine (zJ_n rfl).trans ?_
      refine (zq_aln hm (pc' := 66) rfl rfl rfl rfl).trans ?_
      refine (zq_v0 hm (pc' := 69) rfl rfl rfl (cls_11_4) rfl rfl).trans (zCV_c rfl (fun s105 => ?_))
      refine (zJ_n rfl).trans ?_
      refine (zq_aln hm (pc' := 70) rfl rfl rfl rfl).trans ?_
      refine (zq_bi hm (pc' := 72) rfl rfl rfl rfl).trans ?_
      refine (zq_v0 hm (pc' := 75) rfl rfl rfl (cls_11_4) rfl rfl).trans (zCV_c rfl (fun s106 => ?_))
      refine (zJ_n rfl).trans ?_
      exact zq_rv hm rfl
  · refine (zJ_n rfl).trans ?_
    refine (zq_aln hm (pc' := 70) rfl rfl rfl rfl).trans ?_
    refine (zq_bi hm (pc' := 72) rfl rfl rfl rfl).trans ?_
    refine (zq_v0 hm (pc' := 75) rfl rfl rfl (cls_11_4) rfl rfl).trans (zCV_c rfl (fun s101 => ?_))
    refine (zJ_n rfl).trans ?_
    exact zq_rv hm rfl
noncomputable def P_X4_readJoined_21 (d : Nat) (y1 : Int) (y2 : Int) (y3 : Int) (y4 : Int) (σ : zF) : Option zR := zrunL zX2 (zexec zX2 zMT d) K_X4_readJoined U_X4_readJoined 21 [some (.inl (some 11)), some (.inr (.inl y1)), some (.inr (.inl y2)), some (.inr (.inl y3)), some (.inr (.inl y4)), none] [] (LAY, σ)
set_option maxRecDepth 100000 in
set_option maxHeartbeats 4000000 in
theorem e_X4_readJoined (d : Nat) (x1 : Int) (x2 : Int) (σ : zF) : zx (d + 1) 37 [.inl (some 11), .inr (.inl x1), .inr (.inl x2)] σ = (
zCV LAY (zx d 38 [.inl (some 11), .inr (.inl x1), .inr (.inl x2)] σ) fun s1 =>
if x1 = 2 then (
P_X4_readJoined_21 d x1 x2 1 0 s1) else (
P_X4_readJoined_21 d x1 x2 120 0 s1)) := by
  unfold zx
  have hm := zexec_m zX2 zMT d
  refine (zexec_eq mt_37 _ rfl (LAY, σ) 0).trans ?_
  show zrunL zX2 (zexec zX2 zMT d) K_X4_readJoined U_X4_readJoined 0 [some (.inl (some 11)), some (.inr (.inl x1)), some (.inr (.inl x2)), none, none, none] [] (LAY, σ) = _
  refine (zq_aln hm (pc' := 1) rfl rfl rfl rfl).trans ?_
  refine (zq_iln hm (pc' := 2) rfl rfl rfl rfl).trans ?_
  refine (zq_iln hm (pc' := 3) rfl rfl rfl rfl).trans ?_
  refine (zq_v0 hm (pc' := 6) rfl rfl rfl (cls_11_4) rfl rfl).trans (zCV_c rfl (fun s1 => ?_))
  refine (zJ_n rfl).trans ?_
  refine (zq_iln hm (pc' := 7) rfl rfl rfl rfl).trans ?_
  refine (zq_ic hm (pc' := 8) rfl rfl rfl rfl).trans ?_
  refine (zq_ine hm (pc' := 11) rfl rfl).trans (zite ?_ ?_)
  · refine (zJ_n rfl).trans ?_
    refine (zq_ic hm (pc' := 12) rfl rfl rfl rfl).trans ?_
    refine (zq_goto hm rfl rfl).trans ?_
    refine (zq_isn hm (ls' := [some (.inl (some 11)), some (.inr (.inl x1)), some (.inr (.inl x2)), some (.inr (.inl 1)), none, none]) (pc' := 18) rfl rfl rfl rfl).trans ?_
    refine (zq_ic hm (pc' := 19) rfl rfl rfl rfl).trans ?_
    exact (zc_is hm (ls' := [some (.inl (some 11)), some (.inr (.inl x1)), some (.inr (.inl x2)), some (.inr (.inl 1)), some (.inr (.inl 0)), none]) (pc' := 21) rfl rfl rfl rfl).trans rfl
  · refine (zJ_n rfl).trans ?_
    refine (zq_bi hm (pc' := 17) rfl rfl rfl rfl).trans ?_
    refine (zq_isn hm (ls' := [some (.inl (some 11)), some (.inr (.inl x1)), some (.inr (.inl x2)), some (.inr (.inl 120)), none, none]) (pc' := 18) rfl rfl rfl rfl).trans ?_
    refine (zq_ic hm (pc' := 19) rfl rfl rfl rfl).trans ?_
    exact (zc_is hm (ls' := [some (.inl (some 11)), some (.inr (.inl x1)), some (.inr (.inl x2)), some (.inr (.inl 120)), some (.inr (.inl 0)), none]) (pc' := 21) rfl rfl rfl rfl).trans rfl
set_option maxRecDepth 100000 in
set_option maxHeartbeats 4000000 in
theorem e_X4_readJoined_21 (d : Nat) (y1 : Int) (y2 : Int) (y3 : Int) (y4 : Int) (σ : zF) : P_X4_readJoined_21 d y1 y2 y3 y4 σ = (
if y4 < y3 then (
if (σ 11 5) = (-1) then (
zCI LAY (zx d 42 [.inl (some 11)] σ) fun r102 s101 =>
zCI LAY (zx d 47 [.inr (.inl y1), .inr (.inl r102)] s101) fun r104 s103 =>
if r104 = 0 then (
zrv s103) else (
zCI LAY (zx d 42 [.inl (some 11)] s103) fun r106 s105 =>
zCV LAY (zx d 38 [.inl (some 11), .inr (.inl y1), .inr (.inl y2)] (zset s105 11 4 (zw ((s105 11 4) + 1)))) fun s107 =>
zCV LAY (zx d 44 [.inl (some 11), .inr (.inl (zw (-r106)))] s107) fun s108 =>
P_X4_readJoined_21 d y1 y2 y3 (zw (y4 + 1)) s108)) else (
zrv σ)) else (
zrv σ)) := by
  have hm := zexec_m zX2 zMT d
  show zrunL zX2 (zexec zX2 zMT d) K_X4_readJoined U_X4_readJoined 21 [some (.inl (some 11)), some (.inr (.inl y1)), some (.inr (.inl y2)), some (.inr (.inl y3)), some (.inr (.inl y4)), none] [] (LAY, σ) = _
  refine (zq_il hm (pc' := 23) rfl rfl rfl rfl).trans ?_
  refine (zq_iln hm (pc' := 24) rfl rfl rfl rfl).trans ?_
  refine (zq_ige hm (pc' := 27) rfl rfl).trans (zite ?_ ?_)
  · refine (zJ_n rfl).trans ?_
    refine (zq_aln hm (pc' := 28) rfl rfl rfl rfl).trans ?_
    refine (zq_gf hm (v := (σ 11 5)) (pc' := 31) rfl lay_11 rfl rfl rfl).trans ?_
    refine (zJ_n rfl).trans ?_
    refine (zq_ic hm (pc' := 32) rfl rfl rfl rfl).trans ?_
    refine (zq_ine hm (pc' := 35) rfl rfl).trans (zite ?_ ?_)
    · refine (zJ_n rfl).trans ?_
      refine (zq_iln hm (pc' := 36) rfl rfl rfl rfl).trans ?_
      refine (zq_aln hm (pc' := 37) rfl rfl rfl rfl).trans ?_
      refine (zq_v1 hm (pc' := 40) rfl rfl rfl (cls_11_4) rfl rfl).trans (zCI_c rfl (fun r102 s101 => ?_))
      refine (zJ_n rfl).trans ?_
      refine (zq_s1 hm (pc' := 43) rfl rfl rfl rfl rfl rfl).trans (zCI_c rfl (fun r104 s103 => ?_))
      refine (zJ_n rfl).trans ?_
      refine (zq_zeq hm (pc' := 46) rfl rfl).trans (zite ?_ ?_)
      · refine (zJ_n rfl).trans ?_
        exact zq_rv hm rfl
      · refine (zJ_n rfl).trans ?_
        refine (zq_aln hm (pc' := 47) rfl rfl rfl rfl).trans ?_
        refine (zq_v1 hm (pc' := 50) rfl rfl rfl (cls_11_4) rfl rfl).trans (zCI_c rfl (fun r106 s105 => ?_))
        refine (zJ_n rfl).trans ?_
        refine (zq_is hm (ls' := [some (.inl (some 11)), some (.inr (.inl y1)), some (.inr (.inl y2)), some (.inr (.inl y3)), some (.inr (.inl y4)), some (.inr (.inl r106))]) (pc' := 52) rfl rfl rfl rfl).trans ?_
        refine (zq_aln hm (pc' := 53) rfl rfl rfl rfl).trans ?_
        refine (zq_dup hm (pc' := 54) rfl rfl rfl rfl).trans ?_
        refine (zq_gf hm (v := (s105 11 4)) (pc' := 57) rfl lay_11 rfl rfl rfl).trans ?_
        refine (zJ_n rfl).trans ?_
        refine (zq_ic hm (pc' := 58) rfl rfl rfl rfl).trans ?_
        refine (zq_iadd hm (pc' := 59) rfl rfl rfl).trans ?_
        refine (zq_pf hm (pc' := 62) rfl lay_11 rfl rfl rfl).trans ?_
        refine (zJ_n rfl).trans ?_
        refine (zq_aln hm (pc' := 63) rfl rfl rfl rfl).trans ?_
        refine (zq_iln hm (pc' := 64) rfl rfl rfl rfl).trans ?_
        refine (zq_iln hm (pc' := 65) rfl rfl rfl rfl).trans ?_
        refine (zq_v0 hm (pc' := 68) rfl rfl rfl (cls_11_4) rfl rfl).trans (zCV_c rfl (fun s107 => ?_))
        refine (zJ_n rfl).trans ?_
        refine (zq_aln hm (pc' := 69) rfl rfl rfl rfl).trans ?_
        refine (zq_il hm (pc' := 71) rfl rfl rfl rfl).trans ?_
        refine (zq_ineg hm (pc' := 72) rfl rfl rfl).trans ?_
        refine (zq_v0 hm (pc' := 75) rfl rfl rfl (cls_11_4) rfl rfl).trans (zCV_c rfl (fun s108 => ?_))
        refine (zJ_n rfl).trans ?_
        refine (zq_iinc hm (ls' := [some (.inl (some 11)), some (.inr (.inl y1)), some (.inr (.inl y2)), some (.inr (.inl y3)), some (.inr (.inl (zw (y4 + 1)))), some (.inr (.inl r106))]) (pc' := 78) rfl rfl rfl rfl rfl rfl).trans ?_
        exact (zc_goto hm rfl rfl).trans rfl
    · refine (zJ_n rfl).trans ?_
      exact zq_rv hm rfl
  · refine (zJ_n rfl).trans ?_
    exact zq_rv hm rfl
set_option maxRecDepth 100000 in
set_option maxHeartbeats 4000000 in
theorem e_X4_readPart (d : Nat) (x1 : Int) (x2 : Int) (σ : zF) : zx (d + 1) 38 [.inl (some 11), .inr (.inl x1), .inr (.inl x2)] σ = (
if zw (x1 + 1) < 5 then (
zCV LAY (zx d 37 [.inl (some 11), .inr (.inl (zw (x1 + 1))), .inr (.inl x2)] σ) fun s2 =>
zrv s2) else (
zCV LAY (zx d 39 [.inl (some 11), .inr (.inl x2)] σ) fun s1 =>
zrv s1)) := by
  unfold zx
  have hm := zexec_m zX2 zMT d
  refine (zexec_eq mt_38 _ rfl (LAY, σ) 0).trans ?_
  show zrunL zX2 (zexec zX2 zMT d) K_X4_readPart U_X4_readPart 0 [some (.inl (some 11)), some (.inr (.inl x1)), some (.inr (.inl x2))] [] (LAY, σ) = _
  refine (zq_iln hm (pc' := 1) rfl rfl rfl rfl).trans ?_
  refine (zq_ic hm (pc' := 2) rfl rfl rfl rfl).trans ?_
  refine (zq_iadd hm (pc' := 3) rfl rfl rfl).trans ?_
  refine (zq_ic hm (pc' := 4) rfl rfl rfl rfl).trans ?_
  refine (zq_ige hm (pc' := 7) rfl rfl).trans (zite ?_ ?_)
  · refine (zJ_n rfl).trans ?_
    refine (zq_aln hm (pc' := 8) rfl rfl rfl rfl).trans ?_
    refine (zq_iln hm (pc' := 9) rfl rfl rfl rfl).trans ?_
    refine (zq_ic hm (pc' := 10) rfl rfl rfl rfl).trans ?_
    refine (zq_iadd hm (pc' := 11) rfl rfl rfl).trans ?_
    refine (zq_iln hm (pc' := 12) rfl rfl rfl rfl).trans ?_
    refine (zq_v0 hm (pc' := 15) rfl rfl rfl (cls_11_4) rfl rfl).trans (zCV_c rfl (fun s2 => ?_))
    refine (zJ_n rfl).trans ?_
    refine (zq_goto hm rfl rfl).trans ?_
    exact zq_rv hm rfl
  · refine (zJ_n rfl).trans ?_
    refine (zq_aln hm (pc' := 19) rfl rfl rfl rfl).trans ?_
    refine (zq_iln hm (pc' := 20) rfl rfl rfl rfl).trans ?_
    refine (zq_v0 hm (pc' := 23) rfl rfl rfl (cls_11_4) rfl rfl).trans (zCV_c rfl (fun s1 => ?_))
    refine (zJ_n rfl).trans ?_
    exact zq_rv hm rfl
set_option maxRecDepth 100000 in
set_option maxHeartbeats 4000000 in
theorem e_X4_readOperand (d : Nat) (x1 : Int) (σ : zF) : zx (d + 1) 39 [.inl (some 11), .inr (.inl x1)] σ = (
zCI LAY (zx d 42 [.inl (some 11)] σ) fun r2 s1 =>
zCI LAY (zx d 45 [.inr (.inl r2)] s1) fun r4 s3 =>
if r4 = 0 then (
zCI LAY (zx d 46 [.inr (.inl r2)] s3) fun r6 s5 =>
if r6 = 0 then (
if x1 < 6 then (
if r2 = 40 then (
zCV LAY (zx d 37 [.inl (some 11), .inr (.inl 0), .inr (.inl (zw (x1 + 1)))] (zset s5 11 4 (zw ((s5 11 4) + 1)))) fun s14 =>
zCV LAY (zx d 40 [.inl (some 11)] s14) fun s15 =>
zrv s15) else (
if r2 = 33 then (
zCV LAY (zx d 39 [.inl (some 11), .inr (.inl (zw (x1 + 1)))] (zset s5 11 4 (zw ((s5 11 4) + 1)))) fun s7 =>
if r2 = 33 then (
zCV LAY (zx d 44 [.inl (some 11), .inr (.inl (-33))] s7) fun s9 =>
zrv s9) else (
zCV LAY (zx d 44 [.inl (some 11), .inr (.inl (-126))] s7) fun s8 =>
zrv s8)) else (
if r2 = 45 then (
zCV LAY (zx d 39 [.inl (some 11), .inr (.inl (zw (x1 + 1)))] (zset s5 11 4 (zw ((s5 11 4) + 1)))) fun s11 =>
if r2 = 33 then (
zCV LAY (zx d 44 [.inl (some 11), .inr (.inl (-33))] s11) fun s13 =>
zrv s13) else (
zCV LAY (zx d 44 [.inl (some 11), .inr (.inl (-126))] s11) fun s12 =>
zrv s12)) else (
zCV LAY (zx d 43 [.inl (some 11)] s5) fun s10 =>
zrv s10)))) else (
zCV LAY (zx d 43 [.inl (some 11)] s5) fun s16 =>
zrv s16)) else (
zCV LAY (zx d 44 [.inl (some 11), .inr (.inl (zw (-r2)))] (zset s5 11 4 (zw ((s5 11 4) + 1)))) fun s17 =>
zrv s17)) else (
zCV LAY (zx d 41 [.inl (some 11)] s3) fun s18 =>
zrv s18)) := by
  unfold zx
  have hm := zexec_m zX2 zMT d
  refine (zexec_eq mt_39 _ rfl (LAY, σ) 0).trans ?_
  show zrunL zX2 (zexec zX2 zMT d) K_X4_readOperand U_X4_readOperand 0 [some (.inl (some 11)), some (.inr (.inl x1)), none] [] (LAY, σ) = _
  refine (zq_aln hm (pc' := 1) rfl rfl rfl rfl).trans ?_
  refine (zq_v1 hm (pc' := 4) rfl rfl rfl (cls_11_4) rfl rfl).trans (zCI_c rfl (fun r2 s1 => ?_))
  refine (zJ_n rfl).trans ?_
  refine (zq_isn hm (ls' := [some (.inl (some 11)), some (.inr (.inl x1)), some (.inr (.inl r2))]) (pc' := 5) rfl rfl rfl rfl).trans ?_
  refine (zq_iln hm (pc' := 6) rfl rfl rfl rfl).trans ?_
  refine (zq_s1 hm (pc' := 9) rfl rfl rfl rfl rfl rfl).trans (zCI_c rfl (fun r4 s3 => ?_))
  refine (zJ_n rfl).trans ?_
  refine (zq_zeq hm (pc' := 12) rfl rfl).trans (zite ?_ ?_)
  · refine (zJ_n rfl).trans ?_
    refine (zq_iln hm (pc' := 20) rfl rfl rfl rfl).trans ?_
    refine (zq_s1 hm (pc' := 23) rfl rfl rfl rfl rfl rfl).trans (zCI_c rfl (fun r6 s5 => ?_))
    refine (zJ_n rfl).trans ?_
    refine (zq_zeq hm (pc' := 26) rfl rfl).trans (zite ?_ ?_)
    · refine (zJ_n rfl).trans ?_
      refine (zq_iln hm (pc' := 46) rfl rfl rfl rfl).trans ?_
      refine (zq_bi hm (pc' := 48) rfl rfl rfl rfl).trans ?_
      refine (zq_ilt hm (pc' := 51) rfl rfl).trans (zite ?_ ?_)
      · refine (zJ_n rfl).trans ?_
        refine (zq_iln hm (pc' := 59) rfl rfl rfl rfl).trans ?_
        refine (zq_bi hm (pc' := 61) rfl rfl rfl rfl).trans ?_
        refine (zq_ine hm (pc' := 64) rfl rfl).trans (zite ?_ ?_)
        · refine (zJ_n rfl).trans ?_
          refine (zq_aln hm (pc' := 65) rfl rfl rfl rfl).trans ?_
          refine (zq_dup hm (pc' := 66) rfl rfl rfl rfl).trans ?_
          refine (zq_gf hm (v := (s5 11 4)) (pc' := 69) rfl lay_11 rfl rfl rfl).trans ?_
          refine (zJ_n rfl).trans ?_
          refine (zq_ic hm (pc' := 70) rfl rfl rfl rfl).trans ?_
          refine (zq_iadd hm (pc' := 71) rfl rfl rfl).trans ?_
          refine (zq_pf hm (pc' := 74) rfl lay_11 rfl rfl rfl).trans ?_
          refine (zJ_n rfl).trans ?_
          refine (zq_aln hm (pc' := 75) rfl rfl rfl rfl).trans ?_
          refine (zq_ic hm (pc' := 76) rfl rfl rfl rfl).trans ?_
          refine (zq_iln hm (pc' := 77) rfl rfl rfl rfl).trans ?_
          refine (zq_ic hm (pc' := 78) rfl rfl rfl rfl).trans ?_
          refine (zq_iadd hm (pc' := 79) rfl rfl rfl).trans ?_
          refine (zq_v0 hm (pc' := 82) rfl rfl rfl (cls_11_4) rfl rfl).trans (zCV_c rfl (fun s14 => ?_))
          refine (zJ_n rfl).trans ?_
          refine (zq_aln hm (pc' := 83) rfl rfl rfl rfl).trans ?_
          refine (zq_v0 hm (pc' := 86) rfl rfl rfl (cls_11_4) rfl rfl).trans (zCV_c rfl (fun s15 => ?_))
          refine (zJ_n rfl).trans ?_
          refine (zq_goto hm rfl rfl).trans ?_
          exact zq_rv hm rfl
        · refine (zJ_n rfl).trans ?_
          refine (zq_iln hm (pc' := 90) rfl rfl rfl rfl).trans ?_
          refine (zq_bi hm (pc' := 92) rfl rfl rfl rfl).trans ?_
          refine (zq_ieq hm (pc' := 95) rfl rfl).trans (zite ?_ ?_)
          · refine (zJ_n rfl).trans ?_
            refine (zq_aln hm (pc' := 102) rfl rfl rfl rfl).trans ?_
            refine (zq_dup hm (pc' := 103) rfl rfl rfl rfl).trans ?_
            refine (zq_gf hm (v := (s5 11 4)) (pc' := 106) rfl lay_11 rfl rfl rfl).trans ?_
            refine (zJ_n rfl).trans ?_
            refine (zq_ic hm (pc' := 107) rfl rfl rfl rfl).trans ?_
            refine (zq_iadd hm (pc' := 108) rfl rfl rfl).trans ?_
            refine (zq_pf hm (pc' := 111) rfl lay_11 rfl rfl rfl).trans ?_
            refine (zJ_n rfl).trans ?_
            refine (zq_aln hm (pc' := 112) rfl rfl rfl rfl).trans ?_
            refine (zq_iln hm (pc' := 113) rfl rfl rfl rfl).trans ?_
            refine (zq_ic hm (pc' := 114) rfl rfl rfl rfl).trans ?_
            refine (zq_iadd hm (pc' := 115) rfl rfl rfl).trans ?_
            refine (zq_v0 hm (pc' := 118) rfl rfl rfl (cls_11_4) rfl rfl).trans (zCV_c rfl (fun s7 => ?_))
            refine (zJ_n rfl).trans ?_
            refine (zq_aln hm (pc' := 119) rfl rfl rfl rfl).trans ?_
            refine (zq_iln hm (pc' := 120) rfl rfl rfl rfl).trans ?_
            refine (zq_bi hm (pc' := 122) rfl rfl rfl rfl).trans ?_
            refine (zq_ine hm (pc' := 125) rfl rfl).trans (zite ?_ ?_)
            · refine (zJ_n rfl).trans ?_
              refine (zq_bi hm (pc' := 127) rfl rfl rfl rfl).trans ?_
              refine (zq_goto hm rfl rfl).trans ?_
              refine (zq_v0 hm (pc' := 135) rfl rfl rfl (cls_11_4) rfl rfl).trans (zCV_c rfl (fun s9 => ?_))
              refine (zJ_n rfl).trans ?_
              refine (zq_goto hm rfl rfl).trans ?_
              exact zq_rv hm rfl
            · refine (zJ_n rfl).trans ?_
              refine (zq_bi hm (pc' := 132) rfl rfl rfl rfl).trans ?_
              refine (zq_v0 hm (pc' := 135) rfl rfl rfl (cls_11_4) rfl rfl).trans (zCV_c rfl (fun s8 => ?_))
              refine (zJ_n rfl).trans ?_
              refine (zq_goto hm rfl rfl).trans ?_
              exact zq_rv hm rfl
          · refine (zJ_n rfl).trans ?_
            refine (zq_iln hm (pc' := 96) rfl rfl rfl rfl).trans ?_
            refine (zq_bi hm (pc' := 98) rfl rfl rfl rfl).trans ?_
            refine (zq_ine hm (pc' := 101) rfl rfl).trans (zite ?_ ?_)
            · refine (zJ_n rfl).trans ?_
              refine (zq_aln hm (pc' := 102) rfl rfl rfl rfl).trans ?_
              refine (zq_dup hm (pc' := 103) rfl rfl rfl rfl).trans ?_
              refine (zq_gf hm (v := (s5 11 4)) (pc' := 106) rfl lay_11 rfl rfl rfl).trans ?_
              refine (zJ_n rfl).trans ?_
              refine (zq_ic hm (pc' := 107) rfl rfl rfl rfl).trans ?_
              refine (zq_iadd hm (pc' := 108) rfl rfl rfl).trans ?_
              refine (zq_pf hm (pc' := 111) rfl lay_11 rfl rfl rfl).trans ?_
              refine (zJ_n rfl).trans ?_
              refine (zq_aln hm (pc' := 112) rfl rfl rfl rfl).trans ?_
              refine (zq_iln hm (pc' := 113) rfl rfl rfl rfl).trans ?_
              refine (zq_ic hm (pc' := 114) rfl rfl rfl rfl).trans ?_
              refine (zq_iadd hm (pc' := 115) rfl rfl rfl).trans ?_
              refine (zq_v0 hm (pc' := 118) rfl rfl rfl (cls_11_4) rfl rfl).trans (zCV_c rfl (fun s11 => ?_))
              refine (zJ_n rfl).trans ?_
              refine (zq_aln hm (pc' := 119) rfl rfl rfl rfl).trans ?_
              refine (zq_iln hm (pc' := 120) rfl rfl rfl rfl).trans ?_
              refine (zq_bi hm (pc' := 122) rfl rfl rfl rfl).trans ?_
              refine (zq_ine hm (pc' := 125) rfl rfl).trans (zite ?_ ?_)
              · refine (zJ_n rfl).trans ?_
                refine (zq_bi hm (pc' := 127) rfl rfl rfl rfl).trans ?_
                refine (zq_goto hm rfl rfl).trans ?_
                refine (zq_v0 hm (pc' := 135) rfl rfl rfl (cls_11_4) rfl rfl).trans (zCV_c rfl (fun s13 => ?_))
                refine (zJ_n rfl).trans ?_
                refine (zq_goto hm rfl rfl).trans ?_
                exact zq_rv hm rfl
              · refine (zJ_n rfl).trans ?_
                refine (zq_bi hm (pc' := 132) rfl rfl rfl rfl).trans ?_
                refine (zq_v0 hm (pc' := 135) rfl rfl rfl (cls_11_4) rfl rfl).trans (zCV_c rfl (fun s12 => ?_))
                refine (zJ_n rfl).trans ?_
                refine (zq_goto hm rfl rfl).trans ?_
                exact zq_rv hm rfl
            · refine (zJ_n rfl).trans ?_
              refine (zq_aln hm (pc' := 139) rfl rfl rfl rfl).trans ?_
              refine (zq_v0 hm (pc' := 142) rfl rfl rfl (cls_11_4) rfl rfl).trans (zCV_c rfl (fun s10 => ?_))
              refine (zJ_n rfl).trans ?_
              exact zq_rv hm rfl
      · refine (zJ_n rfl).trans ?_
        refine (zq_aln hm (pc' := 52) rfl rfl rfl rfl).trans ?_
        refine (zq_v0 hm (pc' := 55) rfl rfl rfl (cls_11_4) rfl rfl).trans (zCV_c rfl (fun s16 => ?_))
        refine (zJ_n rfl).trans ?_
        refine (zq_goto hm rfl rfl).trans ?_
        exact zq_rv hm rfl
    · refine (zJ_n rfl).trans ?_
      refine (zq_aln hm (pc' := 27) rfl rfl rfl rfl).trans ?_
      refine (zq_dup hm (pc' := 28) rfl rfl rfl rfl).trans ?_
      refine (zq_gf hm (v := (s5 11 4)) (pc' := 31) rfl lay_11 rfl rfl rfl).trans ?_
      refine (zJ_n rfl).trans ?_
      refine (zq_ic hm (pc' := 32) rfl rfl rfl rfl).trans ?_
      refine (zq_iadd hm (pc' := 33) rfl rfl rfl).trans ?_
      refine (zq_pf hm (pc' := 36) rfl lay_11 rfl rfl rfl).trans ?_
      refine (zJ_n rfl).trans ?_
      refine (zq_aln hm (pc' := 37) rfl rfl rfl rfl).trans ?_
      refine (zq_iln hm (pc' := 38) rfl rfl rfl rfl).trans ?_
      refine (zq_ineg hm (pc' := 39) rfl rfl rfl).trans ?_
      refine (zq_v0 hm (pc' := 42) rfl rfl rfl (cls_11_4) rfl rfl).trans (zCV_c rfl (fun s17 => ?_))
      refine (zJ_n rfl).trans ?_
      refine (zq_goto hm rfl rfl).trans ?_
      exact zq_rv hm rfl
  · refine (zJ_n rfl).trans ?_
    refine (zq_aln hm (pc' := 13) rfl rfl rfl rfl).trans ?_
    refine (zq_v0 hm (pc' := 16) rfl rfl rfl (cls_11_4) rfl rfl).trans (zCV_c rfl (fun s18 => ?_))
    refine (zJ_n rfl).trans ?_
    refine (zq_goto hm rfl rfl).trans ?_
    exact zq_rv hm rfl
set_option maxRecDepth 100000 in
set_option maxHeartbeats 4000000 in
theorem e_X4_readClosing (d : Nat) (σ : zF) : zx (d + 1) 40 [.inl (some 11)] σ = (
zCI LAY (zx d 42 [.inl (some 11)] σ) fun r2 s1 =>
if r2 = 41 then (
zrv (zset s1 11 4 (zw ((s1 11 4) + 1)))) else (
zCV LAY (zx d 43 [.inl (some 11)] s1) fun s3 =>
zrv s3)) := by
  unfold zx
  have hm := zexec_m zX2 zMT d
  refine (zexec_eq mt_40 _ rfl (LAY, σ) 0).trans ?_
  show zrunL zX2 (zexec zX2 zMT d) K_X4_readClosing U_X4_readClosing 0 [some (.inl (some 11))] [] (LAY, σ) = _
  refine (zq_aln hm (pc' := 1) rfl rfl rfl rfl).trans ?_
  refine (zq_v1 hm (pc' := 4) rfl rfl rfl (cls_11_4) rfl rfl).trans (zCI_c rfl (fun r2 s1 => ?_))
  refine (zJ_n rfl).trans ?_
  refine (zq_bi hm (pc' := 6) rfl rfl rfl rfl).trans ?_
  refine (zq_ine hm (pc' := 9) rfl rfl).trans (zite ?_ ?_)
  · refine (zJ_n rfl).trans ?_
    refine (zq_aln hm (pc' := 10) rfl rfl rfl rfl).trans ?_
    refine (zq_dup hm (pc' := 11) rfl rfl rfl rfl).trans ?_
    refine (zq_gf hm (v := (s1 11 4)) (pc' := 14) rfl lay_11 rfl rfl rfl).trans ?_
    refine (zJ_n rfl).trans ?_
    refine (zq_ic hm (pc' := 15) rfl rfl rfl rfl).trans ?_
    refine (zq_iadd hm (pc' := 16) rfl rfl rfl).trans ?_
    refine (zq_pf hm (pc' := 19) rfl lay_11 rfl rfl rfl).trans ?_
    refine (zJ_n rfl).trans ?_
    refine (zq_goto hm rfl rfl).trans ?_
    exact zq_rv hm rfl
  · refine (zJ_n rfl).trans ?_
    refine (zq_aln hm (pc' := 23) rfl rfl rfl rfl).trans ?_
    refine (zq_v0 hm (pc' := 26) rfl rfl rfl (cls_11_4) rfl rfl).trans (zCV_c rfl (fun s3 => ?_))
    refine (zJ_n rfl).trans ?_
    exact zq_rv hm rfl
noncomputable def P_X4_readNumber_4 (d : Nat) (y1 : Int) (y2 : Int) (σ : zF) : Option zR := zrunL zX2 (zexec zX2 zMT d) K_X4_readNumber U_X4_readNumber 4 [some (.inl (some 11)), some (.inr (.inl y1)), some (.inr (.inl y2))] [] (LAY, σ)
set_option maxRecDepth 100000 in
set_option maxHeartbeats 4000000 in
theorem e_X4_readNumber (d : Nat) (σ : zF) : zx (d + 1) 41 [.inl (some 11)] σ = (
P_X4_readNumber_4 d 0 0 σ) := by
  unfold zx
  have hm := zexec_m zX2 zMT d
  refine (zexec_eq mt_41 _ rfl (LAY, σ) 0).trans ?_
  show zrunL zX2 (zexec zX2 zMT d) K_X4_readNumber U_X4_readNumber 0 [some (.inl (some 11)), none, none] [] (LAY, σ) = _
  refine (zq_ic hm (pc' := 1) rfl rfl rfl rfl).trans ?_
  refine (zq_isn hm (ls' := [some (.inl (some 11)), some (.inr (.inl 0)), none]) (pc' := 2) rfl rfl rfl rfl).trans ?_
  refine (zq_ic hm (pc' := 3) rfl rfl rfl rfl).trans ?_
  exact (zc_isn hm (ls' := [some (.inl (some 11)), some (.inr (.inl 0)), some (.inr (.inl 0))]) (pc' := 4) rfl rfl rfl rfl).trans rfl
set_option maxRecDepth 100000 in
set_option maxHeartbeats 4000000 in
theorem e_X4_readNumber_4 (d : Nat) (y1 : Int) (y2 : Int) (σ : zF) : P_X4_readNumber_4 d y1 y2 σ = (
if y2 < 4 then (
zCI LAY (zx d 42 [.inl (some 11)] σ) fun r103 s102 =>
zCI LAY (zx d 45 [.inr (.inl r103)] s102) fun r105 s104 =>
if r105 = 0 then (
zCV LAY (zx d 44 [.inl (some 11), .inr (.inl y1)] s104) fun s106 =>
zrv s106) else (
zCI LAY (zx d 42 [.inl (some 11)] s104) fun r108 s107 =>
P_X4_readNumber_4 d (zw ((zw ((zw (y1 * 10)) + r108)) - 48)) (zw (y2 + 1)) (zset s107 11 4 (zw ((s107 11 4) + 1))))) else (
zCV LAY (zx d 44 [.inl (some 11), .inr (.inl y1)] σ) fun s101 =>
zrv s101)) := by
  have hm := zexec_m zX2 zMT d
  show zrunL zX2 (zexec zX2 zMT d) K_X4_readNumber U_X4_readNumber 4 [some (.inl (some 11)), some (.inr (.inl y1)), some (.inr (.inl y2))] [] (LAY, σ) = _
  refine (zq_iln hm (pc' := 5) rfl rfl rfl rfl).trans ?_
  refine (zq_ic hm (pc' := 6) rfl rfl rfl rfl).trans ?_
  refine (zq_ige hm (pc' := 9) rfl rfl).trans (zite ?_ ?_)
  · refine (zJ_n rfl).trans ?_
    refine (zq_aln hm (pc' := 10) rfl rfl rfl rfl).trans ?_
    refine (zq_v1 hm (pc' := 13) rfl rfl rfl (cls_11_4) rfl rfl).trans (zCI_c rfl (fun r103 s102 => ?_))
    refine (zJ_n rfl).trans ?_
    refine (zq_s1 hm (pc' := 16) rfl rfl rfl rfl rfl rfl).trans (zCI_c rfl (fun r105 s104 => ?_))
    refine (zJ_n rfl).trans ?_
    refine (zq_zeq hm (pc' := 19) rfl rfl).trans (zite ?_ ?_)
    · refine (zJ_n rfl).trans ?_
      refine (zq_aln hm (pc' := 49) rfl rfl rfl rfl).trans ?_
      refine (zq_iln hm (pc' := 50) rfl rfl rfl rfl).trans ?_
      refine (zq_v0 hm (pc' := 53) rfl rfl rfl (cls_11_4) rfl rfl).trans (zCV_c rfl (fun s106 => ?_))
      refine (zJ_n rfl).trans ?_
      exact zq_rv hm rfl
    · refine (zJ_n rfl).trans ?_
      refine (zq_iln hm (pc' := 20) rfl rfl rfl rfl).trans ?_
      refine (zq_bi hm (pc' := 22) rfl rfl rfl rfl).trans ?_
      refine (zq_imul hm (pc' := 23) rfl rfl rfl).trans ?_
      refine (zq_aln hm (pc' := 24) rfl rfl rfl rfl).trans ?_
      refine (zq_v1 hm (pc' := 27) rfl rfl rfl (cls_11_4) rfl rfl).trans (zCI_c rfl (fun r108 s107 => ?_))
      refine (zJ_n rfl).trans ?_
      refine (zq_iadd hm (pc' := 28) rfl rfl rfl).trans ?_
      refine (zq_bi hm (pc' := 30) rfl rfl rfl rfl).trans ?_
      refine (zq_isub hm (pc' := 31) rfl rfl rfl).trans ?_
      refine (zq_isn hm (ls' := [some (.inl (some 11)), some (.inr (.inl (zw ((zw ((zw (y1 * 10)) + r108)) - 48)))), some (.inr (.inl y2))]) (pc' := 32) rfl rfl rfl rfl).trans ?_
      refine (zq_aln hm (pc' := 33) rfl rfl rfl rfl).trans ?_
      refine (zq_dup hm (pc' := 34) rfl rfl rfl rfl).trans ?_
      refine (zq_gf hm (v := (s107 11 4)) (pc' := 37) rfl lay_11 rfl rfl rfl).trans ?_
      refine (zJ_n rfl).trans ?_
      refine (zq_ic hm (pc' := 38) rfl rfl rfl rfl).trans ?_
      refine (zq_iadd hm (pc' := 39) rfl rfl rfl).trans ?_
      refine (zq_pf hm (pc' := 42) rfl lay_11 rfl rfl rfl).trans ?_
      refine (zJ_n rfl).trans ?_
      refine (zq_iinc hm (ls' := [some (.inl (some 11)), some (.inr (.inl (zw ((zw ((zw (y1 * 10)) + r108)) - 48)))), some (.inr (.inl (zw (y2 + 1))))]) (pc' := 45) rfl rfl rfl rfl rfl rfl).trans ?_
      exact (zc_goto hm rfl rfl).trans rfl
  · refine (zJ_n rfl).trans ?_
    refine (zq_aln hm (pc' := 49) rfl rfl rfl rfl).trans ?_
    refine (zq_iln hm (pc' := 50) rfl rfl rfl rfl).trans ?_
    refine (zq_v0 hm (pc' := 53) rfl rfl rfl (cls_11_4) rfl rfl).trans (zCV_c rfl (fun s101 => ?_))
    refine (zJ_n rfl).trans ?_
    exact zq_rv hm rfl
set_option maxRecDepth 100000 in
set_option maxHeartbeats 4000000 in
theorem e_X4_next (d : Nat) (σ : zF) : zx (d + 1) 42 [.inl (some 11)] σ = (
if (σ 11 4) < 0 then (
zri (-1) σ) else (
if (σ 11 4) < (σ 11 1) then (
if 0 ≤ (σ 11 4) ∧ (σ 11 4) < 120 then (
zri (σ 12 (σ 11 4)) σ) else (
none)) else (
zri (-1) σ))) := by
  unfold zx
  have hm := zexec_m zX2 zMT d
  refine (zexec_eq mt_42 _ rfl (LAY, σ) 0).trans ?_
  show zrunL zX2 (zexec zX2 zMT d) K_X4_next U_X4_next 0 [some (.inl (some 11))] [] (LAY, σ) = _
  refine (zq_aln hm (pc' := 1) rfl rfl rfl rfl).trans ?_
  refine (zq_gf hm (v := (σ 11 4)) (pc' := 4) rfl lay_11 rfl rfl rfl).trans ?_
  refine (zJ_n rfl).trans ?_
  refine (zq_zlt hm (pc' := 7) rfl rfl).trans (zite ?_ ?_)
  · refine (zJ_n rfl).trans ?_
    refine (zq_ic hm (pc' := 31) rfl rfl rfl rfl).trans ?_
    exact zq_ri hm rfl rfl
  · refine (zJ_n rfl).trans ?_
    refine (zq_aln hm (pc' := 8) rfl rfl rfl rfl).trans ?_
    refine (zq_gf hm (v := (σ 11 4)) (pc' := 11) rfl lay_11 rfl rfl rfl).trans ?_
    refine (zJ_n rfl).trans ?_
    refine (zq_aln hm (pc' := 12) rfl rfl rfl rfl).trans ?_
    refine (zq_gf hm (v := (σ 11 1)) (pc' := 15) rfl lay_11 rfl rfl rfl).trans ?_
    refine (zJ_n rfl).trans ?_
    refine (zq_ige hm (pc' := 18) rfl rfl).trans (zite ?_ ?_)
    · refine (zJ_n rfl).trans ?_
      refine (zq_aln hm (pc' := 19) rfl rfl rfl rfl).trans ?_
      refine (zq_gr hm (pc' := 22) rfl lay_11 rfl rfl).trans ?_
      refine (zJ_n rfl).trans ?_
      refine (zq_aln hm (pc' := 23) rfl rfl rfl rfl).trans ?_
      refine (zq_gf hm (v := (σ 11 4)) (pc' := 26) rfl lay_11 rfl rfl rfl).trans ?_
      refine (zJ_n rfl).trans ?_
      refine (zq_ia hm (v := (σ 12 (σ 11 4))) (pc' := 27) rfl lay_12 rfl rfl).trans (zite ?_ rfl)
      refine (zJ_n rfl).trans ?_
      refine (zq_goto hm rfl rfl).trans ?_
      exact zq_ri hm rfl rfl
    · refine (zJ_n rfl).trans ?_
      refine (zq_ic hm (pc' := 31) rfl rfl rfl rfl).trans ?_
      exact zq_ri hm rfl rfl
set_option maxRecDepth 100000 in
set_option maxHeartbeats 4000000 in
theorem e_X4_blame (d : Nat) (σ : zF) : zx (d + 1) 43 [.inl (some 11)] σ = (
if (σ 11 5) = (-1) then (
zrv (zset σ 11 5 (σ 11 4))) else (
zrv σ)) := by
  unfold zx
  have hm := zexec_m zX2 zMT d
  refine (zexec_eq mt_43 _ rfl (LAY, σ) 0).trans ?_
  show zrunL zX2 (zexec zX2 zMT d) K_X4_blame U_X4_blame 0 [some (.inl (some 11))] [] (LAY, σ) = _
  refine (zq_aln hm (pc' := 1) rfl rfl rfl rfl).trans ?_
  refine (zq_gf hm (v := (σ 11 5)) (pc' := 4) rfl lay_11 rfl rfl rfl).trans ?_
  refine (zJ_n rfl).trans ?_
  refine (zq_ic hm (pc' := 5) rfl rfl rfl rfl).trans ?_
  refine (zq_ine hm (pc' := 8) rfl rfl).trans (zite ?_ ?_)
  · refine (zJ_n rfl).trans ?_
    refine (zq_aln hm (pc' := 9) rfl rfl rfl rfl).trans ?_
    refine (zq_aln hm (pc' := 10) rfl rfl rfl rfl).trans ?_
    refine (zq_gf hm (v := (σ 11 4)) (pc' := 13) rfl lay_11 rfl rfl rfl).trans ?_
    refine (zJ_n rfl).trans ?_
    refine (zq_pf hm (pc' := 16) rfl lay_11 rfl rfl rfl).trans ?_
    refine (zJ_n rfl).trans ?_
    exact zq_rv hm rfl
  · refine (zJ_n rfl).trans ?_
    exact zq_rv hm rfl
set_option maxRecDepth 100000 in
set_option maxHeartbeats 4000000 in
theorem e_X4_addStep (d : Nat) (x1 : Int) (σ : zF) : zx (d + 1) 44 [.inl (some 11), .inr (.inl x1)] σ = (
if (σ 11 3) < 121 then (
if 0 ≤ (σ 11 3) ∧ (σ 11 3) < 121 then (
zrv (zset (zset σ 13 (σ 11 3) x1) 11 3 (zw ((σ 11 3) + 1)))) else (
none)) else (
zrv σ)) := by
  unfold zx
  have hm := zexec_m zX2 zMT d
  refine (zexec_eq mt_44 _ rfl (LAY, σ) 0).trans ?_
  show zrunL zX2 (zexec zX2 zMT d) K_X4_addStep U_X4_addStep 0 [some (.inl (some 11)), some (.inr (.inl x1))] [] (LAY, σ) = _
  refine (zq_aln hm (pc' := 1) rfl rfl rfl rfl).trans ?_
  refine (zq_gf hm (v := (σ 11 3)) (pc' := 4) rfl lay_11 rfl rfl rfl).trans ?_
  refine (zJ_n rfl).trans ?_
  refine (zq_aln hm (pc' := 5) rfl rfl rfl rfl).trans ?_
  refine (zq_gr hm (pc' := 8) rfl lay_11 rfl rfl).trans ?_
  refine (zJ_n rfl).trans ?_
  refine (zq_len hm (v := 121) (pc' := 9) rfl lay_13 rfl rfl).trans ?_
  refine (zJ_n rfl).trans ?_
  refine (zq_ige hm (pc' := 12) rfl rfl).trans (zite ?_ ?_)
  · refine (zJ_n rfl).trans ?_
    refine (zq_aln hm (pc' := 13) rfl rfl rfl rfl).trans ?_
    refine (zq_gr hm (pc' := 16) rfl lay_11 rfl rfl).trans ?_
    refine (zJ_n rfl).trans ?_
    refine (zq_aln hm (pc' := 17) rfl rfl rfl rfl).trans ?_
    refine (zq_gf hm (v := (σ 11 3)) (pc' := 20) rfl lay_11 rfl rfl rfl).trans ?_
    refine (zJ_n rfl).trans ?_
    refine (zq_iln hm (pc' := 21) rfl rfl rfl rfl).trans ?_
    refine (zq_ist hm (pc' := 22) rfl lay_13 rfl).trans (zite ?_ rfl)
    refine (zJ_n rfl).trans ?_
    refine (zq_aln hm (pc' := 23) rfl rfl rfl rfl).trans ?_
    refine (zq_dup hm (pc' := 24) rfl rfl rfl rfl).trans ?_
    refine (zq_gf hm (v := (σ 11 3)) (pc' := 27) rfl lay_11 rfl (zsn rfl) rfl).trans ?_
    refine (zJ_n rfl).trans ?_
    refine (zq_ic hm (pc' := 28) rfl rfl rfl rfl).trans ?_
    refine (zq_iadd hm (pc' := 29) rfl rfl rfl).trans ?_
    refine (zq_pf hm (pc' := 32) rfl lay_11 rfl rfl rfl).trans ?_
    refine (zJ_n rfl).trans ?_
    exact zq_rv hm rfl
  · refine (zJ_n rfl).trans ?_
    exact zq_rv hm rfl
set_option maxRecDepth 100000 in
set_option maxHeartbeats 4000000 in
theorem e_X4_isDigit (d : Nat) (x0 : Int) (σ : zF) : zx (d + 1) 45 [.inr (.inl x0)] σ = (
if x0 < 48 then (
zri 0 σ) else (
if (57 : Int) < x0 then (
zri 0 σ) else (
zri 1 σ))) := by
  unfold zx
  have hm := zexec_m zX2 zMT d
  refine (zexec_eq mt_45 _ rfl (LAY, σ) 0).trans ?_
  show zrunL zX2 (zexec zX2 zMT d) K_X4_isDigit U_X4_isDigit 0 [some (.inr (.inl x0))] [] (LAY, σ) = _
  refine (zq_iln hm (pc' := 1) rfl rfl rfl rfl).trans ?_
  refine (zq_bi hm (pc' := 3) rfl rfl rfl rfl).trans ?_
  refine (zq_ilt hm (pc' := 6) rfl rfl).trans (zite ?_ ?_)
  · refine (zJ_n rfl).trans ?_
    refine (zq_ic hm (pc' := 17) rfl rfl rfl rfl).trans ?_
    exact (zq_rb hm rfl rfl).trans (zif1 (by decide))
  · refine (zJ_n rfl).trans ?_
    refine (zq_iln hm (pc' := 7) rfl rfl rfl rfl).trans ?_
    refine (zq_bi hm (pc' := 9) rfl rfl rfl rfl).trans ?_
    refine (zq_igt hm (pc' := 12) rfl rfl).trans (zite ?_ ?_)
    · refine (zJ_n rfl).trans ?_
      refine (zq_ic hm (pc' := 17) rfl rfl rfl rfl).trans ?_
      exact (zq_rb hm rfl rfl).trans (zif1 (by decide))
    · refine (zJ_n rfl).trans ?_
      refine (zq_ic hm (pc' := 13) rfl rfl rfl rfl).trans ?_
      refine (zq_goto hm rfl rfl).trans ?_
      exact (zq_rb hm rfl rfl).trans (zif1 (by decide))
set_option maxRecDepth 100000 in
set_option maxHeartbeats 4000000 in
theorem e_X4_isName (d : Nat) (x0 : Int) (σ : zF) : zx (d + 1) 46 [.inr (.inl x0)] σ = (
if x0 = 108 then (
zri 1 σ) else (
if x0 = 109 then (
zri 1 σ) else (
if x0 = 106 then (
zri 1 σ) else (
if x0 = 110 then (
zri 1 σ) else (
if x0 = 114 then (
zri 1 σ) else (
if x0 = 107 then (
zri 1 σ) else (
zri 0 σ))))))) := by
  unfold zx
  have hm := zexec_m zX2 zMT d
  refine (zexec_eq mt_46 _ rfl (LAY, σ) 0).trans ?_
  show zrunL zX2 (zexec zX2 zMT d) K_X4_isName U_X4_isName 0 [some (.inr (.inl x0))] [] (LAY, σ) = _
  refine (zq_iln hm (pc' := 1) rfl rfl rfl rfl).trans ?_
  refine (zq_bi hm (pc' := 3) rfl rfl rfl rfl).trans ?_
  refine (zq_ieq hm (pc' := 6) rfl rfl).trans (zite ?_ ?_)
  · refine (zJ_n rfl).trans ?_
    refine (zq_ic hm (pc' := 37) rfl rfl rfl rfl).trans ?_
    refine (zq_goto hm rfl rfl).trans ?_
    exact (zq_rb hm rfl rfl).trans (zif1 (by decide))
  · refine (zJ_n rfl).trans ?_
    refine (zq_iln hm (pc' := 7) rfl rfl rfl rfl).trans ?_
    refine (zq_bi hm (pc' := 9) rfl rfl rfl rfl).trans ?_
    refine (zq_ieq hm (pc' := 12) rfl rfl).trans (zite ?_ ?_)
    · refine (zJ_n rfl).trans ?_
      refine (zq_ic hm (pc' := 37) rfl rfl rfl rfl).trans ?_
      refine (zq_goto hm rfl rfl).trans ?_
      exact (zq_rb hm rfl rfl).trans (zif1 (by decide))
    · refine (zJ_n rfl).trans ?_
      refine (zq_iln hm (pc' := 13) rfl rfl rfl rfl).trans ?_
      refine (zq_bi hm (pc' := 15) rfl rfl rfl rfl).trans ?_
      refine (zq_ieq hm (pc' := 18) rfl rfl).trans (zite ?_ ?_)
      · refine (zJ_n rfl).trans ?_
        refine (zq_ic hm (pc' := 37) rfl rfl rfl rfl).trans ?_
        refine (zq_goto hm rfl rfl).trans ?_
        exact (zq_rb hm rfl rfl).trans (zif1 (by decide))
      · refine (zJ_n rfl).trans ?_
        refine (zq_iln hm (pc' := 19) rfl rfl rfl rfl).trans ?_
        refine (zq_bi hm (pc' := 21) rfl rfl rfl rfl).trans ?_
        refine (zq_ieq hm (pc' := 24) rfl rfl).trans (zite ?_ ?_)
        · refine (zJ_n rfl).trans ?_
          refine (zq_ic hm (pc' := 37) rfl rfl rfl rfl).trans ?_
          refine (zq_goto hm rfl rfl).trans ?_
          exact (zq_rb hm rfl rfl).trans (zif1 (by decide))
        · refine (zJ_n rfl).trans ?_
          refine (zq_iln hm (pc' := 25) rfl rfl rfl rfl).trans ?_
          refine (zq_bi hm (pc' := 27) rfl rfl rfl rfl).trans ?_
          refine (zq_ieq hm (pc' := 30) rfl rfl).trans (zite ?_ ?_)
          · refine (zJ_n rfl).trans ?_
            refine (zq_ic hm (pc' := 37) rfl rfl rfl rfl).trans ?_
            refine (zq_goto hm rfl rfl).trans ?_
            exact (zq_rb hm rfl rfl).trans (zif1 (by decide))
          · refine (zJ_n rfl).trans ?_
            refine (zq_iln hm (pc' := 31) rfl rfl rfl rfl).trans ?_
            refine (zq_bi hm (pc' := 33) rfl rfl rfl rfl).trans ?_
            refine (zq_ine hm (pc' := 36) rfl rfl).trans (zite ?_ ?_)
            · refine (zJ_n rfl).trans ?_
              refine (zq_ic hm (pc' := 37) rfl rfl rfl rfl).trans ?_
              refine (zq_goto hm rfl rfl).trans ?_
              exact (zq_rb hm rfl rfl).trans (zif1 (by decide))
            · refine (zJ_n rfl).trans ?_
              refine (zq_ic hm (pc' := 41) rfl rfl rfl rfl).trans ?_
              exact (zq_rb hm rfl rfl).trans (zif1 (by decide))
set_option maxRecDepth 100000 in
set_option maxHeartbeats 4000000 in
theorem e_X4_isSign (d : Nat) (x0 : Int) (x1 : Int) (σ : zF) : zx (d + 1) 47 [.inr (.inl x0), .inr (.inl x1)] σ = (
if x0 = 0 then (
if x1 = 124 then (
zri 1 σ) else (
zri 0 σ)) else (
if x0 = 1 then (
if x1 = 38 then (
zri 1 σ) else (
zri 0 σ)) else (
if x0 = 2 then (
if x1 = 60 then (
zri 1 σ) else (
if x1 = 61 then (
zri 1 σ) else (
if x1 = 62 then (
zri 1 σ) else (
zri 0 σ)))) else (
if x0 = 3 then (
if x1 = 43 then (
zri 1 σ) else (
if x1 = 45 then (
zri 1 σ) else (
zri 0 σ))) else (
if x1 = 42 then (
zri 1 σ) else (
if x1 = 47 then (
zri 1 σ) else (
if x1 = 37 then (
zri 1 σ) else (
zri 0 σ)))))))) := by
  unfold zx
  have hm := zexec_m zX2 zMT d
  refine (zexec_eq mt_47 _ rfl (LAY, σ) 0).trans ?_
  show zrunL zX2 (zexec zX2 zMT d) K_X4_isSign U_X4_isSign 0 [some (.inr (.inl x0)), some (.inr (.inl x1))] [] (LAY, σ) = _
  refine (zq_iln hm (pc' := 1) rfl rfl rfl rfl).trans ?_
  refine (zq_ts hm rfl).trans (zsw_c (k' := fun _ => none) ?_ (zsw_c (k' := fun _ => none) ?_ (zsw_c (k' := fun _ => none) ?_ (zsw_c (k' := fun _ => none) ?_ (zsw_n ?_)))))
  · refine (zJ_n rfl).trans ?_
    refine (zq_iln hm (pc' := 33) rfl rfl rfl rfl).trans ?_
    refine (zq_bi hm (pc' := 35) rfl rfl rfl rfl).trans ?_
    refine (zq_ine hm (pc' := 38) rfl rfl).trans (zite ?_ ?_)
    · refine (zJ_n rfl).trans ?_
      refine (zq_ic hm (pc' := 39) rfl rfl rfl rfl).trans ?_
      refine (zq_goto hm rfl rfl).trans ?_
      exact (zq_rb hm rfl rfl).trans (zif1 (by decide))
    · refine (zJ_n rfl).trans ?_
      refine (zq_ic hm (pc' := 43) rfl rfl rfl rfl).trans ?_
      exact (zq_rb hm rfl rfl).trans (zif1 (by decide))
  · refine (zJ_n rfl).trans ?_
    refine (zq_iln hm (pc' := 45) rfl rfl rfl rfl).trans ?_
    refine (zq_bi hm (pc' := 47) rfl rfl rfl rfl).trans ?_
    refine (zq_ine hm (pc' := 50) rfl rfl).trans (zite ?_ ?_)
    · refine (zJ_n rfl).trans ?_
      refine (zq_ic hm (pc' := 51) rfl rfl rfl rfl).trans ?_
      refine (zq_goto hm rfl rfl).trans ?_
      exact (zq_rb hm rfl rfl).trans (zif1 (by decide))
    · refine (zJ_n rfl).trans ?_
      refine (zq_ic hm (pc' := 55) rfl rfl rfl rfl).trans ?_
      exact (zq_rb hm rfl rfl).trans (zif1 (by decide))
  · refine (zJ_n rfl).trans ?_
    refine (zq_iln hm (pc' := 57) rfl rfl rfl rfl).trans ?_
    refine (zq_bi hm (pc' := 59) rfl rfl rfl rfl).trans ?_
    refine (zq_ieq hm (pc' := 62) rfl rfl).trans (zite ?_ ?_)
    · refine (zJ_n rfl).trans ?_
      refine (zq_ic hm (pc' := 75) rfl rfl rfl rfl).trans ?_
      refine (zq_goto hm rfl rfl).trans ?_
      exact (zq_rb hm rfl rfl).trans (zif1 (by decide))
    · refine (zJ_n rfl).trans ?_
      refine (zq_iln hm (pc' := 63) rfl rfl rfl rfl).trans ?_
      refine (zq_bi hm (pc' := 65) rfl rfl rfl rfl).trans ?_
      refine (zq_ieq hm (pc' := 68) rfl rfl).trans (zite ?_ ?_)
      · refine (zJ_n rfl).trans ?_
        refine (zq_ic hm (pc' := 75) rfl rfl rfl rfl).trans ?_
        refine (zq_goto hm rfl rfl).trans ?_
        exact (zq_rb hm rfl rfl).trans (zif1 (by decide))
      · refine (zJ_n rfl).trans ?_
        refine (zq_iln hm (pc' := 69) rfl rfl rfl rfl).trans ?_
        refine (zq_bi hm (pc' := 71) rfl rfl rfl rfl).trans ?_
        refine (zq_ine hm (pc' := 74) rfl rfl).trans (zite ?_ ?_)
        · refine (zJ_n rfl).trans ?_
          refine (zq_ic hm (pc' := 75) rfl rfl rfl rfl).trans ?_
          refine (zq_goto hm rfl rfl).trans ?_
          exact (zq_rb hm rfl rfl).trans (zif1 (by decide))
        · refine (zJ_n rfl).trans ?_
          refine (zq_ic hm (pc' := 79) rfl rfl rfl rfl).trans ?_
          exact (zq_rb hm rfl rfl).trans (zif1 (by decide))
  · refine (zJ_n rfl).trans ?_
    refine (zq_iln hm (pc' := 81) rfl rfl rfl rfl).trans ?_
    refine (zq_bi hm (pc' := 83) rfl rfl rfl rfl).trans ?_
    refine (zq_ieq hm (pc' := 86) rfl rfl).trans (zite ?_ ?_)
    · refine (zJ_n rfl).trans ?_
      refine (zq_ic hm (pc' := 93) rfl rfl rfl rfl).trans ?_
      refine (zq_goto hm rfl rfl).trans ?_
      exact (zq_rb hm rfl rfl).trans (zif1 (by decide))
    · refine (zJ_n rfl).trans ?_
      refine (zq_iln hm (pc' := 87) rfl rfl rfl rfl).trans ?_
      refine (zq_bi hm (pc' := 89) rfl rfl rfl rfl).trans ?_
      refine (zq_ine hm (pc' := 92) rfl rfl).trans (zite ?_ ?_)
      · refine (zJ_n rfl).trans ?_
        refine (zq_ic hm (pc' := 93) rfl rfl rfl rfl).trans ?_
        refine (zq_goto hm rfl rfl).trans ?_
        exact (zq_rb hm rfl rfl).trans (zif1 (by decide))
      · refine (zJ_n rfl).trans ?_
        refine (zq_ic hm (pc' := 97) rfl rfl rfl rfl).trans ?_
        exact (zq_rb hm rfl rfl).trans (zif1 (by decide))
  · refine (zJ_n rfl).trans ?_
    refine (zq_iln hm (pc' := 99) rfl rfl rfl rfl).trans ?_
    refine (zq_bi hm (pc' := 101) rfl rfl rfl rfl).trans ?_
    refine (zq_ieq hm (pc' := 104) rfl rfl).trans (zite ?_ ?_)
    · refine (zJ_n rfl).trans ?_
      refine (zq_ic hm (pc' := 117) rfl rfl rfl rfl).trans ?_
      refine (zq_goto hm rfl rfl).trans ?_
      exact (zq_rb hm rfl rfl).trans (zif1 (by decide))
    · refine (zJ_n rfl).trans ?_
      refine (zq_iln hm (pc' := 105) rfl rfl rfl rfl).trans ?_
      refine (zq_bi hm (pc' := 107) rfl rfl rfl rfl).trans ?_
      refine (zq_ieq hm (pc' := 110) rfl rfl).trans (zite ?_ ?_)
      · refine (zJ_n rfl).trans ?_
        refine (zq_ic hm (pc' := 117) rfl rfl rfl rfl).trans ?_
        refine (zq_goto hm rfl rfl).trans ?_
        exact (zq_rb hm rfl rfl).trans (zif1 (by decide))
      · refine (zJ_n rfl).trans ?_
        refine (zq_iln hm (pc' := 111) rfl rfl rfl rfl).trans ?_
        refine (zq_bi hm (pc' := 113) rfl rfl rfl rfl).trans ?_
        refine (zq_ine hm (pc' := 116) rfl rfl).trans (zite ?_ ?_)
        · refine (zJ_n rfl).trans ?_
          refine (zq_ic hm (pc' := 117) rfl rfl rfl rfl).trans ?_
          refine (zq_goto hm rfl rfl).trans ?_
          exact (zq_rb hm rfl rfl).trans (zif1 (by decide))
        · refine (zJ_n rfl).trans ?_
          refine (zq_ic hm (pc' := 121) rfl rfl rfl rfl).trans ?_
          exact (zq_rb hm rfl rfl).trans (zif1 (by decide))
noncomputable def P_X5_seek_2 (d : Nat) (y1 : Int) (y2 : Int) (y3 : Int) (σ : zF) : Option zR := zrunL zX2 (zexec zX2 zMT d) K_X5_seek U_X5_seek 2 [some (.inl (some 27)), some (.inr (.inl y1)), some (.inr (.inl y2)), some (.inr (.inl y3))] [] (LAY, σ)
set_option maxRecDepth 100000 in
set_option maxHeartbeats 4000000 in
theorem e_X5_seek (d : Nat) (x1 : Int) (x2 : Int) (σ : zF) : zx (d + 1) 49 [.inl (some 27), .inr (.inl x1), .inr (.inl x2)] σ = (
P_X5_seek_2 d x1 x2 0 σ) := by
  unfold zx
  have hm := zexec_m zX2 zMT d
  refine (zexec_eq mt_49 _ rfl (LAY, σ) 0).trans ?_
  show zrunL zX2 (zexec zX2 zMT d) K_X5_seek U_X5_seek 0 [some (.inl (some 27)), some (.inr (.inl x1)), some (.inr (.inl x2)), none] [] (LAY, σ) = _
  refine (zq_ic hm (pc' := 1) rfl rfl rfl rfl).trans ?_
  exact (zc_isn hm (ls' := [some (.inl (some 27)), some (.inr (.inl x1)), some (.inr (.inl x2)), some (.inr (.inl 0))]) (pc' := 2) rfl rfl rfl rfl).trans rfl
set_option maxRecDepth 100000 in
set_option maxHeartbeats 4000000 in
theorem e_X5_seek_2 (d : Nat) (y1 : Int) (y2 : Int) (y3 : Int) (σ : zF) : P_X5_seek_2 d y1 y2 y3 σ = (
if y3 < 8 then (
if y3 = y1 then (
zCV LAY (zx d 94 [.inl (some 17), .inr (.inl y3)] σ) fun s102 =>
if 0 ≤ (8 : Int) ∧ 0 ≤ (0 : Int) ∧ 0 ≤ zw (y3 * 8) ∧ (0 : Int) + 8 ≤ 8 ∧ (zw (y3 * 8)) + 8 ≤ 64 then (
P_X5_seek_2 d y1 y2 (zw (y3 + 1)) (zcpy s102 23 0 28 (zw (y3 * 8)) 8)) else (
none)) else (
if zand (zshr y2 y3) 1 = 1 then (
zCV LAY (zx d 94 [.inl (some 17), .inr (.inl y3)] σ) fun s103 =>
if 0 ≤ (8 : Int) ∧ 0 ≤ (0 : Int) ∧ 0 ≤ zw (y3 * 8) ∧ (0 : Int) + 8 ≤ 8 ∧ (zw (y3 * 8)) + 8 ≤ 64 then (
P_X5_seek_2 d y1 y2 (zw (y3 + 1)) (zcpy s103 23 0 28 (zw (y3 * 8)) 8)) else (
none)) else (
P_X5_seek_2 d y1 y2 (zw (y3 + 1)) σ))) else (
zCV LAY (zx d 50 [.inl (some 27), .inr (.inl y1), .inr (.inl y2), .inr (.inl 0), .inr (.inl 0)] (zset (zset σ 27 4 y1) 27 5 1000000)) fun s101 =>
zrv s101)) := by
  have hm := zexec_m zX2 zMT d
  show zrunL zX2 (zexec zX2 zMT d) K_X5_seek U_X5_seek 2 [some (.inl (some 27)), some (.inr (.inl y1)), some (.inr (.inl y2)), some (.inr (.inl y3))] [] (LAY, σ) = _
  refine (zq_iln hm (pc' := 3) rfl rfl rfl rfl).trans ?_
  refine (zq_bi hm (pc' := 5) rfl rfl rfl rfl).trans ?_
  refine (zq_ige hm (pc' := 8) rfl rfl).trans (zite ?_ ?_)
  · refine (zJ_n rfl).trans ?_
    refine (zq_iln hm (pc' := 9) rfl rfl rfl rfl).trans ?_
    refine (zq_iln hm (pc' := 10) rfl rfl rfl rfl).trans ?_
    refine (zq_ieq hm (pc' := 13) rfl rfl).trans (zite ?_ ?_)
    · refine (zJ_n rfl).trans ?_
      refine (zq_aln hm (pc' := 23) rfl rfl rfl rfl).trans ?_
      refine (zq_gr hm (pc' := 26) rfl lay_27 rfl rfl).trans ?_
      refine (zJ_n rfl).trans ?_
      refine (zq_iln hm (pc' := 27) rfl rfl rfl rfl).trans ?_
      refine (zq_v0 hm (pc' := 30) rfl rfl rfl (cls_17_9) rfl rfl).trans (zCV_c rfl (fun s102 => ?_))
      refine (zJ_n rfl).trans ?_
      refine (zq_aln hm (pc' := 31) rfl rfl rfl rfl).trans ?_
      refine (zq_gr hm (pc' := 34) rfl lay_27 rfl rfl).trans ?_
      refine (zJ_n rfl).trans ?_
      refine (zq_gr hm (pc' := 37) rfl lay_17 rfl rfl).trans ?_
      refine (zJ_n rfl).trans ?_
      refine (zq_ic hm (pc' := 38) rfl rfl rfl rfl).trans ?_
      refine (zq_aln hm (pc' := 39) rfl rfl rfl rfl).trans ?_
      refine (zq_gr hm (pc' := 42) rfl lay_27 rfl rfl).trans ?_
      refine (zJ_n rfl).trans ?_
      refine (zq_iln hm (pc' := 43) rfl rfl rfl rfl).trans ?_
      refine (zq_bi hm (pc' := 45) rfl rfl rfl rfl).trans ?_
      refine (zq_imul hm (pc' := 46) rfl rfl rfl).trans ?_
      refine (zq_bi hm (pc' := 48) rfl rfl rfl rfl).trans ?_
      refine (zq_arc hm (pc' := 51) rfl rfl rfl lay_23 lay_28 rfl rfl).trans (zite ?_ rfl)
      refine (zJ_n rfl).trans ?_
      refine (zq_iinc hm (ls' := [some (.inl (some 27)), some (.inr (.inl y1)), some (.inr (.inl y2)), some (.inr (.inl (zw (y3 + 1))))]) (pc' := 54) rfl rfl rfl rfl rfl rfl).trans ?_
      exact (zc_goto hm rfl rfl).trans rfl
    · refine (zJ_n rfl).trans ?_
      refine (zq_iln hm (pc' := 14) rfl rfl rfl rfl).trans ?_
      refine (zq_iln hm (pc' := 15) rfl rfl rfl rfl).trans ?_
      refine (zq_ishr hm (pc' := 16) rfl rfl rfl).trans ?_
      refine (zq_ic hm (pc' := 17) rfl rfl rfl rfl).trans ?_
      refine (zq_iand hm (pc' := 18) rfl rfl rfl).trans ?_
      refine (zq_ic hm (pc' := 19) rfl rfl rfl rfl).trans ?_
      refine (zq_ine hm (pc' := 22) rfl rfl).trans (zite ?_ ?_)
      · refine (zJ_n rfl).trans ?_
        refine (zq_aln hm (pc' := 23) rfl rfl rfl rfl).trans ?_
        refine (zq_gr hm (pc' := 26) rfl lay_27 rfl rfl).trans ?_
        refine (zJ_n rfl).trans ?_
        refine (zq_iln hm (pc' := 27) rfl rfl rfl rfl).trans ?_
        refine (zq_v0 hm (pc' := 30) rfl rfl rfl (cls_17_9) rfl rfl).trans (zCV_c rfl (fun s103 => ?_))
        refine (zJ_n rfl).trans ?_
        refine (zq_aln hm (pc' := 31) rfl rfl rfl rfl).trans ?_
        refine (zq_gr hm (pc' := 34) rfl lay_27 rfl rfl).trans ?_
        refine (zJ_n rfl).trans ?_
        refine (zq_gr hm (pc' := 37) rfl lay_17 rfl rfl).trans ?_
        refine (zJ_n rfl).trans ?_
        refine (zq_ic hm (pc' := 38) rfl rfl rfl rfl).trans ?_
        refine (zq_aln hm (pc' := 39) rfl rfl rfl rfl).trans ?_
        refine (zq_gr hm (pc' := 42) rfl lay_27 rfl rfl).trans ?_
        refine (zJ_n rfl).trans ?_
        refine (zq_iln hm (pc' := 43) rfl rfl rfl rfl).trans ?_
        refine (zq_bi hm (pc' := 45) rfl rfl rfl rfl).trans ?_
        refine (zq_imul hm (pc' := 46) rfl rfl rfl).trans ?_
        refine (zq_bi hm (pc' := 48) rfl rfl rfl rfl).trans ?_
        refine (zq_arc hm (pc' := 51) rfl rfl rfl lay_23 lay_28 rfl rfl).trans (zite ?_ rfl)
        refine (zJ_n rfl).trans ?_
        refine (zq_iinc hm (ls' := [some (.inl (some 27)), some (.inr (.inl y1)), some (.inr (.inl y2)), some (.inr (.inl (zw (y3 + 1))))]) (pc' := 54) rfl rfl rfl rfl rfl rfl).trans ?_
        exact (zc_goto hm rfl rfl).trans rfl
      · refine (zJ_n rfl).trans ?_
        refine (zq_iinc hm (ls' := [some (.inl (some 27)), some (.inr (.inl y1)), some (.inr (.inl y2)), some (.inr (.inl (zw (y3 + 1))))]) (pc' := 54) rfl rfl rfl rfl rfl rfl).trans ?_
        exact (zc_goto hm rfl rfl).trans rfl
  · refine (zJ_n rfl).trans ?_
    refine (zq_aln hm (pc' := 58) rfl rfl rfl rfl).trans ?_
    refine (zq_iln hm (pc' := 59) rfl rfl rfl rfl).trans ?_
    refine (zq_pf hm (pc' := 62) rfl lay_27 rfl rfl rfl).trans ?_
    refine (zJ_n rfl).trans ?_
    refine (zq_aln hm (pc' := 63) rfl rfl rfl rfl).trans ?_
    refine (zq_ld hm (pc' := 65) rfl rfl rfl rfl).trans ?_
    refine (zq_pf hm (pc' := 68) rfl lay_27 rfl rfl rfl).trans ?_
    refine (zJ_n rfl).trans ?_
    refine (zq_aln hm (pc' := 69) rfl rfl rfl rfl).trans ?_
    refine (zq_iln hm (pc' := 70) rfl rfl rfl rfl).trans ?_
    refine (zq_iln hm (pc' := 71) rfl rfl rfl rfl).trans ?_
    refine (zq_ic hm (pc' := 72) rfl rfl rfl rfl).trans ?_
    refine (zq_ic hm (pc' := 73) rfl rfl rfl rfl).trans ?_
    refine (zq_v0 hm (pc' := 76) rfl rfl rfl (cls_27_5) rfl rfl).trans (zCV_c rfl (fun s101 => ?_))
    refine (zJ_n rfl).trans ?_
    exact zq_rv hm rfl
noncomputable def P_X5_goOn_35 (d : Nat) (y1 : Int) (y2 : Int) (y3 : Int) (y4 : Int) (y5 : Int) (σ : zF) : Option zR := zrunL zX2 (zexec zX2 zMT d) K_X5_goOn U_X5_goOn 35 [some (.inl (some 27)), some (.inr (.inl y1)), some (.inr (.inl y2)), some (.inr (.inl y3)), some (.inr (.inl y4)), some (.inr (.inl y5))] [] (LAY, σ)
set_option maxRecDepth 100000 in
set_option maxHeartbeats 4000000 in
theorem e_X5_goOn (d : Nat) (x1 : Int) (x2 : Int) (x3 : Int) (x4 : Int) (σ : zF) : zx (d + 1) 50 [.inl (some 27), .inr (.inl x1), .inr (.inl x2), .inr (.inl x3), .inr (.inl x4)] σ = (
if x2 = 0 then (
if 0 ≤ zw ((zw (x1 * 8)) + (σ 27 4)) ∧ zw ((zw (x1 * 8)) + (σ 27 4)) < 64 then (
zCV LAY (zx d 51 [.inl (some 27), .inr (.inl (zw (x3 + (σ 28 (zw ((zw (x1 * 8)) + (σ 27 4)))))))] σ) fun s1 =>
zrv s1) else (
none)) else (
if x4 < 5 then (
P_X5_goOn_35 d x1 x2 x3 x4 0 σ) else (
zrv σ))) := by
  unfold zx
  have hm := zexec_m zX2 zMT d
  refine (zexec_eq mt_50 _ rfl (LAY, σ) 0).trans ?_
  show zrunL zX2 (zexec zX2 zMT d) K_X5_goOn U_X5_goOn 0 [some (.inl (some 27)), some (.inr (.inl x1)), some (.inr (.inl x2)), some (.inr (.inl x3)), some (.inr (.inl x4)), none] [] (LAY, σ) = _
  refine (zq_iln hm (pc' := 1) rfl rfl rfl rfl).trans ?_
  refine (zq_zne hm (pc' := 4) rfl rfl).trans (zite ?_ ?_)
  · refine (zJ_n rfl).trans ?_
    refine (zq_aln hm (pc' := 5) rfl rfl rfl rfl).trans ?_
    refine (zq_iln hm (pc' := 6) rfl rfl rfl rfl).trans ?_
    refine (zq_aln hm (pc' := 7) rfl rfl rfl rfl).trans ?_
    refine (zq_gr hm (pc' := 10) rfl lay_27 rfl rfl).trans ?_
    refine (zJ_n rfl).trans ?_
    refine (zq_iln hm (pc' := 11) rfl rfl rfl rfl).trans ?_
    refine (zq_bi hm (pc' := 13) rfl rfl rfl rfl).trans ?_
    refine (zq_imul hm (pc' := 14) rfl rfl rfl).trans ?_
    refine (zq_aln hm (pc' := 15) rfl rfl rfl rfl).trans ?_
    refine (zq_gf hm (v := (σ 27 4)) (pc' := 18) rfl lay_27 rfl rfl rfl).trans ?_
    refine (zJ_n rfl).trans ?_
    refine (zq_iadd hm (pc' := 19) rfl rfl rfl).trans ?_
    refine (zq_ia hm (v := (σ 28 (zw ((zw (x1 * 8)) + (σ 27 4))))) (pc' := 20) rfl lay_28 rfl rfl).trans (zite ?_ rfl)
    refine (zJ_n rfl).trans ?_
    refine (zq_iadd hm (pc' := 21) rfl rfl rfl).trans ?_
    refine (zq_v0 hm (pc' := 24) rfl rfl rfl (cls_27_5) rfl rfl).trans (zCV_c rfl (fun s1 => ?_))
    refine (zJ_n rfl).trans ?_
    exact zq_rv hm rfl
  · refine (zJ_n rfl).trans ?_
    refine (zq_il hm (pc' := 27) rfl rfl rfl rfl).trans ?_
    refine (zq_ic hm (pc' := 28) rfl rfl rfl rfl).trans ?_
    refine (zq_ilt hm (pc' := 31) rfl rfl).trans (zite ?_ ?_)
    · refine (zJ_n rfl).trans ?_
      refine (zq_ic hm (pc' := 33) rfl rfl rfl rfl).trans ?_
      exact (zc_is hm (ls' := [some (.inl (some 27)), some (.inr (.inl x1)), some (.inr (.inl x2)), some (.inr (.inl x3)), some (.inr (.inl x4)), some (.inr (.inl 0))]) (pc' := 35) rfl rfl rfl rfl).trans rfl
    · refine (zJ_n rfl).trans ?_
      exact zq_rv hm rfl
set_option maxRecDepth 100000 in
set_option maxHeartbeats 4000000 in
theorem e_X5_goOn_35 (d : Nat) (y1 : Int) (y2 : Int) (y3 : Int) (y4 : Int) (y5 : Int) (σ : zF) : P_X5_goOn_35 d y1 y2 y3 y4 y5 σ = (
if y5 < 8 then (
if zand (zshr y2 y5) 1 = 1 then (
if 0 ≤ y4 ∧ y4 < 5 then (
if 0 ≤ zw ((zw (y1 * 8)) + y5) ∧ zw ((zw (y1 * 8)) + y5) < 64 then (
zCV LAY (zx d 50 [.inl (some 27), .inr (.inl y5), .inr (.inl (zand y2 (zxor (zshl 1 y5) (-1)))), .inr (.inl (zw (y3 + (σ 28 (zw ((zw (y1 * 8)) + y5)))))), .inr (.inl (zw (y4 + 1)))] (zset σ 29 y4 y5)) fun s101 =>
P_X5_goOn_35 d y1 y2 y3 y4 (zw (y5 + 1)) s101) else (
none)) else (
none)) else (
P_X5_goOn_35 d y1 y2 y3 y4 (zw (y5 + 1)) σ)) else (
zrv σ)) := by
  have hm := zexec_m zX2 zMT d
  show zrunL zX2 (zexec zX2 zMT d) K_X5_goOn U_X5_goOn 35 [some (.inl (some 27)), some (.inr (.inl y1)), some (.inr (.inl y2)), some (.inr (.inl y3)), some (.inr (.inl y4)), some (.inr (.inl y5))] [] (LAY, σ) = _
  refine (zq_il hm (pc' := 37) rfl rfl rfl rfl).trans ?_
  refine (zq_bi hm (pc' := 39) rfl rfl rfl rfl).trans ?_
  refine (zq_ige hm (pc' := 42) rfl rfl).trans (zite ?_ ?_)
  · refine (zJ_n rfl).trans ?_
    refine (zq_iln hm (pc' := 43) rfl rfl rfl rfl).trans ?_
    refine (zq_il hm (pc' := 45) rfl rfl rfl rfl).trans ?_
    refine (zq_ishr hm (pc' := 46) rfl rfl rfl).trans ?_
    refine (zq_ic hm (pc' := 47) rfl rfl rfl rfl).trans ?_
    refine (zq_iand hm (pc' := 48) rfl rfl rfl).trans ?_
    refine (zq_ic hm (pc' := 49) rfl rfl rfl rfl).trans ?_
    refine (zq_ine hm (pc' := 52) rfl rfl).trans (zite ?_ ?_)
    · refine (zJ_n rfl).trans ?_
      refine (zq_aln hm (pc' := 53) rfl rfl rfl rfl).trans ?_
      refine (zq_gr hm (pc' := 56) rfl lay_27 rfl rfl).trans ?_
      refine (zJ_n rfl).trans ?_
      refine (zq_il hm (pc' := 58) rfl rfl rfl rfl).trans ?_
      refine (zq_il hm (pc' := 60) rfl rfl rfl rfl).trans ?_
      refine (zq_ist hm (pc' := 61) rfl lay_29 rfl).trans (zite ?_ rfl)
      refine (zJ_n rfl).trans ?_
      refine (zq_aln hm (pc' := 62) rfl rfl rfl rfl).trans ?_
      refine (zq_il hm (pc' := 64) rfl rfl rfl rfl).trans ?_
      refine (zq_iln hm (pc' := 65) rfl rfl rfl rfl).trans ?_
      refine (zq_ic hm (pc' := 66) rfl rfl rfl rfl).trans ?_
      refine (zq_il hm (pc' := 68) rfl rfl rfl rfl).trans ?_
      refine (zq_ishl hm (pc' := 69) rfl rfl rfl).trans ?_
      refine (zq_ic hm (pc' := 70) rfl rfl rfl rfl).trans ?_
      refine (zq_ixor hm (pc' := 71) rfl rfl rfl).trans ?_
      refine (zq_iand hm (pc' := 72) rfl rfl rfl).trans ?_
      refine (zq_iln hm (pc' := 73) rfl rfl rfl rfl).trans ?_
      refine (zq_aln hm (pc' := 74) rfl rfl rfl rfl).trans ?_
      refine (zq_gr hm (pc' := 77) rfl lay_27 rfl rfl).trans ?_
      refine (zJ_n rfl).trans ?_
      refine (zq_iln hm (pc' := 78) rfl rfl rfl rfl).trans ?_
      refine (zq_bi hm (pc' := 80) rfl rfl rfl rfl).trans ?_
      refine (zq_imul hm (pc' := 81) rfl rfl rfl).trans ?_
      refine (zq_il hm (pc' := 83) rfl rfl rfl rfl).trans ?_
      refine (zq_iadd hm (pc' := 84) rfl rfl rfl).trans ?_
      refine (zq_ia hm (v := (σ 28 (zw ((zw (y1 * 8)) + y5)))) (pc' := 85) rfl lay_28 (zsn rfl) rfl).trans (zite ?_ rfl)
      refine (zJ_n rfl).trans ?_
      refine (zq_iadd hm (pc' := 86) rfl rfl rfl).trans ?_
      refine (zq_il hm (pc' := 88) rfl rfl rfl rfl).trans ?_
      refine (zq_ic hm (pc' := 89) rfl rfl rfl rfl).trans ?_
      refine (zq_iadd hm (pc' := 90) rfl rfl rfl).trans ?_
      refine (zq_v0 hm (pc' := 93) rfl rfl rfl (cls_27_5) rfl rfl).trans (zCV_c rfl (fun s101 => ?_))
      refine (zJ_n rfl).trans ?_
      refine (zq_iinc hm (ls' := [some (.inl (some 27)), some (.inr (.inl y1)), some (.inr (.inl y2)), some (.inr (.inl y3)), some (.inr (.inl y4)), some (.inr (.inl (zw (y5 + 1))))]) (pc' := 96) rfl rfl rfl rfl rfl rfl).trans ?_
      exact (zc_goto hm rfl rfl).trans rfl
    · refine (zJ_n rfl).trans ?_
      refine (zq_iinc hm (ls' := [some (.inl (some 27)), some (.inr (.inl y1)), some (.inr (.inl y2)), some (.inr (.inl y3)), some (.inr (.inl y4)), some (.inr (.inl (zw (y5 + 1))))]) (pc' := 96) rfl rfl rfl rfl rfl rfl).trans ?_
      exact (zc_goto hm rfl rfl).trans rfl
  · refine (zJ_n rfl).trans ?_
    exact zq_rv hm rfl
set_option maxRecDepth 100000 in
set_option maxHeartbeats 4000000 in
theorem e_X5_finish (d : Nat) (x1 : Int) (σ : zF) : zx (d + 1) 51 [.inl (some 27), .inr (.inl x1)] σ = (
if x1 < (σ 27 5) then (
if 0 ≤ (5 : Int) ∧ 0 ≤ (0 : Int) ∧ 0 ≤ (0 : Int) ∧ (0 : Int) + 5 ≤ 5 ∧ (0 : Int) + 5 ≤ 5 then (
zrv (zcpy (zset σ 27 5 x1) 29 0 30 0 5)) else (
none)) else (
zrv σ)) := by
  unfold zx
  have hm := zexec_m zX2 zMT d
  refine (zexec_eq mt_51 _ rfl (LAY, σ) 0).trans ?_
  show zrunL zX2 (zexec zX2 zMT d) K_X5_finish U_X5_finish 0 [some (.inl (some 27)), some (.inr (.inl x1))] [] (LAY, σ) = _
  refine (zq_iln hm (pc' := 1) rfl rfl rfl rfl).trans ?_
  refine (zq_aln hm (pc' := 2) rfl rfl rfl rfl).trans ?_
  refine (zq_gf hm (v := (σ 27 5)) (pc' := 5) rfl lay_27 rfl rfl rfl).trans ?_
  refine (zJ_n rfl).trans ?_
  refine (zq_ige hm (pc' := 8) rfl rfl).trans (zite ?_ ?_)
  · refine (zJ_n rfl).trans ?_
    refine (zq_aln hm (pc' := 9) rfl rfl rfl rfl).trans ?_
    refine (zq_iln hm (pc' := 10) rfl rfl rfl rfl).trans ?_
    refine (zq_pf hm (pc' := 13) rfl lay_27 rfl rfl rfl).trans ?_
    refine (zJ_n rfl).trans ?_
    refine (zq_aln hm (pc' := 14) rfl rfl rfl rfl).trans ?_
    refine (zq_gr hm (pc' := 17) rfl lay_27 rfl rfl).trans ?_
    refine (zJ_n rfl).trans ?_
    refine (zq_ic hm (pc' := 18) rfl rfl rfl rfl).trans ?_
    refine (zq_aln hm (pc' := 19) rfl rfl rfl rfl).trans ?_
    refine (zq_gr hm (pc' := 22) rfl lay_27 rfl rfl).trans ?_
    refine (zJ_n rfl).trans ?_
    refine (zq_ic hm (pc' := 23) rfl rfl rfl rfl).trans ?_
    refine (zq_ic hm (pc' := 24) rfl rfl rfl rfl).trans ?_
    refine (zq_arc hm (pc' := 27) rfl rfl rfl lay_29 lay_30 rfl rfl).trans (zite ?_ rfl)
    refine (zJ_n rfl).trans ?_
    exact zq_rv hm rfl
  · refine (zJ_n rfl).trans ?_
    exact zq_rv hm rfl
noncomputable def P_X6_fewestThanks_27 (d : Nat) (y1 : Int) (y2 : Int) (y3 : Int) (y4 : Int) (σ : zF) : Option zR := zrunL zX2 (zexec zX2 zMT d) K_X6_fewestThanks U_X6_fewestThanks 27 [some (.inl (some 24)), some (.inr (.inl y1)), some (.inr (.inl y2)), some (.inr (.inl y3)), some (.inr (.inl y4))] [] (LAY, σ)
set_option maxRecDepth 100000 in
set_option maxHeartbeats 4000000 in
theorem e_X6_fewestThanks (d : Nat) (x1 : Int) (x2 : Int) (x3 : Int) (σ : zF) : zx (d + 1) 53 [.inl (some 24), .inr (.inl x1), .inr (.inl x2), .inr (.inl x3)] σ = (
zCI LAY (zx d 27 [.inl (some 1), .inr (.inl x1), .inr (.inl x2), .inr (.inl (-1))] σ) fun r2 s1 =>
if r2 = 0 then (
zri (-2) s1) else (
zCV LAY (zx d 87 [.inl (some 17), .inr (.inl (-1))] s1) fun s3 =>
P_X6_fewestThanks_27 d x1 x2 x3 0 s3)) := by
  unfold zx
  have hm := zexec_m zX2 zMT d
  refine (zexec_eq mt_53 _ rfl (LAY, σ) 0).trans ?_
  show zrunL zX2 (zexec zX2 zMT d) K_X6_fewestThanks U_X6_fewestThanks 0 [some (.inl (some 24)), some (.inr (.inl x1)), some (.inr (.inl x2)), some (.inr (.inl x3)), none] [] (LAY, σ) = _
  refine (zq_aln hm (pc' := 1) rfl rfl rfl rfl).trans ?_
  refine (zq_gr hm (pc' := 4) rfl lay_24 rfl rfl).trans ?_
  refine (zJ_n rfl).trans ?_
  refine (zq_iln hm (pc' := 5) rfl rfl rfl rfl).trans ?_
  refine (zq_iln hm (pc' := 6) rfl rfl rfl rfl).trans ?_
  refine (zq_ic hm (pc' := 7) rfl rfl rfl rfl).trans ?_
  refine (zq_v1 hm (pc' := 10) rfl rfl rfl (cls_1_3) rfl rfl).trans (zCI_c rfl (fun r2 s1 => ?_))
  refine (zJ_n rfl).trans ?_
  refine (zq_zne hm (pc' := 13) rfl rfl).trans (zite ?_ ?_)
  · refine (zJ_n rfl).trans ?_
    refine (zq_bi hm (pc' := 15) rfl rfl rfl rfl).trans ?_
    exact zq_ri hm rfl rfl
  · refine (zJ_n rfl).trans ?_
    refine (zq_aln hm (pc' := 17) rfl rfl rfl rfl).trans ?_
    refine (zq_gr hm (pc' := 20) rfl lay_24 rfl rfl).trans ?_
    refine (zJ_n rfl).trans ?_
    refine (zq_ic hm (pc' := 21) rfl rfl rfl rfl).trans ?_
    refine (zq_v0 hm (pc' := 24) rfl rfl rfl (cls_17_9) rfl rfl).trans (zCV_c rfl (fun s3 => ?_))
    refine (zJ_n rfl).trans ?_
    refine (zq_ic hm (pc' := 25) rfl rfl rfl rfl).trans ?_
    exact (zc_is hm (ls' := [some (.inl (some 24)), some (.inr (.inl x1)), some (.inr (.inl x2)), some (.inr (.inl x3)), some (.inr (.inl 0))]) (pc' := 27) rfl rfl rfl rfl).trans rfl
set_option maxRecDepth 100000 in
set_option maxHeartbeats 4000000 in
theorem e_X6_fewestThanks_27 (d : Nat) (y1 : Int) (y2 : Int) (y3 : Int) (y4 : Int) (σ : zF) : P_X6_fewestThanks_27 d y1 y2 y3 y4 σ = (
if (3 : Int) < y4 then (
zri (-2) σ) else (
zCI LAY (zx d 54 [.inl (some 24), .inr (.inl y4), .inr (.inl y1), .inr (.inl y2), .inr (.inl y3)] σ) fun r102 s101 =>
if r102 = 0 then (
P_X6_fewestThanks_27 d y1 y2 y3 (zw (y4 + 1)) s101) else (
zri y4 s101))) := by
  have hm := zexec_m zX2 zMT d
  show zrunL zX2 (zexec zX2 zMT d) K_X6_fewestThanks U_X6_fewestThanks 27 [some (.inl (some 24)), some (.inr (.inl y1)), some (.inr (.inl y2)), some (.inr (.inl y3)), some (.inr (.inl y4))] [] (LAY, σ) = _
  refine (zq_il hm (pc' := 29) rfl rfl rfl rfl).trans ?_
  refine (zq_ic hm (pc' := 30) rfl rfl rfl rfl).trans ?_
  refine (zq_igt hm (pc' := 33) rfl rfl).trans (zite ?_ ?_)
  · refine (zJ_n rfl).trans ?_
    refine (zq_bi hm (pc' := 56) rfl rfl rfl rfl).trans ?_
    exact zq_ri hm rfl rfl
  · refine (zJ_n rfl).trans ?_
    refine (zq_aln hm (pc' := 34) rfl rfl rfl rfl).trans ?_
    refine (zq_il hm (pc' := 36) rfl rfl rfl rfl).trans ?_
    refine (zq_iln hm (pc' := 37) rfl rfl rfl rfl).trans ?_
    refine (zq_iln hm (pc' := 38) rfl rfl rfl rfl).trans ?_
    refine (zq_iln hm (pc' := 39) rfl rfl rfl rfl).trans ?_
    refine (zq_v1 hm (pc' := 42) rfl rfl rfl (cls_24_6) rfl rfl).trans (zCI_c rfl (fun r102 s101 => ?_))
    refine (zJ_n rfl).trans ?_
    refine (zq_zeq hm (pc' := 45) rfl rfl).trans (zite ?_ ?_)
    · refine (zJ_n rfl).trans ?_
      refine (zq_iinc hm (ls' := [some (.inl (some 24)), some (.inr (.inl y1)), some (.inr (.inl y2)), some (.inr (.inl y3)), some (.inr (.inl (zw (y4 + 1))))]) (pc' := 51) rfl rfl rfl rfl rfl rfl).trans ?_
      exact (zc_goto hm rfl rfl).trans rfl
    · refine (zJ_n rfl).trans ?_
      refine (zq_il hm (pc' := 47) rfl rfl rfl rfl).trans ?_
      exact zq_ri hm rfl rfl
noncomputable def P_X6_findThanks_11 (d : Nat) (y1 : Int) (y2 : Int) (y3 : Int) (y4 : Int) (y5 : Int) (σ : zF) : Option zR := zrunL zX2 (zexec zX2 zMT d) K_X6_findThanks U_X6_findThanks 11 [some (.inl (some 24)), some (.inr (.inl y1)), some (.inr (.inl y2)), some (.inr (.inl y3)), some (.inr (.inl y4)), some (.inr (.inl y5)), none] [] (LAY, σ)
noncomputable def P_X6_findThanks_29 (d : Nat) (y1 : Int) (y2 : Int) (y3 : Int) (y4 : Int) (y5 : Int) (y6 : Int) (σ : zF) : Option zR := zrunL zX2 (zexec zX2 zMT d) K_X6_findThanks U_X6_findThanks 29 [some (.inl (some 24)), some (.inr (.inl y1)), some (.inr (.inl y2)), some (.inr (.inl y3)), some (.inr (.inl y4)), some (.inr (.inl y5)), some (.inr (.inl y6))] [] (LAY, σ)
set_option maxRecDepth 100000 in
set_option maxHeartbeats 4000000 in
theorem e_X6_findThanks (d : Nat) (x1 : Int) (x2 : Int) (x3 : Int) (x4 : Int) (σ : zF) : zx (d + 1) 54 [.inl (some 24), .inr (.inl x1), .inr (.inl x2), .inr (.inl x3), .inr (.inl x4)] σ = (
zCV LAY (zx d 255 [.inl (some 25), .inr (.inl 0)] σ) fun s1 =>
P_X6_findThanks_11 d x1 x2 x3 x4 0 s1) := by
  unfold zx
  have hm := zexec_m zX2 zMT d
  refine (zexec_eq mt_54 _ rfl (LAY, σ) 0).trans ?_
  show zrunL zX2 (zexec zX2 zMT d) K_X6_findThanks U_X6_findThanks 0 [some (.inl (some 24)), some (.inr (.inl x1)), some (.inr (.inl x2)), some (.inr (.inl x3)), some (.inr (.inl x4)), none, none] [] (LAY, σ) = _
  refine (zq_aln hm (pc' := 1) rfl rfl rfl rfl).trans ?_
  refine (zq_gr hm (pc' := 4) rfl lay_24 rfl rfl).trans ?_
  refine (zJ_n rfl).trans ?_
  refine (zq_ic hm (pc' := 5) rfl rfl rfl rfl).trans ?_
  refine (zq_s0 hm (pc' := 8) rfl rfl rfl rfl rfl rfl).trans (zCV_c rfl (fun s1 => ?_))
  refine (zJ_n rfl).trans ?_
  refine (zq_ic hm (pc' := 9) rfl rfl rfl rfl).trans ?_
  exact (zc_is hm (ls' := [some (.inl (some 24)), some (.inr (.inl x1)), some (.inr (.inl x2)), some (.inr (.inl x3)), some (.inr (.inl x4)), some (.inr (.inl 0)), none]) (pc' := 11) rfl rfl rfl rfl).trans rfl
set_option maxRecDepth 100000 in
set_option maxHeartbeats 4000000 in
theorem e_X6_findThanks_11 (d : Nat) (y1 : Int) (y2 : Int) (y3 : Int) (y4 : Int) (y5 : Int) (σ : zF) : P_X6_findThanks_11 d y1 y2 y3 y4 y5 σ = (
if y5 < 2000 then (
zCV LAY (zx d 88 [.inl (some 17)] σ) fun s101 =>
P_X6_findThanks_29 d y1 y2 y3 y4 y5 0 s101) else (
zri 0 σ)) := by
  have hm := zexec_m zX2 zMT d
  show zrunL zX2 (zexec zX2 zMT d) K_X6_findThanks U_X6_findThanks 11 [some (.inl (some 24)), some (.inr (.inl y1)), some (.inr (.inl y2)), some (.inr (.inl y3)), some (.inr (.inl y4)), some (.inr (.inl y5)), none] [] (LAY, σ) = _
  refine (zq_il hm (pc' := 13) rfl rfl rfl rfl).trans ?_
  refine (zq_si hm (pc' := 16) rfl rfl rfl rfl).trans ?_
  refine (zq_ige hm (pc' := 19) rfl rfl).trans (zite ?_ ?_)
  · refine (zJ_n rfl).trans ?_
    refine (zq_aln hm (pc' := 20) rfl rfl rfl rfl).trans ?_
    refine (zq_gr hm (pc' := 23) rfl lay_24 rfl rfl).trans ?_
    refine (zJ_n rfl).trans ?_
    refine (zq_v0 hm (pc' := 26) rfl rfl rfl (cls_17_9) rfl rfl).trans (zCV_c rfl (fun s101 => ?_))
    refine (zJ_n rfl).trans ?_
    refine (zq_ic hm (pc' := 27) rfl rfl rfl rfl).trans ?_
    exact (zc_is hm (ls' := [some (.inl (some 24)), some (.inr (.inl y1)), some (.inr (.inl y2)), some (.inr (.inl y3)), some (.inr (.inl y4)), some (.inr (.inl y5)), some (.inr (.inl 0))]) (pc' := 29) rfl rfl rfl rfl).trans rfl
  · refine (zJ_n rfl).trans ?_
    refine (zq_ic hm (pc' := 105) rfl rfl rfl rfl).trans ?_
    exact (zq_rb hm rfl rfl).trans (zif1 (by decide))
set_option maxRecDepth 100000 in
set_option maxHeartbeats 4000000 in
theorem e_X6_findThanks_29 (d : Nat) (y1 : Int) (y2 : Int) (y3 : Int) (y4 : Int) (y5 : Int) (y6 : Int) (σ : zF) : P_X6_findThanks_29 d y1 y2 y3 y4 y5 y6 σ = (
if y6 < y1 then (
if 0 ≤ y6 ∧ y6 < 3 then (
zCV LAY (zx d 25 [.inl (some 1), .inl (some 18), .inr (.inl (σ 25 y6)), .inr (.inl 1)] σ) fun s104 =>
P_X6_findThanks_29 d y1 y2 y3 y4 y5 (zw (y6 + 1)) s104) else (
none)) else (
zCV LAY (zx d 94 [.inl (some 17), .inr (.inl y2)] σ) fun s101 =>
if 0 ≤ y3 ∧ y3 < 8 then (
if y4 < (s101 23 y3) then (
zCI LAY (zx d 55 [.inl (some 24), .inr (.inl y1)] s101) fun r103 s102 =>
if r103 = 0 then (
zri 0 s102) else (
P_X6_findThanks_11 d y1 y2 y3 y4 (zw (y5 + 1)) s102)) else (
zri 1 s101)) else (
none))) := by
  have hm := zexec_m zX2 zMT d
  show zrunL zX2 (zexec zX2 zMT d) K_X6_findThanks U_X6_findThanks 29 [some (.inl (some 24)), some (.inr (.inl y1)), some (.inr (.inl y2)), some (.inr (.inl y3)), some (.inr (.inl y4)), some (.inr (.inl y5)), some (.inr (.inl y6))] [] (LAY, σ) = _
  refine (zq_il hm (pc' := 31) rfl rfl rfl rfl).trans ?_
  refine (zq_iln hm (pc' := 32) rfl rfl rfl rfl).trans ?_
  refine (zq_ige hm (pc' := 35) rfl rfl).trans (zite ?_ ?_)
  · refine (zJ_n rfl).trans ?_
    refine (zq_aln hm (pc' := 36) rfl rfl rfl rfl).trans ?_
    refine (zq_gr hm (pc' := 39) rfl lay_24 rfl rfl).trans ?_
    refine (zJ_n rfl).trans ?_
    refine (zq_aln hm (pc' := 40) rfl rfl rfl rfl).trans ?_
    refine (zq_gr hm (pc' := 43) rfl lay_24 rfl rfl).trans ?_
    refine (zJ_n rfl).trans ?_
    refine (zq_gr hm (pc' := 46) rfl lay_17 rfl rfl).trans ?_
    refine (zJ_n rfl).trans ?_
    refine (zq_aln hm (pc' := 47) rfl rfl rfl rfl).trans ?_
    refine (zq_gr hm (pc' := 50) rfl lay_24 rfl rfl).trans ?_
    refine (zJ_n rfl).trans ?_
    refine (zq_il hm (pc' := 52) rfl rfl rfl rfl).trans ?_
    refine (zq_ia hm (v := (σ 25 y6)) (pc' := 53) rfl lay_25 rfl rfl).trans (zite ?_ rfl)
    refine (zJ_n rfl).trans ?_
    refine (zq_ic hm (pc' := 54) rfl rfl rfl rfl).trans ?_
    refine (zq_v0 hm (pc' := 57) rfl rfl rfl (cls_1_3) rfl rfl).trans (zCV_c rfl (fun s104 => ?_))
    refine (zJ_n rfl).trans ?_
    refine (zq_iinc hm (ls' := [some (.inl (some 24)), some (.inr (.inl y1)), some (.inr (.inl y2)), some (.inr (.inl y3)), some (.inr (.inl y4)), some (.inr (.inl y5)), some (.inr (.inl (zw (y6 + 1))))]) (pc' := 60) rfl rfl rfl rfl rfl rfl).trans ?_
    exact (zc_goto hm rfl rfl).trans rfl
  · refine (zJ_n rfl).trans ?_
    refine (zq_aln hm (pc' := 64) rfl rfl rfl rfl).trans ?_
    refine (zq_gr hm (pc' := 67) rfl lay_24 rfl rfl).trans ?_
    refine (zJ_n rfl).trans ?_
    refine (zq_iln hm (pc' := 68) rfl rfl rfl rfl).trans ?_
    refine (zq_v0 hm (pc' := 71) rfl rfl rfl (cls_17_9) rfl rfl).trans (zCV_c rfl (fun s101 => ?_))
    refine (zJ_n rfl).trans ?_
    refine (zq_aln hm (pc' := 72) rfl rfl rfl rfl).trans ?_
    refine (zq_gr hm (pc' := 75) rfl lay_24 rfl rfl).trans ?_
    refine (zJ_n rfl).trans ?_
    refine (zq_gr hm (pc' := 78) rfl lay_17 rfl rfl).trans ?_
    refine (zJ_n rfl).trans ?_
    refine (zq_iln hm (pc' := 79) rfl rfl rfl rfl).trans ?_
    refine (zq_ia hm (v := (s101 23 y3)) (pc' := 80) rfl lay_23 rfl rfl).trans (zite ?_ rfl)
    refine (zJ_n rfl).trans ?_
    refine (zq_il hm (pc' := 82) rfl rfl rfl rfl).trans ?_
    refine (zq_igt hm (pc' := 85) rfl rfl).trans (zite ?_ ?_)
    · refine (zJ_n rfl).trans ?_
      refine (zq_aln hm (pc' := 88) rfl rfl rfl rfl).trans ?_
      refine (zq_iln hm (pc' := 89) rfl rfl rfl rfl).trans ?_
      refine (zq_v1 hm (pc' := 92) rfl rfl rfl (cls_24_6) rfl rfl).trans (zCI_c rfl (fun r103 s102 => ?_))
      refine (zJ_n rfl).trans ?_
      refine (zq_zne hm (pc' := 95) rfl rfl).trans (zite ?_ ?_)
      · refine (zJ_n rfl).trans ?_
        refine (zq_goto hm rfl rfl).trans ?_
        refine (zq_ic hm (pc' := 105) rfl rfl rfl rfl).trans ?_
        exact (zq_rb hm rfl rfl).trans (zif1 (by decide))
      · refine (zJ_n rfl).trans ?_
        refine (zq_iinc hm (ls' := [some (.inl (some 24)), some (.inr (.inl y1)), some (.inr (.inl y2)), some (.inr (.inl y3)), some (.inr (.inl y4)), some (.inr (.inl (zw (y5 + 1)))), some (.inr (.inl y6))]) (pc' := 101) rfl rfl rfl rfl rfl rfl).trans ?_
        exact (zc_goto hm rfl rfl).trans rfl
    · refine (zJ_n rfl).trans ?_
      refine (zq_ic hm (pc' := 86) rfl rfl rfl rfl).trans ?_
      exact (zq_rb hm rfl rfl).trans (zif1 (by decide))
noncomputable def P_X6_nextPicks_4 (d : Nat) (y1 : Int) (y2 : Int) (σ : zF) : Option zR := zrunL zX2 (zexec zX2 zMT d) K_X6_nextPicks U_X6_nextPicks 4 [some (.inl (some 24)), some (.inr (.inl y1)), some (.inr (.inl y2)), none, none] [] (LAY, σ)
noncomputable def P_X6_nextPicks_31 (d : Nat) (y1 : Int) (y2 : Int) (y3 : Int) (σ : zF) : Option zR := zrunL zX2 (zexec zX2 zMT d) K_X6_nextPicks U_X6_nextPicks 31 [some (.inl (some 24)), some (.inr (.inl y1)), none, some (.inr (.inl y2)), some (.inr (.inl y3))] [] (LAY, σ)
set_option maxRecDepth 100000 in
set_option maxHeartbeats 4000000 in
theorem e_X6_nextPicks (d : Nat) (x1 : Int) (σ : zF) : zx (d + 1) 55 [.inl (some 24), .inr (.inl x1)] σ = (
P_X6_nextPicks_4 d x1 (zw (x1 - 1)) σ) := by
  unfold zx
  have hm := zexec_m zX2 zMT d
  refine (zexec_eq mt_55 _ rfl (LAY, σ) 0).trans ?_
  show zrunL zX2 (zexec zX2 zMT d) K_X6_nextPicks U_X6_nextPicks 0 [some (.inl (some 24)), some (.inr (.inl x1)), none, none, none] [] (LAY, σ) = _
  refine (zq_iln hm (pc' := 1) rfl rfl rfl rfl).trans ?_
  refine (zq_ic hm (pc' := 2) rfl rfl rfl rfl).trans ?_
  refine (zq_isub hm (pc' := 3) rfl rfl rfl).trans ?_
  exact (zc_isn hm (ls' := [some (.inl (some 24)), some (.inr (.inl x1)), some (.inr (.inl (zw (x1 - 1)))), none, none]) (pc' := 4) rfl rfl rfl rfl).trans rfl
set_option maxRecDepth 100000 in
set_option maxHeartbeats 4000000 in
theorem e_X6_nextPicks_4 (d : Nat) (y1 : Int) (y2 : Int) (σ : zF) : P_X6_nextPicks_4 d y1 y2 σ = (
if y2 < 0 then (
zri 0 σ) else (
if 0 ≤ y2 ∧ y2 < 3 then (
if zw ((σ 25 y2) + 1) < (σ 1 0) then (
P_X6_nextPicks_31 d y1 (zw ((σ 25 y2) + 1)) y2 σ) else (
P_X6_nextPicks_4 d y1 (zw (y2 + (-1))) σ)) else (
none))) := by
  have hm := zexec_m zX2 zMT d
  show zrunL zX2 (zexec zX2 zMT d) K_X6_nextPicks U_X6_nextPicks 4 [some (.inl (some 24)), some (.inr (.inl y1)), some (.inr (.inl y2)), none, none] [] (LAY, σ) = _
  refine (zq_iln hm (pc' := 5) rfl rfl rfl rfl).trans ?_
  refine (zq_zlt hm (pc' := 8) rfl rfl).trans (zite ?_ ?_)
  · refine (zJ_n rfl).trans ?_
    refine (zq_ic hm (pc' := 60) rfl rfl rfl rfl).trans ?_
    exact (zq_rb hm rfl rfl).trans (zif1 (by decide))
  · refine (zJ_n rfl).trans ?_
    refine (zq_aln hm (pc' := 9) rfl rfl rfl rfl).trans ?_
    refine (zq_gr hm (pc' := 12) rfl lay_24 rfl rfl).trans ?_
    refine (zJ_n rfl).trans ?_
    refine (zq_iln hm (pc' := 13) rfl rfl rfl rfl).trans ?_
    refine (zq_ia hm (v := (σ 25 y2)) (pc' := 14) rfl lay_25 rfl rfl).trans (zite ?_ rfl)
    refine (zJ_n rfl).trans ?_
    refine (zq_ic hm (pc' := 15) rfl rfl rfl rfl).trans ?_
    refine (zq_iadd hm (pc' := 16) rfl rfl rfl).trans ?_
    refine (zq_isn hm (ls' := [some (.inl (some 24)), some (.inr (.inl y1)), some (.inr (.inl y2)), some (.inr (.inl (zw ((σ 25 y2) + 1)))), none]) (pc' := 17) rfl rfl rfl rfl).trans ?_
    refine (zq_iln hm (pc' := 18) rfl rfl rfl rfl).trans ?_
    refine (zq_aln hm (pc' := 19) rfl rfl rfl rfl).trans ?_
    refine (zq_gr hm (pc' := 22) rfl lay_24 rfl rfl).trans ?_
    refine (zJ_n rfl).trans ?_
    refine (zq_gf hm (v := (σ 1 0)) (pc' := 25) rfl lay_1 rfl rfl rfl).trans ?_
    refine (zJ_n rfl).trans ?_
    refine (zq_ige hm (pc' := 28) rfl rfl).trans (zite ?_ ?_)
    · refine (zJ_n rfl).trans ?_
      refine (zq_iln hm (pc' := 29) rfl rfl rfl rfl).trans ?_
      exact (zc_is hm (ls' := [some (.inl (some 24)), some (.inr (.inl y1)), some (.inr (.inl y2)), some (.inr (.inl (zw ((σ 25 y2) + 1)))), some (.inr (.inl y2))]) (pc' := 31) rfl rfl rfl rfl).trans rfl
    · refine (zJ_n rfl).trans ?_
      refine (zq_iinc hm (ls' := [some (.inl (some 24)), some (.inr (.inl y1)), some (.inr (.inl (zw (y2 + (-1))))), some (.inr (.inl (zw ((σ 25 y2) + 1)))), none]) (pc' := 56) rfl rfl rfl rfl rfl rfl).trans ?_
      exact (zc_goto hm rfl rfl).trans rfl
set_option maxRecDepth 100000 in
set_option maxHeartbeats 4000000 in
theorem e_X6_nextPicks_31 (d : Nat) (y1 : Int) (y2 : Int) (y3 : Int) (σ : zF) : P_X6_nextPicks_31 d y1 y2 y3 σ = (
if y3 < y1 then (
if 0 ≤ y3 ∧ y3 < 3 then (
P_X6_nextPicks_31 d y1 y2 (zw (y3 + 1)) (zset σ 25 y3 y2)) else (
none)) else (
zri 1 σ)) := by
  have hm := zexec_m zX2 zMT d
  show zrunL zX2 (zexec zX2 zMT d) K_X6_nextPicks U_X6_nextPicks 31 [some (.inl (some 24)), some (.inr (.inl y1)), none, some (.inr (.inl y2)), some (.inr (.inl y3))] [] (LAY, σ) = _
  refine (zq_il hm (pc' := 33) rfl rfl rfl rfl).trans ?_
  refine (zq_iln hm (pc' := 34) rfl rfl rfl rfl).trans ?_
  refine (zq_ige hm (pc' := 37) rfl rfl).trans (zite ?_ ?_)
  · refine (zJ_n rfl).trans ?_
    refine (zq_aln hm (pc' := 38) rfl rfl rfl rfl).trans ?_
    refine (zq_gr hm (pc' := 41) rfl lay_24 rfl rfl).trans ?_
    refine (zJ_n rfl).trans ?_
    refine (zq_il hm (pc' := 43) rfl rfl rfl rfl).trans ?_
    refine (zq_iln hm (pc' := 44) rfl rfl rfl rfl).trans ?_
    refine (zq_ist hm (pc' := 45) rfl lay_25 rfl).trans (zite ?_ rfl)
    refine (zJ_n rfl).trans ?_
    refine (zq_iinc hm (ls' := [some (.inl (some 24)), some (.inr (.inl y1)), none, some (.inr (.inl y2)), some (.inr (.inl (zw (y3 + 1))))]) (pc' := 48) rfl rfl rfl rfl rfl rfl).trans ?_
    exact (zc_goto hm rfl rfl).trans rfl
  · refine (zJ_n rfl).trans ?_
    refine (zq_ic hm (pc' := 52) rfl rfl rfl rfl).trans ?_
    exact (zq_rb hm rfl rfl).trans (zif1 (by decide))
noncomputable def P_X6_bestThanks_21 (d : Nat) (y1 : Int) (σ : zF) : Option zR := zrunL zX2 (zexec zX2 zMT d) K_X6_bestThanks U_X6_bestThanks 21 [some (.inl (some 24)), some (.inr (.inl y1)), none] [] (LAY, σ)
set_option maxRecDepth 100000 in
set_option maxHeartbeats 4000000 in
theorem e_X6_bestThanks (d : Nat) (σ : zF) : zx (d + 1) 56 [.inl (some 24)] σ = (
zCV LAY (zx d 87 [.inl (some 17), .inr (.inl (-1))] (zset (zset σ 24 4 1000000) 24 5 (-1))) fun s1 =>
P_X6_bestThanks_21 d 0 s1) := by
  unfold zx
  have hm := zexec_m zX2 zMT d
  refine (zexec_eq mt_56 _ rfl (LAY, σ) 0).trans ?_
  show zrunL zX2 (zexec zX2 zMT d) K_X6_bestThanks U_X6_bestThanks 0 [some (.inl (some 24)), none, none] [] (LAY, σ) = _
  refine (zq_aln hm (pc' := 1) rfl rfl rfl rfl).trans ?_
  refine (zq_ld hm (pc' := 3) rfl rfl rfl rfl).trans ?_
  refine (zq_pf hm (pc' := 6) rfl lay_24 rfl rfl rfl).trans ?_
  refine (zJ_n rfl).trans ?_
  refine (zq_aln hm (pc' := 7) rfl rfl rfl rfl).trans ?_
  refine (zq_ic hm (pc' := 8) rfl rfl rfl rfl).trans ?_
  refine (zq_pf hm (pc' := 11) rfl lay_24 rfl rfl rfl).trans ?_
  refine (zJ_n rfl).trans ?_
  refine (zq_aln hm (pc' := 12) rfl rfl rfl rfl).trans ?_
  refine (zq_gr hm (pc' := 15) rfl lay_24 rfl rfl).trans ?_
  refine (zJ_n rfl).trans ?_
  refine (zq_ic hm (pc' := 16) rfl rfl rfl rfl).trans ?_
  refine (zq_v0 hm (pc' := 19) rfl rfl rfl (cls_17_9) rfl rfl).trans (zCV_c rfl (fun s1 => ?_))
  refine (zJ_n rfl).trans ?_
  refine (zq_ic hm (pc' := 20) rfl rfl rfl rfl).trans ?_
  exact (zc_isn hm (ls' := [some (.inl (some 24)), some (.inr (.inl 0)), none]) (pc' := 21) rfl rfl rfl rfl).trans rfl
set_option maxRecDepth 100000 in
set_option maxHeartbeats 4000000 in
theorem e_X6_bestThanks_21 (d : Nat) (y1 : Int) (σ : zF) : P_X6_bestThanks_21 d y1 σ = (
if y1 < (σ 1 0) then (
zCV LAY (zx d 88 [.inl (some 17)] σ) fun s101 =>
zCV LAY (zx d 25 [.inl (some 1), .inl (some 18), .inr (.inl y1), .inr (.inl 1)] s101) fun s102 =>
zCI LAY (zx d 93 [.inl (some 17)] s102) fun r104 s103 =>
if r104 < (s103 24 4) then (
P_X6_bestThanks_21 d (zw (y1 + 1)) (zset (zset s103 24 4 r104) 24 5 y1)) else (
P_X6_bestThanks_21 d (zw (y1 + 1)) s103)) else (
zrv σ)) := by
  have hm := zexec_m zX2 zMT d
  show zrunL zX2 (zexec zX2 zMT d) K_X6_bestThanks U_X6_bestThanks 21 [some (.inl (some 24)), some (.inr (.inl y1)), none] [] (LAY, σ) = _
  refine (zq_iln hm (pc' := 22) rfl rfl rfl rfl).trans ?_
  refine (zq_aln hm (pc' := 23) rfl rfl rfl rfl).trans ?_
  refine (zq_gr hm (pc' := 26) rfl lay_24 rfl rfl).trans ?_
  refine (zJ_n rfl).trans ?_
  refine (zq_gf hm (v := (σ 1 0)) (pc' := 29) rfl lay_1 rfl rfl rfl).trans ?_
  refine (zJ_n rfl).trans ?_
  refine (zq_ige hm (pc' := 32) rfl rfl).trans (zite ?_ ?_)
  · refine (zJ_n rfl).trans ?_
    refine (zq_aln hm (pc' := 33) rfl rfl rfl rfl).trans ?_
    refine (zq_gr hm (pc' := 36) rfl lay_24 rfl rfl).trans ?_
    refine (zJ_n rfl).trans ?_
    refine (zq_v0 hm (pc' := 39) rfl rfl rfl (cls_17_9) rfl rfl).trans (zCV_c rfl (fun s101 => ?_))
    refine (zJ_n rfl).trans ?_
    refine (zq_aln hm (pc' := 40) rfl rfl rfl rfl).trans ?_
    refine (zq_gr hm (pc' := 43) rfl lay_24 rfl rfl).trans ?_
    refine (zJ_n rfl).trans ?_
    refine (zq_aln hm (pc' := 44) rfl rfl rfl rfl).trans ?_
    refine (zq_gr hm (pc' := 47) rfl lay_24 rfl rfl).trans ?_
    refine (zJ_n rfl).trans ?_
    refine (zq_gr hm (pc' := 50) rfl lay_17 rfl rfl).trans ?_
    refine (zJ_n rfl).trans ?_
    refine (zq_iln hm (pc' := 51) rfl rfl rfl rfl).trans ?_
    refine (zq_ic hm (pc' := 52) rfl rfl rfl rfl).trans ?_
    refine (zq_v0 hm (pc' := 55) rfl rfl rfl (cls_1_3) rfl rfl).trans (zCV_c rfl (fun s102 => ?_))
    refine (zJ_n rfl).trans ?_
    refine (zq_aln hm (pc' := 56) rfl rfl rfl rfl).trans ?_
    refine (zq_gr hm (pc' := 59) rfl lay_24 rfl rfl).trans ?_
    refine (zJ_n rfl).trans ?_
    refine (zq_v1 hm (pc' := 62) rfl rfl rfl (cls_17_9) rfl rfl).trans (zCI_c rfl (fun r104 s103 => ?_))
    refine (zJ_n rfl).trans ?_
    refine (zq_isn hm (ls' := [some (.inl (some 24)), some (.inr (.inl y1)), some (.inr (.inl r104))]) (pc' := 63) rfl rfl rfl rfl).trans ?_
    refine (zq_iln hm (pc' := 64) rfl rfl rfl rfl).trans ?_
    refine (zq_aln hm (pc' := 65) rfl rfl rfl rfl).trans ?_
    refine (zq_gf hm (v := (s103 24 4)) (pc' := 68) rfl lay_24 rfl rfl rfl).trans ?_
    refine (zJ_n rfl).trans ?_
    refine (zq_ige hm (pc' := 71) rfl rfl).trans (zite ?_ ?_)
    · refine (zJ_n rfl).trans ?_
      refine (zq_aln hm (pc' := 72) rfl rfl rfl rfl).trans ?_
      refine (zq_iln hm (pc' := 73) rfl rfl rfl rfl).trans ?_
      refine (zq_pf hm (pc' := 76) rfl lay_24 rfl rfl rfl).trans ?_
      refine (zJ_n rfl).trans ?_
      refine (zq_aln hm (pc' := 77) rfl rfl rfl rfl).trans ?_
      refine (zq_iln hm (pc' := 78) rfl rfl rfl rfl).trans ?_
      refine (zq_pf hm (pc' := 81) rfl lay_24 rfl rfl rfl).trans ?_
      refine (zJ_n rfl).trans ?_
      refine (zq_iinc hm (ls' := [some (.inl (some 24)), some (.inr (.inl (zw (y1 + 1)))), some (.inr (.inl r104))]) (pc' := 84) rfl rfl rfl rfl rfl rfl).trans ?_
      exact (zc_goto hm rfl rfl).trans rfl
    · refine (zJ_n rfl).trans ?_
      refine (zq_iinc hm (ls' := [some (.inl (some 24)), some (.inr (.inl (zw (y1 + 1)))), some (.inr (.inl r104))]) (pc' := 84) rfl rfl rfl rfl rfl rfl).trans ?_
      exact (zc_goto hm rfl rfl).trans rfl
  · refine (zJ_n rfl).trans ?_
    exact zq_rv hm rfl
set_option maxRecDepth 100000 in
set_option maxHeartbeats 4000000 in
theorem e_X6_perform (d : Nat) (x1 : Int) (σ : zF) : zx (d + 1) 57 [.inl (some 24), .inr (.inl x1)] σ = (
if (0 : Int) < x1 then (
if (2 : Int) = 0 then none else (
if (2 : Int) = 0 then none else (
zCV LAY (zx d 25 [.inl (some 1), .inl (some 18), .inr (.inl (zdiv (zw (x1 - 1)) 2)), .inr (.inl (zw (1 + (zrem (zw (x1 - 1)) 2))))] σ) fun s1 =>
zrv s1))) else (
zrv σ)) := by
  unfold zx
  have hm := zexec_m zX2 zMT d
  refine (zexec_eq mt_57 _ rfl (LAY, σ) 0).trans ?_
  show zrunL zX2 (zexec zX2 zMT d) K_X6_perform U_X6_perform 0 [some (.inl (some 24)), some (.inr (.inl x1))] [] (LAY, σ) = _
  refine (zq_iln hm (pc' := 1) rfl rfl rfl rfl).trans ?_
  refine (zq_zle hm (pc' := 4) rfl rfl).trans (zite ?_ ?_)
  · refine (zJ_n rfl).trans ?_
    refine (zq_aln hm (pc' := 5) rfl rfl rfl rfl).trans ?_
    refine (zq_gr hm (pc' := 8) rfl lay_24 rfl rfl).trans ?_
    refine (zJ_n rfl).trans ?_
    refine (zq_aln hm (pc' := 9) rfl rfl rfl rfl).trans ?_
    refine (zq_gr hm (pc' := 12) rfl lay_24 rfl rfl).trans ?_
    refine (zJ_n rfl).trans ?_
    refine (zq_gr hm (pc' := 15) rfl lay_17 rfl rfl).trans ?_
    refine (zJ_n rfl).trans ?_
    refine (zq_iln hm (pc' := 16) rfl rfl rfl rfl).trans ?_
    refine (zq_ic hm (pc' := 17) rfl rfl rfl rfl).trans ?_
    refine (zq_isub hm (pc' := 18) rfl rfl rfl).trans ?_
    refine (zq_ic hm (pc' := 19) rfl rfl rfl rfl).trans ?_
    refine (zq_idiv hm (pc' := 20) rfl rfl).trans (zite rfl ?_)
    refine (zJ_n rfl).trans ?_
    refine (zq_ic hm (pc' := 21) rfl rfl rfl rfl).trans ?_
    refine (zq_iln hm (pc' := 22) rfl rfl rfl rfl).trans ?_
    refine (zq_ic hm (pc' := 23) rfl rfl rfl rfl).trans ?_
    refine (zq_isub hm (pc' := 24) rfl rfl rfl).trans ?_
    refine (zq_ic hm (pc' := 25) rfl rfl rfl rfl).trans ?_
    refine (zq_irem hm (pc' := 26) rfl rfl).trans (zite rfl ?_)
    refine (zJ_n rfl).trans ?_
    refine (zq_iadd hm (pc' := 27) rfl rfl rfl).trans ?_
    refine (zq_v0 hm (pc' := 30) rfl rfl rfl (cls_1_3) rfl rfl).trans (zCV_c rfl (fun s1 => ?_))
    refine (zJ_n rfl).trans ?_
    exact zq_rv hm rfl
  · refine (zJ_n rfl).trans ?_
    exact zq_rv hm rfl
set_option maxRecDepth 100000 in
set_option maxHeartbeats 4000000 in
theorem e_X6_turns (d : Nat) (σ : zF) : zx (d + 1) 58 [.inl (some 24)] σ = (
zri (zw (1 + (zw (2 * (σ 1 0))))) σ) := by
  unfold zx
  have hm := zexec_m zX2 zMT d
  refine (zexec_eq mt_58 _ rfl (LAY, σ) 0).trans ?_
  show zrunL zX2 (zexec zX2 zMT d) K_X6_turns U_X6_turns 0 [some (.inl (some 24))] [] (LAY, σ) = _
  refine (zq_ic hm (pc' := 1) rfl rfl rfl rfl).trans ?_
  refine (zq_ic hm (pc' := 2) rfl rfl rfl rfl).trans ?_
  refine (zq_aln hm (pc' := 3) rfl rfl rfl rfl).trans ?_
  refine (zq_gr hm (pc' := 6) rfl lay_24 rfl rfl).trans ?_
  refine (zJ_n rfl).trans ?_
  refine (zq_gf hm (v := (σ 1 0)) (pc' := 9) rfl lay_1 rfl rfl rfl).trans ?_
  refine (zJ_n rfl).trans ?_
  refine (zq_imul hm (pc' := 10) rfl rfl rfl).trans ?_
  refine (zq_iadd hm (pc' := 11) rfl rfl rfl).trans ?_
  exact zq_ri hm rfl rfl
set_option maxRecDepth 100000 in
set_option maxHeartbeats 4000000 in
theorem e_X6_numberOf (d : Nat) (x0 : Int) (σ : zF) : zx (d + 1) 59 [.inr (.inl x0)] σ = (
if (2 : Int) = 0 then none else (
if (2 : Int) = 0 then none else (
zri (zw ((zw ((zw (3 * (zdiv (zw (x0 - 1)) 2))) + 1)) + (zrem (zw (x0 - 1)) 2))) σ))) := by
  unfold zx
  have hm := zexec_m zX2 zMT d
  refine (zexec_eq mt_59 _ rfl (LAY, σ) 0).trans ?_
  show zrunL zX2 (zexec zX2 zMT d) K_X6_numberOf U_X6_numberOf 0 [some (.inr (.inl x0))] [] (LAY, σ) = _
  refine (zq_ic hm (pc' := 1) rfl rfl rfl rfl).trans ?_
  refine (zq_iln hm (pc' := 2) rfl rfl rfl rfl).trans ?_
  refine (zq_ic hm (pc' := 3) rfl rfl rfl rfl).trans ?_
  refine (zq_isub hm (pc' := 4) rfl rfl rfl).trans ?_
  refine (zq_ic hm (pc' := 5) rfl rfl rfl rfl).trans ?_
  refine (zq_idiv hm (pc' := 6) rfl rfl).trans (zite rfl ?_)
  refine (zJ_n rfl).trans ?_
  refine (zq_imul hm (pc' := 7) rfl rfl rfl).trans ?_
  refine (zq_ic hm (pc' := 8) rfl rfl rfl rfl).trans ?_
  refine (zq_iadd hm (pc' := 9) rfl rfl rfl).trans ?_
  refine (zq_iln hm (pc' := 10) rfl rfl rfl rfl).trans ?_
  refine (zq_ic hm (pc' := 11) rfl rfl rfl rfl).trans ?_
  refine (zq_isub hm (pc' := 12) rfl rfl rfl).trans ?_
  refine (zq_ic hm (pc' := 13) rfl rfl rfl rfl).trans ?_
  refine (zq_irem hm (pc' := 14) rfl rfl).trans (zite rfl ?_)
  refine (zJ_n rfl).trans ?_
  refine (zq_iadd hm (pc' := 15) rfl rfl rfl).trans ?_
  exact zq_ri hm rfl rfl
noncomputable def P_X6_deedsThatFit_26 (d : Nat) (y1 : Nat) (y2 : Int) (y3 : Int) (σ : zF) : Option zR := zrunL zX2 (zexec zX2 zMT d) K_X6_deedsThatFit U_X6_deedsThatFit 26 [some (.inl (some 24)), some (.inl (some y1)), some (.inr (.inl y2)), some (.inr (.inl y3))] [] (LAY, σ)
set_option maxRecDepth 100000 in
set_option maxHeartbeats 4000000 in
theorem e_X6_deedsThatFit (d : Nat) (k : Nat) (σ : zF) : zx (d + 1) 60 [.inl (some 24), .inl (some k)] σ = (
zCI LAY (zx d 58 [.inl (some 24)] (zset (zset σ 24 4 0) 24 5 (-9))) fun r2 s1 =>
zCV LAY (zx d 87 [.inl (some 17), .inr (.inl (-1))] s1) fun s3 =>
P_X6_deedsThatFit_26 d k r2 0 s3) := by
  unfold zx
  have hm := zexec_m zX2 zMT d
  refine (zexec_eq mt_60 _ rfl (LAY, σ) 0).trans ?_
  show zrunL zX2 (zexec zX2 zMT d) K_X6_deedsThatFit U_X6_deedsThatFit 0 [some (.inl (some 24)), some (.inl (some k)), none, none] [] (LAY, σ) = _
  refine (zq_aln hm (pc' := 1) rfl rfl rfl rfl).trans ?_
  refine (zq_ic hm (pc' := 2) rfl rfl rfl rfl).trans ?_
  refine (zq_pf hm (pc' := 5) rfl lay_24 rfl rfl rfl).trans ?_
  refine (zJ_n rfl).trans ?_
  refine (zq_aln hm (pc' := 6) rfl rfl rfl rfl).trans ?_
  refine (zq_bi hm (pc' := 8) rfl rfl rfl rfl).trans ?_
  refine (zq_pf hm (pc' := 11) rfl lay_24 rfl rfl rfl).trans ?_
  refine (zJ_n rfl).trans ?_
  refine (zq_aln hm (pc' := 12) rfl rfl rfl rfl).trans ?_
  refine (zq_v1 hm (pc' := 15) rfl rfl rfl (cls_24_6) rfl rfl).trans (zCI_c rfl (fun r2 s1 => ?_))
  refine (zJ_n rfl).trans ?_
  refine (zq_isn hm (ls' := [some (.inl (some 24)), some (.inl (some k)), some (.inr (.inl r2)), none]) (pc' := 16) rfl rfl rfl rfl).trans ?_
  refine (zq_aln hm (pc' := 17) rfl rfl rfl rfl).trans ?_
  refine (zq_gr hm (pc' := 20) rfl lay_24 rfl rfl).trans ?_
  refine (zJ_n rfl).trans ?_
  refine (zq_ic hm (pc' := 21) rfl rfl rfl rfl).trans ?_
  refine (zq_v0 hm (pc' := 24) rfl rfl rfl (cls_17_9) rfl rfl).trans (zCV_c rfl (fun s3 => ?_))
  refine (zJ_n rfl).trans ?_
  refine (zq_ic hm (pc' := 25) rfl rfl rfl rfl).trans ?_
  exact (zc_isn hm (ls' := [some (.inl (some 24)), some (.inl (some k)), some (.inr (.inl r2)), some (.inr (.inl 0))]) (pc' := 26) rfl rfl rfl rfl).trans rfl
set_option maxRecDepth 100000 in
set_option maxHeartbeats 4000000 in
theorem e_X6_deedsThatFit_26 (d : Nat) (y1 : Nat) (y2 : Int) (y3 : Int) (σ : zF) : P_X6_deedsThatFit_26 d y1 y2 y3 σ = (
if y3 < y2 then (
zCV LAY (zx d 88 [.inl (some 17)] σ) fun s101 =>
zCV LAY (zx d 57 [.inl (some 24), .inr (.inl y3)] s101) fun s102 =>
zCI LAY (zx d 100 [.inl (some 17), .inl (some y1)] s102) fun r104 s103 =>
if r104 = (-2) then (
if (s103 24 4) = 0 then (
if y3 = 0 then (
P_X6_deedsThatFit_26 d y1 y2 (zw (y3 + 1)) (zset (zset s103 24 5 (-1)) 24 4 (zw ((s103 24 4) + 1)))) else (
zCI LAY (zx d 59 [.inr (.inl y3)] s103) fun r106 s105 =>
P_X6_deedsThatFit_26 d y1 y2 (zw (y3 + 1)) (zset (zset s105 24 5 r106) 24 4 (zw ((s105 24 4) + 1))))) else (
P_X6_deedsThatFit_26 d y1 y2 (zw (y3 + 1)) (zset s103 24 4 (zw ((s103 24 4) + 1))))) else (
P_X6_deedsThatFit_26 d y1 y2 (zw (y3 + 1)) s103)) else (
zrv σ)) := by
  have hm := zexec_m zX2 zMT d
  show zrunL zX2 (zexec zX2 zMT d) K_X6_deedsThatFit U_X6_deedsThatFit 26 [some (.inl (some 24)), some (.inl (some y1)), some (.inr (.inl y2)), some (.inr (.inl y3))] [] (LAY, σ) = _
  refine (zq_iln hm (pc' := 27) rfl rfl rfl rfl).trans ?_
  refine (zq_iln hm (pc' := 28) rfl rfl rfl rfl).trans ?_
  refine (zq_ige hm (pc' := 31) rfl rfl).trans (zite ?_ ?_)
  · refine (zJ_n rfl).trans ?_
    refine (zq_aln hm (pc' := 32) rfl rfl rfl rfl).trans ?_
    refine (zq_gr hm (pc' := 35) rfl lay_24 rfl rfl).trans ?_
    refine (zJ_n rfl).trans ?_
    refine (zq_v0 hm (pc' := 38) rfl rfl rfl (cls_17_9) rfl rfl).trans (zCV_c rfl (fun s101 => ?_))
    refine (zJ_n rfl).trans ?_
    refine (zq_aln hm (pc' := 39) rfl rfl rfl rfl).trans ?_
    refine (zq_iln hm (pc' := 40) rfl rfl rfl rfl).trans ?_
    refine (zq_v0 hm (pc' := 43) rfl rfl rfl (cls_24_6) rfl rfl).trans (zCV_c rfl (fun s102 => ?_))
    refine (zJ_n rfl).trans ?_
    refine (zq_aln hm (pc' := 44) rfl rfl rfl rfl).trans ?_
    refine (zq_gr hm (pc' := 47) rfl lay_24 rfl rfl).trans ?_
    refine (zJ_n rfl).trans ?_
    refine (zq_aln hm (pc' := 48) rfl rfl rfl rfl).trans ?_
    refine (zq_v1 hm (pc' := 51) rfl rfl rfl (cls_17_9) rfl rfl).trans (zCI_c rfl (fun r104 s103 => ?_))
    refine (zJ_n rfl).trans ?_
    refine (zq_bi hm (pc' := 53) rfl rfl rfl rfl).trans ?_
    refine (zq_ine hm (pc' := 56) rfl rfl).trans (zite ?_ ?_)
    · refine (zJ_n rfl).trans ?_
      refine (zq_aln hm (pc' := 57) rfl rfl rfl rfl).trans ?_
      refine (zq_gf hm (v := (s103 24 4)) (pc' := 60) rfl lay_24 rfl rfl rfl).trans ?_
      refine (zJ_n rfl).trans ?_
      refine (zq_zne hm (pc' := 63) rfl rfl).trans (zite ?_ ?_)
      · refine (zJ_n rfl).trans ?_
        refine (zq_aln hm (pc' := 64) rfl rfl rfl rfl).trans ?_
        refine (zq_iln hm (pc' := 65) rfl rfl rfl rfl).trans ?_
        refine (zq_zne hm (pc' := 68) rfl rfl).trans (zite ?_ ?_)
        · refine (zJ_n rfl).trans ?_
          refine (zq_ic hm (pc' := 69) rfl rfl rfl rfl).trans ?_
          refine (zq_goto hm rfl rfl).trans ?_
          refine (zq_pf hm (pc' := 79) rfl lay_24 rfl rfl rfl).trans ?_
          refine (zJ_n rfl).trans ?_
          refine (zq_aln hm (pc' := 80) rfl rfl rfl rfl).trans ?_
          refine (zq_dup hm (pc' := 81) rfl rfl rfl rfl).trans ?_
          refine (zq_gf hm (v := (s103 24 4)) (pc' := 84) rfl lay_24 rfl (zsi (by decide)) rfl).trans ?_
          refine (zJ_n rfl).trans ?_
          refine (zq_ic hm (pc' := 85) rfl rfl rfl rfl).trans ?_
          refine (zq_iadd hm (pc' := 86) rfl rfl rfl).trans ?_
          refine (zq_pf hm (pc' := 89) rfl lay_24 rfl rfl rfl).trans ?_
          refine (zJ_n rfl).trans ?_
          refine (zq_iinc hm (ls' := [some (.inl (some 24)), some (.inl (some y1)), some (.inr (.inl y2)), some (.inr (.inl (zw (y3 + 1))))]) (pc' := 92) rfl rfl rfl rfl rfl rfl).trans ?_
          exact (zc_goto hm rfl rfl).trans rfl
        · refine (zJ_n rfl).trans ?_
          refine (zq_iln hm (pc' := 73) rfl rfl rfl rfl).trans ?_
          refine (zq_s1 hm (pc' := 76) rfl rfl rfl rfl rfl rfl).trans (zCI_c rfl (fun r106 s105 => ?_))
          refine (zJ_n rfl).trans ?_
          refine (zq_pf hm (pc' := 79) rfl lay_24 rfl rfl rfl).trans ?_
          refine (zJ_n rfl).trans ?_
          refine (zq_aln hm (pc' := 80) rfl rfl rfl rfl).trans ?_
          refine (zq_dup hm (pc' := 81) rfl rfl rfl rfl).trans ?_
          refine (zq_gf hm (v := (s105 24 4)) (pc' := 84) rfl lay_24 rfl (zsi (by decide)) rfl).trans ?_
          refine (zJ_n rfl).trans ?_
          refine (zq_ic hm (pc' := 85) rfl rfl rfl rfl).trans ?_
          refine (zq_iadd hm (pc' := 86) rfl rfl rfl).trans ?_
          refine (zq_pf hm (pc' := 89) rfl lay_24 rfl rfl rfl).trans ?_
          refine (zJ_n rfl).trans ?_
          refine (zq_iinc hm (ls' := [some (.inl (some 24)), some (.inl (some y1)), some (.inr (.inl y2)), some (.inr (.inl (zw (y3 + 1))))]) (pc' := 92) rfl rfl rfl rfl rfl rfl).trans ?_
          exact (zc_goto hm rfl rfl).trans rfl
      · refine (zJ_n rfl).trans ?_
        refine (zq_aln hm (pc' := 80) rfl rfl rfl rfl).trans ?_
        refine (zq_dup hm (pc' := 81) rfl rfl rfl rfl).trans ?_
        refine (zq_gf hm (v := (s103 24 4)) (pc' := 84) rfl lay_24 rfl rfl rfl).trans ?_
        refine (zJ_n rfl).trans ?_
        refine (zq_ic hm (pc' := 85) rfl rfl rfl rfl).trans ?_
        refine (zq_iadd hm (pc' := 86) rfl rfl rfl).trans ?_
        refine (zq_pf hm (pc' := 89) rfl lay_24 rfl rfl rfl).trans ?_
        refine (zJ_n rfl).trans ?_
        refine (zq_iinc hm (ls' := [some (.inl (some 24)), some (.inl (some y1)), some (.inr (.inl y2)), some (.inr (.inl (zw (y3 + 1))))]) (pc' := 92) rfl rfl rfl rfl rfl rfl).trans ?_
        exact (zc_goto hm rfl rfl).trans rfl
    · refine (zJ_n rfl).trans ?_
      refine (zq_iinc hm (ls' := [some (.inl (some 24)), some (.inl (some y1)), some (.inr (.inl y2)), some (.inr (.inl (zw (y3 + 1))))]) (pc' := 92) rfl rfl rfl rfl rfl rfl).trans ?_
      exact (zc_goto hm rfl rfl).trans rfl
  · refine (zJ_n rfl).trans ?_
    exact zq_rv hm rfl
