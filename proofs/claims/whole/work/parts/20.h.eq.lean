/-! equations, 8 -/
set_option maxRecDepth 100000 in
set_option maxHeartbeats 4000000 in
theorem e_X12_wayOf (d : Nat) (x1 : Int) (σ : zF) : zx (d + 1) 200 [.inl (some 57), .inr (.inl x1)] σ = (
if (10 : Int) = 0 then none else (
zCV LAY (zx d 199 [.inl (some 57), .inr (.inl (zrem x1 10))] σ) fun s1 =>
if (10 : Int) = 0 then none else (
if 0 ≤ zdiv x1 10 ∧ zdiv x1 10 < 8 then (
if (s1 85 (zdiv x1 10)) < 9999 then (
if (10 : Int) = 0 then none else (
if 0 ≤ zdiv x1 10 ∧ zdiv x1 10 < 8 then (
zri (s1 85 (zdiv x1 10)) s1) else (
none))) else (
zri (-2) s1)) else (
none)))) := by
  unfold zx
  have hm := zexec_m zX2 zMT d
  refine (zexec_eq mt_200 _ rfl (LAY, σ) 0).trans ?_
  show zrunL zX2 (zexec zX2 zMT d) K_X12_wayOf U_X12_wayOf 0 [some (.inl (some 57)), some (.inr (.inl x1))] [] (LAY, σ) = _
  refine (zq_aln hm (pc' := 1) rfl rfl rfl rfl).trans ?_
  refine (zq_iln hm (pc' := 2) rfl rfl rfl rfl).trans ?_
  refine (zq_bi hm (pc' := 4) rfl rfl rfl rfl).trans ?_
  refine (zq_irem hm (pc' := 5) rfl rfl).trans (zite rfl ?_)
  refine (zJ_n rfl).trans ?_
  refine (zq_v0 hm (pc' := 8) rfl rfl rfl (cls_57_12) rfl rfl).trans (zCV_c rfl (fun s1 => ?_))
  refine (zJ_n rfl).trans ?_
  refine (zq_aln hm (pc' := 9) rfl rfl rfl rfl).trans ?_
  refine (zq_gr hm (pc' := 12) rfl lay_57 rfl rfl).trans ?_
  refine (zJ_n rfl).trans ?_
  refine (zq_iln hm (pc' := 13) rfl rfl rfl rfl).trans ?_
  refine (zq_bi hm (pc' := 15) rfl rfl rfl rfl).trans ?_
  refine (zq_idiv hm (pc' := 16) rfl rfl).trans (zite rfl ?_)
  refine (zJ_n rfl).trans ?_
  refine (zq_ia hm (v := (s1 85 (zdiv x1 10))) (pc' := 17) rfl lay_85 rfl rfl).trans (zite ?_ rfl)
  refine (zJ_n rfl).trans ?_
  refine (zq_si hm (pc' := 20) rfl rfl rfl rfl).trans ?_
  refine (zq_ilt hm (pc' := 23) rfl rfl).trans (zite ?_ ?_)
  · refine (zJ_n rfl).trans ?_
    refine (zq_aln hm (pc' := 29) rfl rfl rfl rfl).trans ?_
    refine (zq_gr hm (pc' := 32) rfl lay_57 rfl rfl).trans ?_
    refine (zJ_n rfl).trans ?_
    refine (zq_iln hm (pc' := 33) rfl rfl rfl rfl).trans ?_
    refine (zq_bi hm (pc' := 35) rfl rfl rfl rfl).trans ?_
    refine (zq_idiv hm (pc' := 36) rfl rfl).trans (zite rfl ?_)
    refine (zJ_n rfl).trans ?_
    refine (zq_ia hm (v := (s1 85 (zdiv x1 10))) (pc' := 37) rfl lay_85 rfl rfl).trans (zite ?_ rfl)
    refine (zJ_n rfl).trans ?_
    exact zq_ri hm rfl rfl
  · refine (zJ_n rfl).trans ?_
    refine (zq_bi hm (pc' := 25) rfl rfl rfl rfl).trans ?_
    refine (zq_goto hm rfl rfl).trans ?_
    exact zq_ri hm rfl rfl
noncomputable def P_X12_along_8 (d : Nat) (y1 : Int) (y2 : Int) (y3 : Int) (y4 : Int) (σ : zF) : Option zR := zrunL zX2 (zexec zX2 zMT d) K_X12_along U_X12_along 8 [some (.inl (some 57)), some (.inr (.inl y1)), some (.inr (.inl y2)), some (.inr (.inl y3)), some (.inr (.inl y4)), none] [] (LAY, σ)
noncomputable def P_X12_along_19 (d : Nat) (y1 : Int) (y2 : Int) (y3 : Int) (y4 : Int) (y5 : Int) (σ : zF) : Option zR := zrunL zX2 (zexec zX2 zMT d) K_X12_along U_X12_along 19 [some (.inl (some 57)), some (.inr (.inl y1)), some (.inr (.inl y2)), some (.inr (.inl y3)), some (.inr (.inl y4)), some (.inr (.inl y5))] [] (LAY, σ)
set_option maxRecDepth 100000 in
set_option maxHeartbeats 4000000 in
theorem e_X12_along (d : Nat) (x1 : Int) (x2 : Int) (σ : zF) : zx (d + 1) 201 [.inl (some 57), .inr (.inl x1), .inr (.inl x2)] σ = (
if (10 : Int) = 0 then none else (
P_X12_along_8 d x1 x2 (zdiv x1 10) 0 σ)) := by
  unfold zx
  have hm := zexec_m zX2 zMT d
  refine (zexec_eq mt_201 _ rfl (LAY, σ) 0).trans ?_
  show zrunL zX2 (zexec zX2 zMT d) K_X12_along U_X12_along 0 [some (.inl (some 57)), some (.inr (.inl x1)), some (.inr (.inl x2)), none, none, none] [] (LAY, σ) = _
  refine (zq_iln hm (pc' := 1) rfl rfl rfl rfl).trans ?_
  refine (zq_bi hm (pc' := 3) rfl rfl rfl rfl).trans ?_
  refine (zq_idiv hm (pc' := 4) rfl rfl).trans (zite rfl ?_)
  refine (zJ_n rfl).trans ?_
  refine (zq_isn hm (ls' := [some (.inl (some 57)), some (.inr (.inl x1)), some (.inr (.inl x2)), some (.inr (.inl (zdiv x1 10))), none, none]) (pc' := 5) rfl rfl rfl rfl).trans ?_
  refine (zq_ic hm (pc' := 6) rfl rfl rfl rfl).trans ?_
  exact (zc_is hm (ls' := [some (.inl (some 57)), some (.inr (.inl x1)), some (.inr (.inl x2)), some (.inr (.inl (zdiv x1 10))), some (.inr (.inl 0)), none]) (pc' := 8) rfl rfl rfl rfl).trans rfl
set_option maxRecDepth 100000 in
set_option maxHeartbeats 4000000 in
theorem e_X12_along_8 (d : Nat) (y1 : Int) (y2 : Int) (y3 : Int) (y4 : Int) (σ : zF) : P_X12_along_8 d y1 y2 y3 y4 σ = (
if (10 : Int) = 0 then none else (
if y3 = zrem y1 10 then (
if y2 = (-2) then (
zri y4 σ) else (
zri (-2) σ)) else (
P_X12_along_19 d y1 y2 y3 y4 0 σ))) := by
  have hm := zexec_m zX2 zMT d
  show zrunL zX2 (zexec zX2 zMT d) K_X12_along U_X12_along 8 [some (.inl (some 57)), some (.inr (.inl y1)), some (.inr (.inl y2)), some (.inr (.inl y3)), some (.inr (.inl y4)), none] [] (LAY, σ) = _
  refine (zq_iln hm (pc' := 9) rfl rfl rfl rfl).trans ?_
  refine (zq_iln hm (pc' := 10) rfl rfl rfl rfl).trans ?_
  refine (zq_bi hm (pc' := 12) rfl rfl rfl rfl).trans ?_
  refine (zq_irem hm (pc' := 13) rfl rfl).trans (zite rfl ?_)
  refine (zJ_n rfl).trans ?_
  refine (zq_ieq hm (pc' := 16) rfl rfl).trans (zite ?_ ?_)
  · refine (zJ_n rfl).trans ?_
    refine (zq_iln hm (pc' := 117) rfl rfl rfl rfl).trans ?_
    refine (zq_bi hm (pc' := 119) rfl rfl rfl rfl).trans ?_
    refine (zq_ine hm (pc' := 122) rfl rfl).trans (zite ?_ ?_)
    · refine (zJ_n rfl).trans ?_
      refine (zq_il hm (pc' := 124) rfl rfl rfl rfl).trans ?_
      refine (zq_goto hm rfl rfl).trans ?_
      exact zq_ri hm rfl rfl
    · refine (zJ_n rfl).trans ?_
      refine (zq_bi hm (pc' := 129) rfl rfl rfl rfl).trans ?_
      exact zq_ri hm rfl rfl
  · refine (zJ_n rfl).trans ?_
    refine (zq_ic hm (pc' := 17) rfl rfl rfl rfl).trans ?_
    exact (zc_is hm (ls' := [some (.inl (some 57)), some (.inr (.inl y1)), some (.inr (.inl y2)), some (.inr (.inl y3)), some (.inr (.inl y4)), some (.inr (.inl 0))]) (pc' := 19) rfl rfl rfl rfl).trans rfl
set_option maxRecDepth 100000 in
set_option maxHeartbeats 4000000 in
theorem e_X12_along_19 (d : Nat) (y1 : Int) (y2 : Int) (y3 : Int) (y4 : Int) (y5 : Int) (σ : zF) : P_X12_along_19 d y1 y2 y3 y4 y5 σ = (
zCI LAY (zx d 188 [.inl (some 57), .inr (.inl y5)] σ) fun r102 s101 =>
if r102 = 0 then (
zCI LAY (zx d 189 [.inl (some 57), .inr (.inl y5), .inr (.inl y3)] s101) fun r104 s103 =>
if r104 = 0 then (
P_X12_along_19 d y1 y2 y3 y4 (zw (y5 + 1)) s103) else (
if 0 ≤ y5 ∧ y5 < 12 then (
if 0 ≤ y5 ∧ y5 < 12 then (
if 0 ≤ y5 ∧ y5 < 12 then (
if 0 ≤ zw ((zw ((s103 58 y5) + (s103 59 y5))) - y3) ∧ zw ((zw ((s103 58 y5) + (s103 59 y5))) - y3) < 8 then (
if 0 ≤ y3 ∧ y3 < 8 then (
if zw ((s103 84 y5) + (s103 85 (zw ((zw ((s103 58 y5) + (s103 59 y5))) - y3)))) = (s103 85 y3) then (
if y4 = y2 then (
zri y5 s103) else (
if 0 ≤ y5 ∧ y5 < 12 then (
if 0 ≤ y5 ∧ y5 < 12 then (
P_X12_along_8 d y1 y2 (zw ((zw ((s103 58 y5) + (s103 59 y5))) - y3)) (zw (y4 + 1)) s103) else (
none)) else (
none))) else (
P_X12_along_19 d y1 y2 y3 y4 (zw (y5 + 1)) s103)) else (
none)) else (
none)) else (
none)) else (
none)) else (
none))) else (
P_X12_along_19 d y1 y2 y3 y4 (zw (y5 + 1)) s101)) := by
  have hm := zexec_m zX2 zMT d
  show zrunL zX2 (zexec zX2 zMT d) K_X12_along U_X12_along 19 [some (.inl (some 57)), some (.inr (.inl y1)), some (.inr (.inl y2)), some (.inr (.inl y3)), some (.inr (.inl y4)), some (.inr (.inl y5))] [] (LAY, σ) = _
  refine (zq_aln hm (pc' := 20) rfl rfl rfl rfl).trans ?_
  refine (zq_il hm (pc' := 22) rfl rfl rfl rfl).trans ?_
  refine (zq_v1 hm (pc' := 25) rfl rfl rfl (cls_57_12) rfl rfl).trans (zCI_c rfl (fun r102 s101 => ?_))
  refine (zJ_n rfl).trans ?_
  refine (zq_zne hm (pc' := 28) rfl rfl).trans (zite ?_ ?_)
  · refine (zJ_n rfl).trans ?_
    refine (zq_aln hm (pc' := 29) rfl rfl rfl rfl).trans ?_
    refine (zq_il hm (pc' := 31) rfl rfl rfl rfl).trans ?_
    refine (zq_iln hm (pc' := 32) rfl rfl rfl rfl).trans ?_
    refine (zq_v1 hm (pc' := 35) rfl rfl rfl (cls_57_12) rfl rfl).trans (zCI_c rfl (fun r104 s103 => ?_))
    refine (zJ_n rfl).trans ?_
    refine (zq_zeq hm (pc' := 38) rfl rfl).trans (zite ?_ ?_)
    · refine (zJ_n rfl).trans ?_
      refine (zq_iinc hm (ls' := [some (.inl (some 57)), some (.inr (.inl y1)), some (.inr (.inl y2)), some (.inr (.inl y3)), some (.inr (.inl y4)), some (.inr (.inl (zw (y5 + 1))))]) (pc' := 80) rfl rfl rfl rfl rfl rfl).trans ?_
      exact (zc_goto hm rfl rfl).trans rfl
    · refine (zJ_n rfl).trans ?_
      refine (zq_aln hm (pc' := 39) rfl rfl rfl rfl).trans ?_
      refine (zq_gr hm (pc' := 42) rfl lay_57 rfl rfl).trans ?_
      refine (zJ_n rfl).trans ?_
      refine (zq_il hm (pc' := 44) rfl rfl rfl rfl).trans ?_
      refine (zq_ia hm (v := (s103 84 y5)) (pc' := 45) rfl lay_84 rfl rfl).trans (zite ?_ rfl)
      refine (zJ_n rfl).trans ?_
      refine (zq_aln hm (pc' := 46) rfl rfl rfl rfl).trans ?_
      refine (zq_gr hm (pc' := 49) rfl lay_57 rfl rfl).trans ?_
      refine (zJ_n rfl).trans ?_
      refine (zq_aln hm (pc' := 50) rfl rfl rfl rfl).trans ?_
      refine (zq_gr hm (pc' := 53) rfl lay_57 rfl rfl).trans ?_
      refine (zJ_n rfl).trans ?_
      refine (zq_il hm (pc' := 55) rfl rfl rfl rfl).trans ?_
      refine (zq_ia hm (v := (s103 58 y5)) (pc' := 56) rfl lay_58 rfl rfl).trans (zite ?_ rfl)
      refine (zJ_n rfl).trans ?_
      refine (zq_aln hm (pc' := 57) rfl rfl rfl rfl).trans ?_
      refine (zq_gr hm (pc' := 60) rfl lay_57 rfl rfl).trans ?_
      refine (zJ_n rfl).trans ?_
      refine (zq_il hm (pc' := 62) rfl rfl rfl rfl).trans ?_
      refine (zq_ia hm (v := (s103 59 y5)) (pc' := 63) rfl lay_59 rfl rfl).trans (zite ?_ rfl)
      refine (zJ_n rfl).trans ?_
      refine (zq_iadd hm (pc' := 64) rfl rfl rfl).trans ?_
      refine (zq_iln hm (pc' := 65) rfl rfl rfl rfl).trans ?_
      refine (zq_isub hm (pc' := 66) rfl rfl rfl).trans ?_
      refine (zq_ia hm (v := (s103 85 (zw ((zw ((s103 58 y5) + (s103 59 y5))) - y3)))) (pc' := 67) rfl lay_85 rfl rfl).trans (zite ?_ rfl)
      refine (zJ_n rfl).trans ?_
      refine (zq_iadd hm (pc' := 68) rfl rfl rfl).trans ?_
      refine (zq_aln hm (pc' := 69) rfl rfl rfl rfl).trans ?_
      refine (zq_gr hm (pc' := 72) rfl lay_57 rfl rfl).trans ?_
      refine (zJ_n rfl).trans ?_
      refine (zq_iln hm (pc' := 73) rfl rfl rfl rfl).trans ?_
      refine (zq_ia hm (v := (s103 85 y3)) (pc' := 74) rfl lay_85 rfl rfl).trans (zite ?_ rfl)
      refine (zJ_n rfl).trans ?_
      refine (zq_ieq hm (pc' := 77) rfl rfl).trans (zite ?_ ?_)
      · refine (zJ_n rfl).trans ?_
        refine (zq_il hm (pc' := 85) rfl rfl rfl rfl).trans ?_
        refine (zq_iln hm (pc' := 86) rfl rfl rfl rfl).trans ?_
        refine (zq_ine hm (pc' := 89) rfl rfl).trans (zite ?_ ?_)
        · refine (zJ_n rfl).trans ?_
          refine (zq_il hm (pc' := 91) rfl rfl rfl rfl).trans ?_
          exact zq_ri hm rfl rfl
        · refine (zJ_n rfl).trans ?_
          refine (zq_iinc hm (ls' := [some (.inl (some 57)), some (.inr (.inl y1)), some (.inr (.inl y2)), some (.inr (.inl y3)), some (.inr (.inl (zw (y4 + 1)))), some (.inr (.inl y5))]) (pc' := 95) rfl rfl rfl rfl rfl rfl).trans ?_
          refine (zq_aln hm (pc' := 96) rfl rfl rfl rfl).trans ?_
          refine (zq_gr hm (pc' := 99) rfl lay_57 rfl rfl).trans ?_
          refine (zJ_n rfl).trans ?_
          refine (zq_il hm (pc' := 101) rfl rfl rfl rfl).trans ?_
          refine (zq_ia hm (v := (s103 58 y5)) (pc' := 102) rfl lay_58 rfl rfl).trans (zite ?_ rfl)
          refine (zJ_n rfl).trans ?_
          refine (zq_aln hm (pc' := 103) rfl rfl rfl rfl).trans ?_
          refine (zq_gr hm (pc' := 106) rfl lay_57 rfl rfl).trans ?_
          refine (zJ_n rfl).trans ?_
          refine (zq_il hm (pc' := 108) rfl rfl rfl rfl).trans ?_
          refine (zq_ia hm (v := (s103 59 y5)) (pc' := 109) rfl lay_59 rfl rfl).trans (zite ?_ rfl)
          refine (zJ_n rfl).trans ?_
          refine (zq_iadd hm (pc' := 110) rfl rfl rfl).trans ?_
          refine (zq_iln hm (pc' := 111) rfl rfl rfl rfl).trans ?_
          refine (zq_isub hm (pc' := 112) rfl rfl rfl).trans ?_
          refine (zq_isn hm (ls' := [some (.inl (some 57)), some (.inr (.inl y1)), some (.inr (.inl y2)), some (.inr (.inl (zw ((zw ((s103 58 y5) + (s103 59 y5))) - y3)))), some (.inr (.inl (zw (y4 + 1)))), some (.inr (.inl y5))]) (pc' := 113) rfl rfl rfl rfl).trans ?_
          exact (zc_goto hm rfl rfl).trans rfl
      · refine (zJ_n rfl).trans ?_
        refine (zq_iinc hm (ls' := [some (.inl (some 57)), some (.inr (.inl y1)), some (.inr (.inl y2)), some (.inr (.inl y3)), some (.inr (.inl y4)), some (.inr (.inl (zw (y5 + 1))))]) (pc' := 80) rfl rfl rfl rfl rfl rfl).trans ?_
        exact (zc_goto hm rfl rfl).trans rfl
  · refine (zJ_n rfl).trans ?_
    refine (zq_iinc hm (ls' := [some (.inl (some 57)), some (.inr (.inl y1)), some (.inr (.inl y2)), some (.inr (.inl y3)), some (.inr (.inl y4)), some (.inr (.inl (zw (y5 + 1))))]) (pc' := 80) rfl rfl rfl rfl rfl rfl).trans ?_
    exact (zc_goto hm rfl rfl).trans rfl
set_option maxRecDepth 100000 in
set_option maxHeartbeats 4000000 in
theorem e_X12_way (d : Nat) (x1 : Int) (x2 : Int) (σ : zF) : zx (d + 1) 202 [.inl (some 57), .inr (.inl x1), .inr (.inl x2)] σ = (
zCI LAY (zx d 157 [.inr (.inl x1)] σ) fun r2 s1 =>
if r2 = 0 then (
zri (-1) s1) else (
if x2 < (-2) then (
zri (-1) s1) else (
zCI LAY (zx d 200 [.inl (some 57), .inr (.inl x1)] s1) fun r4 s3 =>
if r4 = (-2) then (
zri r4 s3) else (
if x2 = (-1) then (
zri r4 s3) else (
zCI LAY (zx d 201 [.inl (some 57), .inr (.inl x1), .inr (.inl x2)] s3) fun r6 s5 =>
zri r6 s5))))) := by
  unfold zx
  have hm := zexec_m zX2 zMT d
  refine (zexec_eq mt_202 _ rfl (LAY, σ) 0).trans ?_
  show zrunL zX2 (zexec zX2 zMT d) K_X12_way U_X12_way 0 [some (.inl (some 57)), some (.inr (.inl x1)), some (.inr (.inl x2)), none] [] (LAY, σ) = _
  refine (zq_iln hm (pc' := 1) rfl rfl rfl rfl).trans ?_
  refine (zq_s1 hm (pc' := 4) rfl rfl rfl rfl rfl rfl).trans (zCI_c rfl (fun r2 s1 => ?_))
  refine (zJ_n rfl).trans ?_
  refine (zq_zeq hm (pc' := 7) rfl rfl).trans (zite ?_ ?_)
  · refine (zJ_n rfl).trans ?_
    refine (zq_ic hm (pc' := 14) rfl rfl rfl rfl).trans ?_
    exact zq_ri hm rfl rfl
  · refine (zJ_n rfl).trans ?_
    refine (zq_iln hm (pc' := 8) rfl rfl rfl rfl).trans ?_
    refine (zq_bi hm (pc' := 10) rfl rfl rfl rfl).trans ?_
    refine (zq_ige hm (pc' := 13) rfl rfl).trans (zite ?_ ?_)
    · refine (zJ_n rfl).trans ?_
      refine (zq_ic hm (pc' := 14) rfl rfl rfl rfl).trans ?_
      exact zq_ri hm rfl rfl
    · refine (zJ_n rfl).trans ?_
      refine (zq_aln hm (pc' := 16) rfl rfl rfl rfl).trans ?_
      refine (zq_iln hm (pc' := 17) rfl rfl rfl rfl).trans ?_
      refine (zq_v1 hm (pc' := 20) rfl rfl rfl (cls_57_12) rfl rfl).trans (zCI_c rfl (fun r4 s3 => ?_))
      refine (zJ_n rfl).trans ?_
      refine (zq_isn hm (ls' := [some (.inl (some 57)), some (.inr (.inl x1)), some (.inr (.inl x2)), some (.inr (.inl r4))]) (pc' := 21) rfl rfl rfl rfl).trans ?_
      refine (zq_iln hm (pc' := 22) rfl rfl rfl rfl).trans ?_
      refine (zq_bi hm (pc' := 24) rfl rfl rfl rfl).trans ?_
      refine (zq_ieq hm (pc' := 27) rfl rfl).trans (zite ?_ ?_)
      · refine (zJ_n rfl).trans ?_
        refine (zq_iln hm (pc' := 33) rfl rfl rfl rfl).trans ?_
        refine (zq_goto hm rfl rfl).trans ?_
        exact zq_ri hm rfl rfl
      · refine (zJ_n rfl).trans ?_
        refine (zq_iln hm (pc' := 28) rfl rfl rfl rfl).trans ?_
        refine (zq_ic hm (pc' := 29) rfl rfl rfl rfl).trans ?_
        refine (zq_ine hm (pc' := 32) rfl rfl).trans (zite ?_ ?_)
        · refine (zJ_n rfl).trans ?_
          refine (zq_iln hm (pc' := 33) rfl rfl rfl rfl).trans ?_
          refine (zq_goto hm rfl rfl).trans ?_
          exact zq_ri hm rfl rfl
        · refine (zJ_n rfl).trans ?_
          refine (zq_aln hm (pc' := 37) rfl rfl rfl rfl).trans ?_
          refine (zq_iln hm (pc' := 38) rfl rfl rfl rfl).trans ?_
          refine (zq_iln hm (pc' := 39) rfl rfl rfl rfl).trans ?_
          refine (zq_v1 hm (pc' := 42) rfl rfl rfl (cls_57_12) rfl rfl).trans (zCI_c rfl (fun r6 s5 => ?_))
          refine (zJ_n rfl).trans ?_
          exact zq_ri hm rfl rfl
noncomputable def P_X12_reach_43 (d : Nat) (y1 : Int) (y2 : Int) (y3 : Int) (y4 : Int) (y5 : Int) (σ : zF) : Option zR := zrunL zX2 (zexec zX2 zMT d) K_X12_reach U_X12_reach 43 [some (.inl (some 57)), none, some (.inr (.inl y1)), some (.inr (.inl y2)), some (.inr (.inl y3)), some (.inr (.inl y4)), some (.inr (.inl y5))] [] (LAY, σ)
set_option maxRecDepth 100000 in
set_option maxHeartbeats 4000000 in
theorem e_X12_reach (d : Nat) (x1 : Int) (x2 : Int) (x3 : Int) (σ : zF) : zx (d + 1) 203 [.inl (some 57), .inr (.inl x1), .inr (.inl x2), .inr (.inl x3)] σ = (
zCI LAY (zx d 156 [.inr (.inl x1)] σ) fun r2 s1 =>
if r2 = 0 then (
zri (-1) s1) else (
zCI LAY (zx d 153 [.inr (.inl x2), .inr (.inl 0), .inr (.inl 999)] s1) fun r4 s3 =>
if r4 = 0 then (
zri (-1) s3) else (
zCI LAY (zx d 153 [.inr (.inl x3), .inr (.inl 0), .inr (.inl 2)] s3) fun r6 s5 =>
if r6 = 0 then (
zri (-1) s5) else (
zCV LAY (zx d 199 [.inl (some 57), .inr (.inl x1)] s5) fun s7 =>
P_X12_reach_43 d x2 x3 0 x1 0 s7)))) := by
  unfold zx
  have hm := zexec_m zX2 zMT d
  refine (zexec_eq mt_203 _ rfl (LAY, σ) 0).trans ?_
  show zrunL zX2 (zexec zX2 zMT d) K_X12_reach U_X12_reach 0 [some (.inl (some 57)), some (.inr (.inl x1)), some (.inr (.inl x2)), some (.inr (.inl x3)), none, none, none] [] (LAY, σ) = _
  refine (zq_iln hm (pc' := 1) rfl rfl rfl rfl).trans ?_
  refine (zq_s1 hm (pc' := 4) rfl rfl rfl rfl rfl rfl).trans (zCI_c rfl (fun r2 s1 => ?_))
  refine (zJ_n rfl).trans ?_
  refine (zq_zeq hm (pc' := 7) rfl rfl).trans (zite ?_ ?_)
  · refine (zJ_n rfl).trans ?_
    refine (zq_ic hm (pc' := 28) rfl rfl rfl rfl).trans ?_
    exact zq_ri hm rfl rfl
  · refine (zJ_n rfl).trans ?_
    refine (zq_iln hm (pc' := 8) rfl rfl rfl rfl).trans ?_
    refine (zq_ic hm (pc' := 9) rfl rfl rfl rfl).trans ?_
    refine (zq_si hm (pc' := 12) rfl rfl rfl rfl).trans ?_
    refine (zq_s1 hm (pc' := 15) rfl rfl rfl rfl rfl rfl).trans (zCI_c rfl (fun r4 s3 => ?_))
    refine (zJ_n rfl).trans ?_
    refine (zq_zeq hm (pc' := 18) rfl rfl).trans (zite ?_ ?_)
    · refine (zJ_n rfl).trans ?_
      refine (zq_ic hm (pc' := 28) rfl rfl rfl rfl).trans ?_
      exact zq_ri hm rfl rfl
    · refine (zJ_n rfl).trans ?_
      refine (zq_iln hm (pc' := 19) rfl rfl rfl rfl).trans ?_
      refine (zq_ic hm (pc' := 20) rfl rfl rfl rfl).trans ?_
      refine (zq_ic hm (pc' := 21) rfl rfl rfl rfl).trans ?_
      refine (zq_s1 hm (pc' := 24) rfl rfl rfl rfl rfl rfl).trans (zCI_c rfl (fun r6 s5 => ?_))
      refine (zJ_n rfl).trans ?_
      refine (zq_zne hm (pc' := 27) rfl rfl).trans (zite ?_ ?_)
      · refine (zJ_n rfl).trans ?_
        refine (zq_ic hm (pc' := 28) rfl rfl rfl rfl).trans ?_
        exact zq_ri hm rfl rfl
      · refine (zJ_n rfl).trans ?_
        refine (zq_aln hm (pc' := 30) rfl rfl rfl rfl).trans ?_
        refine (zq_iln hm (pc' := 31) rfl rfl rfl rfl).trans ?_
        refine (zq_v0 hm (pc' := 34) rfl rfl rfl (cls_57_12) rfl rfl).trans (zCV_c rfl (fun s7 => ?_))
        refine (zJ_n rfl).trans ?_
        refine (zq_ic hm (pc' := 35) rfl rfl rfl rfl).trans ?_
        refine (zq_is hm (ls' := [some (.inl (some 57)), some (.inr (.inl x1)), some (.inr (.inl x2)), some (.inr (.inl x3)), some (.inr (.inl 0)), none, none]) (pc' := 37) rfl rfl rfl rfl).trans ?_
        refine (zq_iln hm (pc' := 38) rfl rfl rfl rfl).trans ?_
        refine (zq_is hm (ls' := [some (.inl (some 57)), some (.inr (.inl x1)), some (.inr (.inl x2)), some (.inr (.inl x3)), some (.inr (.inl 0)), some (.inr (.inl x1)), none]) (pc' := 40) rfl rfl rfl rfl).trans ?_
        refine (zq_ic hm (pc' := 41) rfl rfl rfl rfl).trans ?_
        exact (zc_is hm (ls' := [some (.inl (some 57)), some (.inr (.inl x1)), some (.inr (.inl x2)), some (.inr (.inl x3)), some (.inr (.inl 0)), some (.inr (.inl x1)), some (.inr (.inl 0))]) (pc' := 43) rfl rfl rfl rfl).trans rfl
set_option maxRecDepth 100000 in
set_option maxHeartbeats 4000000 in
theorem e_X12_reach_43 (d : Nat) (y1 : Int) (y2 : Int) (y3 : Int) (y4 : Int) (y5 : Int) (σ : zF) : P_X12_reach_43 d y1 y2 y3 y4 y5 σ = (
if y5 < 8 then (
if 0 ≤ y5 ∧ y5 < 8 then (
if y1 < (σ 85 y5) then (
if 0 ≤ y5 ∧ y5 < 8 then (
if (σ 85 y5) < 9999 then (
if 0 ≤ y5 ∧ y5 < 8 then (
if 0 ≤ y4 ∧ y4 < 8 then (
if (σ 85 y4) < (σ 85 y5) then (
P_X12_reach_43 d y1 y2 y3 y5 (zw (y5 + 1)) σ) else (
if 0 ≤ y5 ∧ y5 < 8 then (
if 0 ≤ y4 ∧ y4 < 8 then (
if (σ 85 y5) = (σ 85 y4) then (
if y5 < y4 then (
P_X12_reach_43 d y1 y2 y3 y5 (zw (y5 + 1)) σ) else (
P_X12_reach_43 d y1 y2 y3 y4 (zw (y5 + 1)) σ)) else (
P_X12_reach_43 d y1 y2 y3 y4 (zw (y5 + 1)) σ)) else (
none)) else (
none))) else (
none)) else (
none)) else (
P_X12_reach_43 d y1 y2 y3 y4 (zw (y5 + 1)) σ)) else (
none)) else (
if 0 ≤ y5 ∧ y5 < 8 then (
if (σ 85 y5) < 9999 then (
if 0 ≤ y5 ∧ y5 < 8 then (
if 0 ≤ y4 ∧ y4 < 8 then (
if (σ 85 y4) < (σ 85 y5) then (
P_X12_reach_43 d y1 y2 (zor y3 (zshl 1 y5)) y5 (zw (y5 + 1)) σ) else (
if 0 ≤ y5 ∧ y5 < 8 then (
if 0 ≤ y4 ∧ y4 < 8 then (
if (σ 85 y5) = (σ 85 y4) then (
if y5 < y4 then (
P_X12_reach_43 d y1 y2 (zor y3 (zshl 1 y5)) y5 (zw (y5 + 1)) σ) else (
P_X12_reach_43 d y1 y2 (zor y3 (zshl 1 y5)) y4 (zw (y5 + 1)) σ)) else (
P_X12_reach_43 d y1 y2 (zor y3 (zshl 1 y5)) y4 (zw (y5 + 1)) σ)) else (
none)) else (
none))) else (
none)) else (
none)) else (
P_X12_reach_43 d y1 y2 (zor y3 (zshl 1 y5)) y4 (zw (y5 + 1)) σ)) else (
none))) else (
none)) else (
if y2 = 0 then (
zri y3 σ) else (
if y2 = 1 then (
zri y4 σ) else (
if 0 ≤ y4 ∧ y4 < 8 then (
zri (σ 85 y4) σ) else (
none))))) := by
  have hm := zexec_m zX2 zMT d
  show zrunL zX2 (zexec zX2 zMT d) K_X12_reach U_X12_reach 43 [some (.inl (some 57)), none, some (.inr (.inl y1)), some (.inr (.inl y2)), some (.inr (.inl y3)), some (.inr (.inl y4)), some (.inr (.inl y5))] [] (LAY, σ) = _
  refine (zq_il hm (pc' := 45) rfl rfl rfl rfl).trans ?_
  refine (zq_bi hm (pc' := 47) rfl rfl rfl rfl).trans ?_
  refine (zq_ige hm (pc' := 50) rfl rfl).trans (zite ?_ ?_)
  · refine (zJ_n rfl).trans ?_
    refine (zq_aln hm (pc' := 51) rfl rfl rfl rfl).trans ?_
    refine (zq_gr hm (pc' := 54) rfl lay_57 rfl rfl).trans ?_
    refine (zJ_n rfl).trans ?_
    refine (zq_il hm (pc' := 56) rfl rfl rfl rfl).trans ?_
    refine (zq_ia hm (v := (σ 85 y5)) (pc' := 57) rfl lay_85 rfl rfl).trans (zite ?_ rfl)
    refine (zJ_n rfl).trans ?_
    refine (zq_iln hm (pc' := 58) rfl rfl rfl rfl).trans ?_
    refine (zq_igt hm (pc' := 61) rfl rfl).trans (zite ?_ ?_)
    · refine (zJ_n rfl).trans ?_
      refine (zq_aln hm (pc' := 71) rfl rfl rfl rfl).trans ?_
      refine (zq_gr hm (pc' := 74) rfl lay_57 rfl rfl).trans ?_
      refine (zJ_n rfl).trans ?_
      refine (zq_il hm (pc' := 76) rfl rfl rfl rfl).trans ?_
      refine (zq_ia hm (v := (σ 85 y5)) (pc' := 77) rfl lay_85 rfl rfl).trans (zite ?_ rfl)
      refine (zJ_n rfl).trans ?_
      refine (zq_si hm (pc' := 80) rfl rfl rfl rfl).trans ?_
      refine (zq_ige hm (pc' := 83) rfl rfl).trans (zite ?_ ?_)
      · refine (zJ_n rfl).trans ?_
        refine (zq_aln hm (pc' := 84) rfl rfl rfl rfl).trans ?_
        refine (zq_gr hm (pc' := 87) rfl lay_57 rfl rfl).trans ?_
        refine (zJ_n rfl).trans ?_
        refine (zq_il hm (pc' := 89) rfl rfl rfl rfl).trans ?_
        refine (zq_ia hm (v := (σ 85 y5)) (pc' := 90) rfl lay_85 rfl rfl).trans (zite ?_ rfl)
        refine (zJ_n rfl).trans ?_
        refine (zq_aln hm (pc' := 91) rfl rfl rfl rfl).trans ?_
        refine (zq_gr hm (pc' := 94) rfl lay_57 rfl rfl).trans ?_
        refine (zJ_n rfl).trans ?_
        refine (zq_il hm (pc' := 96) rfl rfl rfl rfl).trans ?_
        refine (zq_ia hm (v := (σ 85 y4)) (pc' := 97) rfl lay_85 rfl rfl).trans (zite ?_ rfl)
        refine (zJ_n rfl).trans ?_
        refine (zq_igt hm (pc' := 100) rfl rfl).trans (zite ?_ ?_)
        · refine (zJ_n rfl).trans ?_
          refine (zq_il hm (pc' := 126) rfl rfl rfl rfl).trans ?_
          refine (zq_is hm (ls' := [some (.inl (some 57)), none, some (.inr (.inl y1)), some (.inr (.inl y2)), some (.inr (.inl y3)), some (.inr (.inl y5)), some (.inr (.inl y5))]) (pc' := 128) rfl rfl rfl rfl).trans ?_
          refine (zq_iinc hm (ls' := [some (.inl (some 57)), none, some (.inr (.inl y1)), some (.inr (.inl y2)), some (.inr (.inl y3)), some (.inr (.inl y5)), some (.inr (.inl (zw (y5 + 1))))]) (pc' := 131) rfl rfl rfl rfl rfl rfl).trans ?_
          exact (zc_goto hm rfl rfl).trans rfl
        · refine (zJ_n rfl).trans ?_
          refine (zq_aln hm (pc' := 101) rfl rfl rfl rfl).trans ?_
          refine (zq_gr hm (pc' := 104) rfl lay_57 rfl rfl).trans ?_
          refine (zJ_n rfl).trans ?_
          refine (zq_il hm (pc' := 106) rfl rfl rfl rfl).trans ?_
          refine (zq_ia hm (v := (σ 85 y5)) (pc' := 107) rfl lay_85 rfl rfl).trans (zite ?_ rfl)
          refine (zJ_n rfl).trans ?_
          refine (zq_aln hm (pc' := 108) rfl rfl rfl rfl).trans ?_
          refine (zq_gr hm (pc' := 111) rfl lay_57 rfl rfl).trans ?_
          refine (zJ_n rfl).trans ?_
          refine (zq_il hm (pc' := 113) rfl rfl rfl rfl).trans ?_
          refine (zq_ia hm (v := (σ 85 y4)) (pc' := 114) rfl lay_85 rfl rfl).trans (zite ?_ rfl)
          refine (zJ_n rfl).trans ?_
          refine (zq_ine hm (pc' := 117) rfl rfl).trans (zite ?_ ?_)
          · refine (zJ_n rfl).trans ?_
            refine (zq_il hm (pc' := 119) rfl rfl rfl rfl).trans ?_
            refine (zq_il hm (pc' := 121) rfl rfl rfl rfl).trans ?_
            refine (zq_ige hm (pc' := 124) rfl rfl).trans (zite ?_ ?_)
            · refine (zJ_n rfl).trans ?_
              refine (zq_il hm (pc' := 126) rfl rfl rfl rfl).trans ?_
              refine (zq_is hm (ls' := [some (.inl (some 57)), none, some (.inr (.inl y1)), some (.inr (.inl y2)), some (.inr (.inl y3)), some (.inr (.inl y5)), some (.inr (.inl y5))]) (pc' := 128) rfl rfl rfl rfl).trans ?_
              refine (zq_iinc hm (ls' := [some (.inl (some 57)), none, some (.inr (.inl y1)), some (.inr (.inl y2)), some (.inr (.inl y3)), some (.inr (.inl y5)), some (.inr (.inl (zw (y5 + 1))))]) (pc' := 131) rfl rfl rfl rfl rfl rfl).trans ?_
              exact (zc_goto hm rfl rfl).trans rfl
            · refine (zJ_n rfl).trans ?_
              refine (zq_iinc hm (ls' := [some (.inl (some 57)), none, some (.inr (.inl y1)), some (.inr (.inl y2)), some (.inr (.inl y3)), some (.inr (.inl y4)), some (.inr (.inl (zw (y5 + 1))))]) (pc' := 131) rfl rfl rfl rfl rfl rfl).trans ?_
              exact (zc_goto hm rfl rfl).trans rfl
          · refine (zJ_n rfl).trans ?_
            refine (zq_iinc hm (ls' := [some (.inl (some 57)), none, some (.inr (.inl y1)), some (.inr (.inl y2)), some (.inr (.inl y3)), some (.inr (.inl y4)), some (.inr (.inl (zw (y5 + 1))))]) (pc' := 131) rfl rfl rfl rfl rfl rfl).trans ?_
            exact (zc_goto hm rfl rfl).trans rfl
      · refine (zJ_n rfl).trans ?_
        refine (zq_iinc hm (ls' := [some (.inl (some 57)), none, some (.inr (.inl y1)), some (.inr (.inl y2)), some (.inr (.inl y3)), some (.inr (.inl y4)), some (.inr (.inl (zw (y5 + 1))))]) (pc' := 131) rfl rfl rfl rfl rfl rfl).trans ?_
        exact (zc_goto hm rfl rfl).trans rfl
    · refine (zJ_n rfl).trans ?_
      refine (zq_il hm (pc' := 63) rfl rfl rfl rfl).trans ?_
      refine (zq_ic hm (pc' := 64) rfl rfl rfl rfl).trans ?_
      refine (zq_il hm (pc' := 66) rfl rfl rfl rfl).trans ?_
      refine (zq_ishl hm (pc' := 67) rfl rfl rfl).trans ?_
      refine (zq_ior hm (pc' := 68) rfl rfl rfl).trans ?_
      refine (zq_is hm (ls' := [some (.inl (some 57)), none, some (.inr (.inl y1)), some (.inr (.inl y2)), some (.inr (.inl (zor y3 (zshl 1 y5)))), some (.inr (.inl y4)), some (.inr (.inl y5))]) (pc' := 70) rfl rfl rfl rfl).trans ?_
      refine (zq_aln hm (pc' := 71) rfl rfl rfl rfl).trans ?_
      refine (zq_gr hm (pc' := 74) rfl lay_57 rfl rfl).trans ?_
      refine (zJ_n rfl).trans ?_
      refine (zq_il hm (pc' := 76) rfl rfl rfl rfl).trans ?_
      refine (zq_ia hm (v := (σ 85 y5)) (pc' := 77) rfl lay_85 rfl rfl).trans (zite ?_ rfl)
      refine (zJ_n rfl).trans ?_
      refine (zq_si hm (pc' := 80) rfl rfl rfl rfl).trans ?_
      refine (zq_ige hm (pc' := 83) rfl rfl).trans (zite ?_ ?_)
      · refine (zJ_n rfl).trans ?_
        refine (zq_aln hm (pc' := 84) rfl rfl rfl rfl).trans ?_
        refine (zq_gr hm (pc' := 87) rfl lay_57 rfl rfl).trans ?_
        refine (zJ_n rfl).trans ?_
        refine (zq_il hm (pc' := 89) rfl rfl rfl rfl).trans ?_
        refine (zq_ia hm (v := (σ 85 y5)) (pc' := 90) rfl lay_85 rfl rfl).trans (zite ?_ rfl)
        refine (zJ_n rfl).trans ?_
        refine (zq_aln hm (pc' := 91) rfl rfl rfl rfl).trans ?_
        refine (zq_gr hm (pc' := 94) rfl lay_57 rfl rfl).trans ?_
        refine (zJ_n rfl).trans ?_
        refine (zq_il hm (pc' := 96) rfl rfl rfl rfl).trans ?_
        refine (zq_ia hm (v := (σ 85 y4)) (pc' := 97) rfl lay_85 rfl rfl).trans (zite ?_ rfl)
        refine (zJ_n rfl).trans ?_
        refine (zq_igt hm (pc' := 100) rfl rfl).trans (zite ?_ ?_)
        · refine (zJ_n rfl).trans ?_
          refine (zq_il hm (pc' := 126) rfl rfl rfl rfl).trans ?_
          refine (zq_is hm (ls' := [some (.inl (some 57)), none, some (.inr (.inl y1)), some (.inr (.inl y2)), some (.inr (.inl (zor y3 (zshl 1 y5)))), some (.inr (.inl y5)), some (.inr (.inl y5))]) (pc' := 128) rfl rfl rfl rfl).trans ?_
          refine (zq_iinc hm (ls' := [some (.inl (some 57)), none, some (.inr (.inl y1)), some (.inr (.inl y2)), some (.inr (.inl (zor y3 (zshl 1 y5)))), some (.inr (.inl y5)), some (.inr (.inl (zw (y5 + 1))))]) (pc' := 131) rfl rfl rfl rfl rfl rfl).trans ?_
          exact (zc_goto hm rfl rfl).trans rfl
        · refine (zJ_n rfl).trans ?_
          refine (zq_aln hm (pc' := 101) rfl rfl rfl rfl).trans ?_
          refine (zq_gr hm (pc' := 104) rfl lay_57 rfl rfl).trans ?_
          refine (zJ_n rfl).trans ?_
          refine (zq_il hm (pc' := 106) rfl rfl rfl rfl).trans ?_
          refine (zq_ia hm (v := (σ 85 y5)) (pc' := 107) rfl lay_85 rfl rfl).trans (zite ?_ rfl)
          refine (zJ_n rfl).trans ?_
          refine (zq_aln hm (pc' := 108) rfl rfl rfl rfl).trans ?_
          refine (zq_gr hm (pc' := 111) rfl lay_57 rfl rfl).trans ?_
          refine (zJ_n rfl).trans ?_
          refine (zq_il hm (pc' := 113) rfl rfl rfl rfl).trans ?_
          refine (zq_ia hm (v := (σ 85 y4)) (pc' := 114) rfl lay_85 rfl rfl).trans (zite ?_ rfl)
          refine (zJ_n rfl).trans ?_
          refine (zq_ine hm (pc' := 117) rfl rfl).trans (zite ?_ ?_)
          · refine (zJ_n rfl).trans ?_
            refine (zq_il hm (pc' := 119) rfl rfl rfl rfl).trans ?_
            refine (zq_il hm (pc' := 121) rfl rfl rfl rfl).trans ?_
            refine (zq_ige hm (pc' := 124) rfl rfl).trans (zite ?_ ?_)
            · refine (zJ_n rfl).trans ?_
              refine (zq_il hm (pc' := 126) rfl rfl rfl rfl).trans ?_
              refine (zq_is hm (ls' := [some (.inl (some 57)), none, some (.inr (.inl y1)), some (.inr (.inl y2)), some (.inr (.inl (zor y3 (zshl 1 y5)))), some (.inr (.inl y5)), some (.inr (.inl y5))]) (pc' := 128) rfl rfl rfl rfl).trans ?_
              refine (zq_iinc hm (ls' := [some (.inl (some 57)), none, some (.inr (.inl y1)), some (.inr (.inl y2)), some (.inr (.inl (zor y3 (zshl 1 y5)))), some (.inr (.inl y5)), some (.inr (.inl (zw (y5 + 1))))]) (pc' := 131) rfl rfl rfl rfl rfl rfl).trans ?_
              exact (zc_goto hm rfl rfl).trans rfl
            · refine (zJ_n rfl).trans ?_
              refine (zq_iinc hm (ls' := [some (.inl (some 57)), none, some (.inr (.inl y1)), some (.inr (.inl y2)), some (.inr (.inl (zor y3 (zshl 1 y5)))), some (.inr (.inl y4)), some (.inr (.inl (zw (y5 + 1))))]) (pc' := 131) rfl rfl rfl rfl rfl rfl).trans ?_
              exact (zc_goto hm rfl rfl).trans rfl
          · refine (zJ_n rfl).trans ?_
            refine (zq_iinc hm (ls' := [some (.inl (some 57)), none, some (.inr (.inl y1)), some (.inr (.inl y2)), some (.inr (.inl (zor y3 (zshl 1 y5)))), some (.inr (.inl y4)), some (.inr (.inl (zw (y5 + 1))))]) (pc' := 131) rfl rfl rfl rfl rfl rfl).trans ?_
            exact (zc_goto hm rfl rfl).trans rfl
      · refine (zJ_n rfl).trans ?_
        refine (zq_iinc hm (ls' := [some (.inl (some 57)), none, some (.inr (.inl y1)), some (.inr (.inl y2)), some (.inr (.inl (zor y3 (zshl 1 y5)))), some (.inr (.inl y4)), some (.inr (.inl (zw (y5 + 1))))]) (pc' := 131) rfl rfl rfl rfl rfl rfl).trans ?_
        exact (zc_goto hm rfl rfl).trans rfl
  · refine (zJ_n rfl).trans ?_
    refine (zq_iln hm (pc' := 135) rfl rfl rfl rfl).trans ?_
    refine (zq_zne hm (pc' := 138) rfl rfl).trans (zite ?_ ?_)
    · refine (zJ_n rfl).trans ?_
      refine (zq_il hm (pc' := 140) rfl rfl rfl rfl).trans ?_
      refine (zq_goto hm rfl rfl).trans ?_
      exact zq_ri hm rfl rfl
    · refine (zJ_n rfl).trans ?_
      refine (zq_iln hm (pc' := 144) rfl rfl rfl rfl).trans ?_
      refine (zq_ic hm (pc' := 145) rfl rfl rfl rfl).trans ?_
      refine (zq_ine hm (pc' := 148) rfl rfl).trans (zite ?_ ?_)
      · refine (zJ_n rfl).trans ?_
        refine (zq_il hm (pc' := 150) rfl rfl rfl rfl).trans ?_
        refine (zq_goto hm rfl rfl).trans ?_
        exact zq_ri hm rfl rfl
      · refine (zJ_n rfl).trans ?_
        refine (zq_aln hm (pc' := 154) rfl rfl rfl rfl).trans ?_
        refine (zq_gr hm (pc' := 157) rfl lay_57 rfl rfl).trans ?_
        refine (zJ_n rfl).trans ?_
        refine (zq_il hm (pc' := 159) rfl rfl rfl rfl).trans ?_
        refine (zq_ia hm (v := (σ 85 y4)) (pc' := 160) rfl lay_85 rfl rfl).trans (zite ?_ rfl)
        refine (zJ_n rfl).trans ?_
        exact zq_ri hm rfl rfl
set_option maxRecDepth 100000 in
set_option maxHeartbeats 4000000 in
theorem e_X12_wayWithout (d : Nat) (x1 : Int) (x2 : Int) (σ : zF) : zx (d + 1) 204 [.inl (some 57), .inr (.inl x1), .inr (.inl x2)] σ = (
if 0 ≤ zw (36 + x2) ∧ zw (36 + x2) < 48 then (
if 0 ≤ zw (36 + x2) ∧ zw (36 + x2) < 48 then (
zCI LAY (zx d 200 [.inl (some 57), .inr (.inl x1)] (zset σ 60 (zw (36 + x2)) 1)) fun r2 s1 =>
if 0 ≤ zw (36 + x2) ∧ zw (36 + x2) < 48 then (
zri r2 (zset s1 60 (zw (36 + x2)) (σ 60 (zw (36 + x2))))) else (
none)) else (
none)) else (
none)) := by
  unfold zx
  have hm := zexec_m zX2 zMT d
  refine (zexec_eq mt_204 _ rfl (LAY, σ) 0).trans ?_
  show zrunL zX2 (zexec zX2 zMT d) K_X12_wayWithout U_X12_wayWithout 0 [some (.inl (some 57)), some (.inr (.inl x1)), some (.inr (.inl x2)), none, none] [] (LAY, σ) = _
  refine (zq_aln hm (pc' := 1) rfl rfl rfl rfl).trans ?_
  refine (zq_gr hm (pc' := 4) rfl lay_57 rfl rfl).trans ?_
  refine (zJ_n rfl).trans ?_
  refine (zq_bi hm (pc' := 6) rfl rfl rfl rfl).trans ?_
  refine (zq_iln hm (pc' := 7) rfl rfl rfl rfl).trans ?_
  refine (zq_iadd hm (pc' := 8) rfl rfl rfl).trans ?_
  refine (zq_ia hm (v := (σ 60 (zw (36 + x2)))) (pc' := 9) rfl lay_60 rfl rfl).trans (zite ?_ rfl)
  refine (zJ_n rfl).trans ?_
  refine (zq_isn hm (ls' := [some (.inl (some 57)), some (.inr (.inl x1)), some (.inr (.inl x2)), some (.inr (.inl (σ 60 (zw (36 + x2))))), none]) (pc' := 10) rfl rfl rfl rfl).trans ?_
  refine (zq_aln hm (pc' := 11) rfl rfl rfl rfl).trans ?_
  refine (zq_gr hm (pc' := 14) rfl lay_57 rfl rfl).trans ?_
  refine (zJ_n rfl).trans ?_
  refine (zq_bi hm (pc' := 16) rfl rfl rfl rfl).trans ?_
  refine (zq_iln hm (pc' := 17) rfl rfl rfl rfl).trans ?_
  refine (zq_iadd hm (pc' := 18) rfl rfl rfl).trans ?_
  refine (zq_ic hm (pc' := 19) rfl rfl rfl rfl).trans ?_
  refine (zq_ist hm (pc' := 20) rfl lay_60 rfl).trans (zite ?_ rfl)
  refine (zJ_n rfl).trans ?_
  refine (zq_aln hm (pc' := 21) rfl rfl rfl rfl).trans ?_
  refine (zq_iln hm (pc' := 22) rfl rfl rfl rfl).trans ?_
  refine (zq_v1 hm (pc' := 25) rfl rfl rfl (cls_57_12) rfl rfl).trans (zCI_c rfl (fun r2 s1 => ?_))
  refine (zJ_n rfl).trans ?_
  refine (zq_is hm (ls' := [some (.inl (some 57)), some (.inr (.inl x1)), some (.inr (.inl x2)), some (.inr (.inl (σ 60 (zw (36 + x2))))), some (.inr (.inl r2))]) (pc' := 27) rfl rfl rfl rfl).trans ?_
  refine (zq_aln hm (pc' := 28) rfl rfl rfl rfl).trans ?_
  refine (zq_gr hm (pc' := 31) rfl lay_57 rfl rfl).trans ?_
  refine (zJ_n rfl).trans ?_
  refine (zq_bi hm (pc' := 33) rfl rfl rfl rfl).trans ?_
  refine (zq_iln hm (pc' := 34) rfl rfl rfl rfl).trans ?_
  refine (zq_iadd hm (pc' := 35) rfl rfl rfl).trans ?_
  refine (zq_iln hm (pc' := 36) rfl rfl rfl rfl).trans ?_
  refine (zq_ist hm (pc' := 37) rfl lay_60 rfl).trans (zite ?_ rfl)
  refine (zJ_n rfl).trans ?_
  refine (zq_il hm (pc' := 39) rfl rfl rfl rfl).trans ?_
  exact zq_ri hm rfl rfl
noncomputable def P_X12_needed_25 (d : Nat) (y1 : Int) (y2 : Int) (y3 : Int) (σ : zF) : Option zR := zrunL zX2 (zexec zX2 zMT d) K_X12_needed U_X12_needed 25 [some (.inl (some 57)), some (.inr (.inl y1)), some (.inr (.inl y2)), some (.inr (.inl y3))] [] (LAY, σ)
set_option maxRecDepth 100000 in
set_option maxHeartbeats 4000000 in
theorem e_X12_needed (d : Nat) (x1 : Int) (σ : zF) : zx (d + 1) 205 [.inl (some 57), .inr (.inl x1)] σ = (
zCI LAY (zx d 157 [.inr (.inl x1)] σ) fun r2 s1 =>
if r2 = 0 then (
zri (-1) s1) else (
zCI LAY (zx d 200 [.inl (some 57), .inr (.inl x1)] s1) fun r4 s3 =>
if r4 = (-2) then (
zri 0 s3) else (
P_X12_needed_25 d x1 0 0 s3))) := by
  unfold zx
  have hm := zexec_m zX2 zMT d
  refine (zexec_eq mt_205 _ rfl (LAY, σ) 0).trans ?_
  show zrunL zX2 (zexec zX2 zMT d) K_X12_needed U_X12_needed 0 [some (.inl (some 57)), some (.inr (.inl x1)), none, none] [] (LAY, σ) = _
  refine (zq_iln hm (pc' := 1) rfl rfl rfl rfl).trans ?_
  refine (zq_s1 hm (pc' := 4) rfl rfl rfl rfl rfl rfl).trans (zCI_c rfl (fun r2 s1 => ?_))
  refine (zJ_n rfl).trans ?_
  refine (zq_zne hm (pc' := 7) rfl rfl).trans (zite ?_ ?_)
  · refine (zJ_n rfl).trans ?_
    refine (zq_ic hm (pc' := 8) rfl rfl rfl rfl).trans ?_
    exact zq_ri hm rfl rfl
  · refine (zJ_n rfl).trans ?_
    refine (zq_ic hm (pc' := 10) rfl rfl rfl rfl).trans ?_
    refine (zq_isn hm (ls' := [some (.inl (some 57)), some (.inr (.inl x1)), some (.inr (.inl 0)), none]) (pc' := 11) rfl rfl rfl rfl).trans ?_
    refine (zq_aln hm (pc' := 12) rfl rfl rfl rfl).trans ?_
    refine (zq_iln hm (pc' := 13) rfl rfl rfl rfl).trans ?_
    refine (zq_v1 hm (pc' := 16) rfl rfl rfl (cls_57_12) rfl rfl).trans (zCI_c rfl (fun r4 s3 => ?_))
    refine (zJ_n rfl).trans ?_
    refine (zq_bi hm (pc' := 18) rfl rfl rfl rfl).trans ?_
    refine (zq_ine hm (pc' := 21) rfl rfl).trans (zite ?_ ?_)
    · refine (zJ_n rfl).trans ?_
      refine (zq_ic hm (pc' := 22) rfl rfl rfl rfl).trans ?_
      exact zq_ri hm rfl rfl
    · refine (zJ_n rfl).trans ?_
      refine (zq_ic hm (pc' := 24) rfl rfl rfl rfl).trans ?_
      exact (zc_isn hm (ls' := [some (.inl (some 57)), some (.inr (.inl x1)), some (.inr (.inl 0)), some (.inr (.inl 0))]) (pc' := 25) rfl rfl rfl rfl).trans rfl
set_option maxRecDepth 100000 in
set_option maxHeartbeats 4000000 in
theorem e_X12_needed_25 (d : Nat) (y1 : Int) (y2 : Int) (y3 : Int) (σ : zF) : P_X12_needed_25 d y1 y2 y3 σ = (
if y3 < (σ 57 0) then (
zCI LAY (zx d 204 [.inl (some 57), .inr (.inl y1), .inr (.inl y3)] σ) fun r102 s101 =>
if r102 = (-2) then (
P_X12_needed_25 d y1 (zor y2 (zshl 1 y3)) (zw (y3 + 1)) s101) else (
P_X12_needed_25 d y1 y2 (zw (y3 + 1)) s101)) else (
zri y2 σ)) := by
  have hm := zexec_m zX2 zMT d
  show zrunL zX2 (zexec zX2 zMT d) K_X12_needed U_X12_needed 25 [some (.inl (some 57)), some (.inr (.inl y1)), some (.inr (.inl y2)), some (.inr (.inl y3))] [] (LAY, σ) = _
  refine (zq_iln hm (pc' := 26) rfl rfl rfl rfl).trans ?_
  refine (zq_aln hm (pc' := 27) rfl rfl rfl rfl).trans ?_
  refine (zq_gf hm (v := (σ 57 0)) (pc' := 30) rfl lay_57 rfl rfl rfl).trans ?_
  refine (zJ_n rfl).trans ?_
  refine (zq_ige hm (pc' := 33) rfl rfl).trans (zite ?_ ?_)
  · refine (zJ_n rfl).trans ?_
    refine (zq_aln hm (pc' := 34) rfl rfl rfl rfl).trans ?_
    refine (zq_iln hm (pc' := 35) rfl rfl rfl rfl).trans ?_
    refine (zq_iln hm (pc' := 36) rfl rfl rfl rfl).trans ?_
    refine (zq_v1 hm (pc' := 39) rfl rfl rfl (cls_57_12) rfl rfl).trans (zCI_c rfl (fun r102 s101 => ?_))
    refine (zJ_n rfl).trans ?_
    refine (zq_bi hm (pc' := 41) rfl rfl rfl rfl).trans ?_
    refine (zq_ine hm (pc' := 44) rfl rfl).trans (zite ?_ ?_)
    · refine (zJ_n rfl).trans ?_
      refine (zq_iln hm (pc' := 45) rfl rfl rfl rfl).trans ?_
      refine (zq_ic hm (pc' := 46) rfl rfl rfl rfl).trans ?_
      refine (zq_iln hm (pc' := 47) rfl rfl rfl rfl).trans ?_
      refine (zq_ishl hm (pc' := 48) rfl rfl rfl).trans ?_
      refine (zq_ior hm (pc' := 49) rfl rfl rfl).trans ?_
      refine (zq_isn hm (ls' := [some (.inl (some 57)), some (.inr (.inl y1)), some (.inr (.inl (zor y2 (zshl 1 y3)))), some (.inr (.inl y3))]) (pc' := 50) rfl rfl rfl rfl).trans ?_
      refine (zq_iinc hm (ls' := [some (.inl (some 57)), some (.inr (.inl y1)), some (.inr (.inl (zor y2 (zshl 1 y3)))), some (.inr (.inl (zw (y3 + 1))))]) (pc' := 53) rfl rfl rfl rfl rfl rfl).trans ?_
      exact (zc_goto hm rfl rfl).trans rfl
    · refine (zJ_n rfl).trans ?_
      refine (zq_iinc hm (ls' := [some (.inl (some 57)), some (.inr (.inl y1)), some (.inr (.inl y2)), some (.inr (.inl (zw (y3 + 1))))]) (pc' := 53) rfl rfl rfl rfl rfl rfl).trans ?_
      exact (zc_goto hm rfl rfl).trans rfl
  · refine (zJ_n rfl).trans ?_
    refine (zq_iln hm (pc' := 57) rfl rfl rfl rfl).trans ?_
    exact zq_ri hm rfl rfl
set_option maxRecDepth 100000 in
set_option maxHeartbeats 4000000 in
theorem e_X12_longer (d : Nat) (x1 : Int) (x2 : Int) (σ : zF) : zx (d + 1) 206 [.inl (some 57), .inr (.inl x1), .inr (.inl x2)] σ = (
zCI LAY (zx d 157 [.inr (.inl x1)] σ) fun r2 s1 =>
if r2 = 0 then (
zri (-1) s1) else (
zCI LAY (zx d 154 [.inl (some 57), .inr (.inl x2)] s1) fun r4 s3 =>
if r4 = 0 then (
zri (-1) s3) else (
zCI LAY (zx d 200 [.inl (some 57), .inr (.inl x1)] s3) fun r6 s5 =>
zCI LAY (zx d 204 [.inl (some 57), .inr (.inl x1), .inr (.inl x2)] s5) fun r8 s7 =>
if r6 = (-2) then (
zri (-2) s7) else (
if r8 = (-2) then (
zri (-2) s7) else (
zri (zmax 0 (zw (r8 - r6))) s7))))) := by
  unfold zx
  have hm := zexec_m zX2 zMT d
  refine (zexec_eq mt_206 _ rfl (LAY, σ) 0).trans ?_
  show zrunL zX2 (zexec zX2 zMT d) K_X12_longer U_X12_longer 0 [some (.inl (some 57)), some (.inr (.inl x1)), some (.inr (.inl x2)), none, none] [] (LAY, σ) = _
  refine (zq_iln hm (pc' := 1) rfl rfl rfl rfl).trans ?_
  refine (zq_s1 hm (pc' := 4) rfl rfl rfl rfl rfl rfl).trans (zCI_c rfl (fun r2 s1 => ?_))
  refine (zJ_n rfl).trans ?_
  refine (zq_zeq hm (pc' := 7) rfl rfl).trans (zite ?_ ?_)
  · refine (zJ_n rfl).trans ?_
    refine (zq_ic hm (pc' := 16) rfl rfl rfl rfl).trans ?_
    exact zq_ri hm rfl rfl
  · refine (zJ_n rfl).trans ?_
    refine (zq_aln hm (pc' := 8) rfl rfl rfl rfl).trans ?_
    refine (zq_iln hm (pc' := 9) rfl rfl rfl rfl).trans ?_
    refine (zq_v1 hm (pc' := 12) rfl rfl rfl (cls_57_12) rfl rfl).trans (zCI_c rfl (fun r4 s3 => ?_))
    refine (zJ_n rfl).trans ?_
    refine (zq_zne hm (pc' := 15) rfl rfl).trans (zite ?_ ?_)
    · refine (zJ_n rfl).trans ?_
      refine (zq_ic hm (pc' := 16) rfl rfl rfl rfl).trans ?_
      exact zq_ri hm rfl rfl
    · refine (zJ_n rfl).trans ?_
      refine (zq_aln hm (pc' := 18) rfl rfl rfl rfl).trans ?_
      refine (zq_iln hm (pc' := 19) rfl rfl rfl rfl).trans ?_
      refine (zq_v1 hm (pc' := 22) rfl rfl rfl (cls_57_12) rfl rfl).trans (zCI_c rfl (fun r6 s5 => ?_))
      refine (zJ_n rfl).trans ?_
      refine (zq_isn hm (ls' := [some (.inl (some 57)), some (.inr (.inl x1)), some (.inr (.inl x2)), some (.inr (.inl r6)), none]) (pc' := 23) rfl rfl rfl rfl).trans ?_
      refine (zq_aln hm (pc' := 24) rfl rfl rfl rfl).trans ?_
      refine (zq_iln hm (pc' := 25) rfl rfl rfl rfl).trans ?_
      refine (zq_iln hm (pc' := 26) rfl rfl rfl rfl).trans ?_
      refine (zq_v1 hm (pc' := 29) rfl rfl rfl (cls_57_12) rfl rfl).trans (zCI_c rfl (fun r8 s7 => ?_))
      refine (zJ_n rfl).trans ?_
      refine (zq_is hm (ls' := [some (.inl (some 57)), some (.inr (.inl x1)), some (.inr (.inl x2)), some (.inr (.inl r6)), some (.inr (.inl r8))]) (pc' := 31) rfl rfl rfl rfl).trans ?_
      refine (zq_iln hm (pc' := 32) rfl rfl rfl rfl).trans ?_
      refine (zq_bi hm (pc' := 34) rfl rfl rfl rfl).trans ?_
      refine (zq_ieq hm (pc' := 37) rfl rfl).trans (zite ?_ ?_)
      · refine (zJ_n rfl).trans ?_
        refine (zq_bi hm (pc' := 46) rfl rfl rfl rfl).trans ?_
        refine (zq_goto hm rfl rfl).trans ?_
        exact zq_ri hm rfl rfl
      · refine (zJ_n rfl).trans ?_
        refine (zq_il hm (pc' := 39) rfl rfl rfl rfl).trans ?_
        refine (zq_bi hm (pc' := 41) rfl rfl rfl rfl).trans ?_
        refine (zq_ine hm (pc' := 44) rfl rfl).trans (zite ?_ ?_)
        · refine (zJ_n rfl).trans ?_
          refine (zq_bi hm (pc' := 46) rfl rfl rfl rfl).trans ?_
          refine (zq_goto hm rfl rfl).trans ?_
          exact zq_ri hm rfl rfl
        · refine (zJ_n rfl).trans ?_
          refine (zq_ic hm (pc' := 50) rfl rfl rfl rfl).trans ?_
          refine (zq_il hm (pc' := 52) rfl rfl rfl rfl).trans ?_
          refine (zq_iln hm (pc' := 53) rfl rfl rfl rfl).trans ?_
          refine (zq_isub hm (pc' := 54) rfl rfl rfl).trans ?_
          refine (zq_max hm (pc' := 57) rfl rfl rfl rfl).trans ?_
          refine (zJ_n rfl).trans ?_
          exact zq_ri hm rfl rfl
noncomputable def P_X12_goesAll_18 (d : Nat) (y1 : Int) (y2 : Int) (σ : zF) : Option zR := zrunL zX2 (zexec zX2 zMT d) K_X12_goesAll U_X12_goesAll 18 [some (.inl (some 57)), some (.inr (.inl y1)), none, some (.inr (.inl y2)), none, none] [] (LAY, σ)
set_option maxRecDepth 100000 in
set_option maxHeartbeats 4000000 in
theorem e_X12_goesAll (d : Nat) (x1 : Int) (x2 : Int) (σ : zF) : zx (d + 1) 207 [.inl (some 57), .inr (.inl x1), .inr (.inl x2)] σ = (
P_X12_goesAll_18 d x1 0 (zset (zset (zset σ 57 46 0) 57 47 x2) 57 48 (-2))) := by
  unfold zx
  have hm := zexec_m zX2 zMT d
  refine (zexec_eq mt_207 _ rfl (LAY, σ) 0).trans ?_
  show zrunL zX2 (zexec zX2 zMT d) K_X12_goesAll U_X12_goesAll 0 [some (.inl (some 57)), some (.inr (.inl x1)), some (.inr (.inl x2)), none, none, none] [] (LAY, σ) = _
  refine (zq_aln hm (pc' := 1) rfl rfl rfl rfl).trans ?_
  refine (zq_ic hm (pc' := 2) rfl rfl rfl rfl).trans ?_
  refine (zq_pf hm (pc' := 5) rfl lay_57 rfl rfl rfl).trans ?_
  refine (zJ_n rfl).trans ?_
  refine (zq_aln hm (pc' := 6) rfl rfl rfl rfl).trans ?_
  refine (zq_iln hm (pc' := 7) rfl rfl rfl rfl).trans ?_
  refine (zq_pf hm (pc' := 10) rfl lay_57 rfl rfl rfl).trans ?_
  refine (zJ_n rfl).trans ?_
  refine (zq_aln hm (pc' := 11) rfl rfl rfl rfl).trans ?_
  refine (zq_bi hm (pc' := 13) rfl rfl rfl rfl).trans ?_
  refine (zq_pf hm (pc' := 16) rfl lay_57 rfl rfl rfl).trans ?_
  refine (zJ_n rfl).trans ?_
  refine (zq_ic hm (pc' := 17) rfl rfl rfl rfl).trans ?_
  exact (zc_isn hm (ls' := [some (.inl (some 57)), some (.inr (.inl x1)), some (.inr (.inl x2)), some (.inr (.inl 0)), none, none]) (pc' := 18) rfl rfl rfl rfl).trans rfl
set_option maxRecDepth 100000 in
set_option maxHeartbeats 4000000 in
theorem e_X12_goesAll_18 (d : Nat) (y1 : Int) (y2 : Int) (σ : zF) : P_X12_goesAll_18 d y1 y2 σ = (
if 0 ≤ y1 ∧ y1 < 6 then (
if y2 < (σ 82 y1) then (
if y2 < 20 then (
zCI LAY (zx d 162 [.inl (some 57), .inr (.inl y1), .inr (.inl y2)] σ) fun r102 s101 =>
if r102 < 0 then (
zrv s101) else (
if (3 : Int) = 0 then none else (
if zdiv r102 3 < (s101 57 0) then (
if (3 : Int) = 0 then none else (
zCI LAY (zx d 188 [.inl (some 57), .inr (.inl (zdiv r102 3))] s101) fun r104 s103 =>
if r104 = 0 then (
zCI LAY (zx d 189 [.inl (some 57), .inr (.inl (zdiv r102 3)), .inr (.inl (s103 57 47))] s103) fun r106 s105 =>
if r106 = 0 then (
zrv (zset s105 57 48 y2)) else (
zCI LAY (zx d 192 [.inl (some 57), .inr (.inl (zdiv r102 3))] s105) fun r108 s107 =>
if 0 ≤ zdiv r102 3 ∧ zdiv r102 3 < 12 then (
if 0 ≤ zdiv r102 3 ∧ zdiv r102 3 < 12 then (
if (3 : Int) = 0 then none else (
zCV LAY (zx d 196 [.inl (some 57), .inr (.inl (zdiv r102 3)), .inr (.inl (zrem r102 3))] (zset (zset s107 57 46 (zw ((s105 57 46) + r108))) 57 47 (zw ((zw ((s107 58 (zdiv r102 3)) + (s107 59 (zdiv r102 3)))) - (s107 57 47))))) fun s109 =>
P_X12_goesAll_18 d y1 (zw (y2 + 1)) s109)) else (
none)) else (
none))) else (
zrv (zset s103 57 48 y2)))) else (
zrv s101)))) else (
zrv σ)) else (
zrv σ)) else (
none)) := by
  have hm := zexec_m zX2 zMT d
  show zrunL zX2 (zexec zX2 zMT d) K_X12_goesAll U_X12_goesAll 18 [some (.inl (some 57)), some (.inr (.inl y1)), none, some (.inr (.inl y2)), none, none] [] (LAY, σ) = _
  refine (zq_iln hm (pc' := 19) rfl rfl rfl rfl).trans ?_
  refine (zq_aln hm (pc' := 20) rfl rfl rfl rfl).trans ?_
  refine (zq_gr hm (pc' := 23) rfl lay_57 rfl rfl).trans ?_
  refine (zJ_n rfl).trans ?_
  refine (zq_iln hm (pc' := 24) rfl rfl rfl rfl).trans ?_
  refine (zq_ia hm (v := (σ 82 y1)) (pc' := 25) rfl lay_82 rfl rfl).trans (zite ?_ rfl)
  refine (zJ_n rfl).trans ?_
  refine (zq_ige hm (pc' := 28) rfl rfl).trans (zite ?_ ?_)
  · refine (zJ_n rfl).trans ?_
    refine (zq_iln hm (pc' := 29) rfl rfl rfl rfl).trans ?_
    refine (zq_bi hm (pc' := 31) rfl rfl rfl rfl).trans ?_
    refine (zq_ige hm (pc' := 34) rfl rfl).trans (zite ?_ ?_)
    · refine (zJ_n rfl).trans ?_
      refine (zq_aln hm (pc' := 35) rfl rfl rfl rfl).trans ?_
      refine (zq_iln hm (pc' := 36) rfl rfl rfl rfl).trans ?_
      refine (zq_iln hm (pc' := 37) rfl rfl rfl rfl).trans ?_
      refine (zq_v1 hm (pc' := 40) rfl rfl rfl (cls_57_12) rfl rfl).trans (zCI_c rfl (fun r102 s101 => ?_))
      refine (zJ_n rfl).trans ?_
      refine (zq_is hm (ls' := [some (.inl (some 57)), some (.inr (.inl y1)), none, some (.inr (.inl y2)), some (.inr (.inl r102)), none]) (pc' := 42) rfl rfl rfl rfl).trans ?_
      refine (zq_il hm (pc' := 44) rfl rfl rfl rfl).trans ?_
      refine (zq_zlt hm (pc' := 47) rfl rfl).trans (zite ?_ ?_)
      · refine (zJ_n rfl).trans ?_
        exact zq_rv hm rfl
      · refine (zJ_n rfl).trans ?_
        refine (zq_il hm (pc' := 49) rfl rfl rfl rfl).trans ?_
        refine (zq_ic hm (pc' := 50) rfl rfl rfl rfl).trans ?_
        refine (zq_idiv hm (pc' := 51) rfl rfl).trans (zite rfl ?_)
        refine (zJ_n rfl).trans ?_
        refine (zq_aln hm (pc' := 52) rfl rfl rfl rfl).trans ?_
        refine (zq_gf hm (v := (s101 57 0)) (pc' := 55) rfl lay_57 rfl rfl rfl).trans ?_
        refine (zJ_n rfl).trans ?_
        refine (zq_ilt hm (pc' := 58) rfl rfl).trans (zite ?_ ?_)
        · refine (zJ_n rfl).trans ?_
          refine (zq_il hm (pc' := 61) rfl rfl rfl rfl).trans ?_
          refine (zq_ic hm (pc' := 62) rfl rfl rfl rfl).trans ?_
          refine (zq_idiv hm (pc' := 63) rfl rfl).trans (zite rfl ?_)
          refine (zJ_n rfl).trans ?_
          refine (zq_is hm (ls' := [some (.inl (some 57)), some (.inr (.inl y1)), none, some (.inr (.inl y2)), some (.inr (.inl r102)), some (.inr (.inl (zdiv r102 3)))]) (pc' := 65) rfl rfl rfl rfl).trans ?_
          refine (zq_aln hm (pc' := 66) rfl rfl rfl rfl).trans ?_
          refine (zq_il hm (pc' := 68) rfl rfl rfl rfl).trans ?_
          refine (zq_v1 hm (pc' := 71) rfl rfl rfl (cls_57_12) rfl rfl).trans (zCI_c rfl (fun r104 s103 => ?_))
          refine (zJ_n rfl).trans ?_
          refine (zq_zne hm (pc' := 74) rfl rfl).trans (zite ?_ ?_)
          · refine (zJ_n rfl).trans ?_
            refine (zq_aln hm (pc' := 75) rfl rfl rfl rfl).trans ?_
            refine (zq_il hm (pc' := 77) rfl rfl rfl rfl).trans ?_
            refine (zq_aln hm (pc' := 78) rfl rfl rfl rfl).trans ?_
            refine (zq_gf hm (v := (s103 57 47)) (pc' := 81) rfl lay_57 rfl rfl rfl).trans ?_
            refine (zJ_n rfl).trans ?_
            refine (zq_v1 hm (pc' := 84) rfl rfl rfl (cls_57_12) rfl rfl).trans (zCI_c rfl (fun r106 s105 => ?_))
            refine (zJ_n rfl).trans ?_
            refine (zq_zne hm (pc' := 87) rfl rfl).trans (zite ?_ ?_)
            · refine (zJ_n rfl).trans ?_
              refine (zq_aln hm (pc' := 88) rfl rfl rfl rfl).trans ?_
              refine (zq_iln hm (pc' := 89) rfl rfl rfl rfl).trans ?_
              refine (zq_pf hm (pc' := 92) rfl lay_57 rfl rfl rfl).trans ?_
              refine (zJ_n rfl).trans ?_
              exact zq_rv hm rfl
            · refine (zJ_n rfl).trans ?_
              refine (zq_aln hm (pc' := 94) rfl rfl rfl rfl).trans ?_
              refine (zq_dup hm (pc' := 95) rfl rfl rfl rfl).trans ?_
              refine (zq_gf hm (v := (s105 57 46)) (pc' := 98) rfl lay_57 rfl rfl rfl).trans ?_
              refine (zJ_n rfl).trans ?_
              refine (zq_aln hm (pc' := 99) rfl rfl rfl rfl).trans ?_
              refine (zq_il hm (pc' := 101) rfl rfl rfl rfl).trans ?_
              refine (zq_v1 hm (pc' := 104) rfl rfl rfl (cls_57_12) rfl rfl).trans (zCI_c rfl (fun r108 s107 => ?_))
              refine (zJ_n rfl).trans ?_
              refine (zq_iadd hm (pc' := 105) rfl rfl rfl).trans ?_
              refine (zq_pf hm (pc' := 108) rfl lay_57 rfl rfl rfl).trans ?_
              refine (zJ_n rfl).trans ?_
              refine (zq_aln hm (pc' := 109) rfl rfl rfl rfl).trans ?_
              refine (zq_aln hm (pc' := 110) rfl rfl rfl rfl).trans ?_
              refine (zq_gr hm (pc' := 113) rfl lay_57 rfl rfl).trans ?_
              refine (zJ_n rfl).trans ?_
              refine (zq_il hm (pc' := 115) rfl rfl rfl rfl).trans ?_
              refine (zq_ia hm (v := (s107 58 (zdiv r102 3))) (pc' := 116) rfl lay_58 (zsn rfl) rfl).trans (zite ?_ rfl)
              refine (zJ_n rfl).trans ?_
              refine (zq_aln hm (pc' := 117) rfl rfl rfl rfl).trans ?_
              refine (zq_gr hm (pc' := 120) rfl lay_57 rfl rfl).trans ?_
              refine (zJ_n rfl).trans ?_
              refine (zq_il hm (pc' := 122) rfl rfl rfl rfl).trans ?_
              refine (zq_ia hm (v := (s107 59 (zdiv r102 3))) (pc' := 123) rfl lay_59 (zsn rfl) rfl).trans (zite ?_ rfl)
              refine (zJ_n rfl).trans ?_
              refine (zq_iadd hm (pc' := 124) rfl rfl rfl).trans ?_
              refine (zq_aln hm (pc' := 125) rfl rfl rfl rfl).trans ?_
              refine (zq_gf hm (v := (s107 57 47)) (pc' := 128) rfl lay_57 rfl (zsi (by decide)) rfl).trans ?_
              refine (zJ_n rfl).trans ?_
              refine (zq_isub hm (pc' := 129) rfl rfl rfl).trans ?_
              refine (zq_pf hm (pc' := 132) rfl lay_57 rfl rfl rfl).trans ?_
              refine (zJ_n rfl).trans ?_
              refine (zq_aln hm (pc' := 133) rfl rfl rfl rfl).trans ?_
              refine (zq_il hm (pc' := 135) rfl rfl rfl rfl).trans ?_
              refine (zq_il hm (pc' := 137) rfl rfl rfl rfl).trans ?_
              refine (zq_ic hm (pc' := 138) rfl rfl rfl rfl).trans ?_
              refine (zq_irem hm (pc' := 139) rfl rfl).trans (zite rfl ?_)
              refine (zJ_n rfl).trans ?_
              refine (zq_v0 hm (pc' := 142) rfl rfl rfl (cls_57_12) rfl rfl).trans (zCV_c rfl (fun s109 => ?_))
              refine (zJ_n rfl).trans ?_
              refine (zq_iinc hm (ls' := [some (.inl (some 57)), some (.inr (.inl y1)), none, some (.inr (.inl (zw (y2 + 1)))), some (.inr (.inl r102)), some (.inr (.inl (zdiv r102 3)))]) (pc' := 145) rfl rfl rfl rfl rfl rfl).trans ?_
              exact (zc_goto hm rfl rfl).trans rfl
          · refine (zJ_n rfl).trans ?_
            refine (zq_aln hm (pc' := 88) rfl rfl rfl rfl).trans ?_
            refine (zq_iln hm (pc' := 89) rfl rfl rfl rfl).trans ?_
            refine (zq_pf hm (pc' := 92) rfl lay_57 rfl rfl rfl).trans ?_
            refine (zJ_n rfl).trans ?_
            exact zq_rv hm rfl
        · refine (zJ_n rfl).trans ?_
          exact zq_rv hm rfl
    · refine (zJ_n rfl).trans ?_
      exact zq_rv hm rfl
  · refine (zJ_n rfl).trans ?_
    exact zq_rv hm rfl
noncomputable def P_X12_trip_34 (d : Nat) (y1 : Int) (y2 : Int) (y3 : Int) (σ : zF) : Option zR := zrunL zX2 (zexec zX2 zMT d) K_X12_trip U_X12_trip 34 [some (.inl (some 57)), some (.inr (.inl y1)), some (.inr (.inl y2)), some (.inr (.inl y3)), none] [] (LAY, σ)
set_option maxRecDepth 100000 in
set_option maxHeartbeats 4000000 in
theorem e_X12_trip (d : Nat) (x1 : Int) (x2 : Int) (x3 : Int) (σ : zF) : zx (d + 1) 208 [.inl (some 57), .inr (.inl x1), .inr (.inl x2), .inr (.inl x3)] σ = (
zCI LAY (zx d 158 [.inr (.inl x1)] σ) fun r2 s1 =>
if r2 = 0 then (
zri (-2000000000) s1) else (
zCI LAY (zx d 156 [.inr (.inl x2)] s1) fun r4 s3 =>
if r4 = 0 then (
zri (-2000000000) s3) else (
zCI LAY (zx d 153 [.inr (.inl x3), .inr (.inl 0), .inr (.inl 2)] s3) fun r6 s5 =>
if r6 = 0 then (
zCI LAY (zx d 154 [.inl (some 57), .inr (.inl (zw (x3 - 10)))] s5) fun r8 s7 =>
if r8 = 0 then (
zri (-2000000000) s7) else (
P_X12_trip_34 d x1 x2 x3 s7)) else (
P_X12_trip_34 d x1 x2 x3 s5)))) := by
  unfold zx
  have hm := zexec_m zX2 zMT d
  refine (zexec_eq mt_208 _ rfl (LAY, σ) 0).trans ?_
  show zrunL zX2 (zexec zX2 zMT d) K_X12_trip U_X12_trip 0 [some (.inl (some 57)), some (.inr (.inl x1)), some (.inr (.inl x2)), some (.inr (.inl x3)), none] [] (LAY, σ) = _
  refine (zq_iln hm (pc' := 1) rfl rfl rfl rfl).trans ?_
  refine (zq_s1 hm (pc' := 4) rfl rfl rfl rfl rfl rfl).trans (zCI_c rfl (fun r2 s1 => ?_))
  refine (zJ_n rfl).trans ?_
  refine (zq_zeq hm (pc' := 7) rfl rfl).trans (zite ?_ ?_)
  · refine (zJ_n rfl).trans ?_
    refine (zq_ld hm (pc' := 45) rfl rfl rfl rfl).trans ?_
    exact zq_ri hm rfl rfl
  · refine (zJ_n rfl).trans ?_
    refine (zq_iln hm (pc' := 8) rfl rfl rfl rfl).trans ?_
    refine (zq_s1 hm (pc' := 11) rfl rfl rfl rfl rfl rfl).trans (zCI_c rfl (fun r4 s3 => ?_))
    refine (zJ_n rfl).trans ?_
    refine (zq_zeq hm (pc' := 14) rfl rfl).trans (zite ?_ ?_)
    · refine (zJ_n rfl).trans ?_
      refine (zq_ld hm (pc' := 45) rfl rfl rfl rfl).trans ?_
      exact zq_ri hm rfl rfl
    · refine (zJ_n rfl).trans ?_
      refine (zq_iln hm (pc' := 15) rfl rfl rfl rfl).trans ?_
      refine (zq_ic hm (pc' := 16) rfl rfl rfl rfl).trans ?_
      refine (zq_ic hm (pc' := 17) rfl rfl rfl rfl).trans ?_
      refine (zq_s1 hm (pc' := 20) rfl rfl rfl rfl rfl rfl).trans (zCI_c rfl (fun r6 s5 => ?_))
      refine (zJ_n rfl).trans ?_
      refine (zq_zne hm (pc' := 23) rfl rfl).trans (zite ?_ ?_)
      · refine (zJ_n rfl).trans ?_
        refine (zq_aln hm (pc' := 24) rfl rfl rfl rfl).trans ?_
        refine (zq_iln hm (pc' := 25) rfl rfl rfl rfl).trans ?_
        refine (zq_bi hm (pc' := 27) rfl rfl rfl rfl).trans ?_
        refine (zq_isub hm (pc' := 28) rfl rfl rfl).trans ?_
        refine (zq_v1 hm (pc' := 31) rfl rfl rfl (cls_57_12) rfl rfl).trans (zCI_c rfl (fun r8 s7 => ?_))
        refine (zJ_n rfl).trans ?_
        refine (zq_zeq hm (pc' := 34) rfl rfl).trans (zite ?_ ?_)
        · refine (zJ_n rfl).trans ?_
          refine (zq_ld hm (pc' := 45) rfl rfl rfl rfl).trans ?_
          exact zq_ri hm rfl rfl
        · exact (zJ_c rfl).trans rfl
      · exact (zJ_c rfl).trans rfl
set_option maxRecDepth 100000 in
set_option maxHeartbeats 4000000 in
theorem e_X12_trip_34 (d : Nat) (y1 : Int) (y2 : Int) (y3 : Int) (σ : zF) : P_X12_trip_34 d y1 y2 y3 σ = (
if 0 ≤ y1 ∧ y1 < 6 then (
if (σ 81 y1) = 0 then (
zCV LAY (zx d 197 [.inl (some 57), .inl (some 86)] σ) fun s101 =>
zCV LAY (zx d 207 [.inl (some 57), .inr (.inl y1), .inr (.inl y2)] s101) fun s102 =>
if y3 = 0 then (
zCV LAY (zx d 198 [.inl (some 57), .inl (some 86)] s102) fun s106 =>
zri (s102 57 46) s106) else (
if y3 = 1 then (
zCV LAY (zx d 198 [.inl (some 57), .inl (some 86)] s102) fun s105 =>
zri (s102 57 47) s105) else (
if y3 = 2 then (
zCV LAY (zx d 198 [.inl (some 57), .inl (some 86)] s102) fun s104 =>
zri (s102 57 48) s104) else (
if 0 ≤ zw ((zw (12 + y3)) - 10) ∧ zw ((zw (12 + y3)) - 10) < 48 then (
zCV LAY (zx d 198 [.inl (some 57), .inl (some 86)] s102) fun s103 =>
zri (s102 60 (zw ((zw (12 + y3)) - 10))) s103) else (
none))))) else (
zri (-2000000000) σ)) else (
none)) := by
  have hm := zexec_m zX2 zMT d
  show zrunL zX2 (zexec zX2 zMT d) K_X12_trip U_X12_trip 34 [some (.inl (some 57)), some (.inr (.inl y1)), some (.inr (.inl y2)), some (.inr (.inl y3)), none] [] (LAY, σ) = _
  refine (zq_aln hm (pc' := 35) rfl rfl rfl rfl).trans ?_
  refine (zq_gr hm (pc' := 38) rfl lay_57 rfl rfl).trans ?_
  refine (zJ_n rfl).trans ?_
  refine (zq_iln hm (pc' := 39) rfl rfl rfl rfl).trans ?_
  refine (zq_ia hm (v := (σ 81 y1)) (pc' := 40) rfl lay_81 rfl rfl).trans (zite ?_ rfl)
  refine (zJ_n rfl).trans ?_
  refine (zq_zeq hm (pc' := 43) rfl rfl).trans (zite ?_ ?_)
  · refine (zJ_n rfl).trans ?_
    refine (zq_aln hm (pc' := 47) rfl rfl rfl rfl).trans ?_
    refine (zq_aln hm (pc' := 48) rfl rfl rfl rfl).trans ?_
    refine (zq_gr hm (pc' := 51) rfl lay_57 rfl rfl).trans ?_
    refine (zJ_n rfl).trans ?_
    refine (zq_v0 hm (pc' := 54) rfl rfl rfl (cls_57_12) rfl rfl).trans (zCV_c rfl (fun s101 => ?_))
    refine (zJ_n rfl).trans ?_
    refine (zq_aln hm (pc' := 55) rfl rfl rfl rfl).trans ?_
    refine (zq_iln hm (pc' := 56) rfl rfl rfl rfl).trans ?_
    refine (zq_iln hm (pc' := 57) rfl rfl rfl rfl).trans ?_
    refine (zq_v0 hm (pc' := 60) rfl rfl rfl (cls_57_12) rfl rfl).trans (zCV_c rfl (fun s102 => ?_))
    refine (zJ_n rfl).trans ?_
    refine (zq_iln hm (pc' := 61) rfl rfl rfl rfl).trans ?_
    refine (zq_zne hm (pc' := 64) rfl rfl).trans (zite ?_ ?_)
    · refine (zJ_n rfl).trans ?_
      refine (zq_aln hm (pc' := 65) rfl rfl rfl rfl).trans ?_
      refine (zq_gf hm (v := (s102 57 46)) (pc' := 68) rfl lay_57 rfl rfl rfl).trans ?_
      refine (zJ_n rfl).trans ?_
      refine (zq_goto hm rfl rfl).trans ?_
      refine (zq_is hm (ls' := [some (.inl (some 57)), some (.inr (.inl y1)), some (.inr (.inl y2)), some (.inr (.inl y3)), some (.inr (.inl (s102 57 46)))]) (pc' := 109) rfl rfl rfl rfl).trans ?_
      refine (zq_aln hm (pc' := 110) rfl rfl rfl rfl).trans ?_
      refine (zq_aln hm (pc' := 111) rfl rfl rfl rfl).trans ?_
      refine (zq_gr hm (pc' := 114) rfl lay_57 rfl rfl).trans ?_
      refine (zJ_n rfl).trans ?_
      refine (zq_v0 hm (pc' := 117) rfl rfl rfl (cls_57_12) rfl rfl).trans (zCV_c rfl (fun s106 => ?_))
      refine (zJ_n rfl).trans ?_
      refine (zq_il hm (pc' := 119) rfl rfl rfl rfl).trans ?_
      exact zq_ri hm rfl rfl
    · refine (zJ_n rfl).trans ?_
      refine (zq_iln hm (pc' := 72) rfl rfl rfl rfl).trans ?_
      refine (zq_ic hm (pc' := 73) rfl rfl rfl rfl).trans ?_
      refine (zq_ine hm (pc' := 76) rfl rfl).trans (zite ?_ ?_)
      · refine (zJ_n rfl).trans ?_
        refine (zq_aln hm (pc' := 77) rfl rfl rfl rfl).trans ?_
        refine (zq_gf hm (v := (s102 57 47)) (pc' := 80) rfl lay_57 rfl rfl rfl).trans ?_
        refine (zJ_n rfl).trans ?_
        refine (zq_goto hm rfl rfl).trans ?_
        refine (zq_is hm (ls' := [some (.inl (some 57)), some (.inr (.inl y1)), some (.inr (.inl y2)), some (.inr (.inl y3)), some (.inr (.inl (s102 57 47)))]) (pc' := 109) rfl rfl rfl rfl).trans ?_
        refine (zq_aln hm (pc' := 110) rfl rfl rfl rfl).trans ?_
        refine (zq_aln hm (pc' := 111) rfl rfl rfl rfl).trans ?_
        refine (zq_gr hm (pc' := 114) rfl lay_57 rfl rfl).trans ?_
        refine (zJ_n rfl).trans ?_
        refine (zq_v0 hm (pc' := 117) rfl rfl rfl (cls_57_12) rfl rfl).trans (zCV_c rfl (fun s105 => ?_))
        refine (zJ_n rfl).trans ?_
        refine (zq_il hm (pc' := 119) rfl rfl rfl rfl).trans ?_
        exact zq_ri hm rfl rfl
      · refine (zJ_n rfl).trans ?_
        refine (zq_iln hm (pc' := 84) rfl rfl rfl rfl).trans ?_
        refine (zq_ic hm (pc' := 85) rfl rfl rfl rfl).trans ?_
        refine (zq_ine hm (pc' := 88) rfl rfl).trans (zite ?_ ?_)
        · refine (zJ_n rfl).trans ?_
          refine (zq_aln hm (pc' := 89) rfl rfl rfl rfl).trans ?_
          refine (zq_gf hm (v := (s102 57 48)) (pc' := 92) rfl lay_57 rfl rfl rfl).trans ?_
          refine (zJ_n rfl).trans ?_
          refine (zq_goto hm rfl rfl).trans ?_
          refine (zq_is hm (ls' := [some (.inl (some 57)), some (.inr (.inl y1)), some (.inr (.inl y2)), some (.inr (.inl y3)), some (.inr (.inl (s102 57 48)))]) (pc' := 109) rfl rfl rfl rfl).trans ?_
          refine (zq_aln hm (pc' := 110) rfl rfl rfl rfl).trans ?_
          refine (zq_aln hm (pc' := 111) rfl rfl rfl rfl).trans ?_
          refine (zq_gr hm (pc' := 114) rfl lay_57 rfl rfl).trans ?_
          refine (zJ_n rfl).trans ?_
          refine (zq_v0 hm (pc' := 117) rfl rfl rfl (cls_57_12) rfl rfl).trans (zCV_c rfl (fun s104 => ?_))
          refine (zJ_n rfl).trans ?_
          refine (zq_il hm (pc' := 119) rfl rfl rfl rfl).trans ?_
          exact zq_ri hm rfl rfl
        · refine (zJ_n rfl).trans ?_
          refine (zq_aln hm (pc' := 96) rfl rfl rfl rfl).trans ?_
          refine (zq_gr hm (pc' := 99) rfl lay_57 rfl rfl).trans ?_
          refine (zJ_n rfl).trans ?_
          refine (zq_bi hm (pc' := 101) rfl rfl rfl rfl).trans ?_
          refine (zq_iln hm (pc' := 102) rfl rfl rfl rfl).trans ?_
          refine (zq_iadd hm (pc' := 103) rfl rfl rfl).trans ?_
          refine (zq_bi hm (pc' := 105) rfl rfl rfl rfl).trans ?_
          refine (zq_isub hm (pc' := 106) rfl rfl rfl).trans ?_
          refine (zq_ia hm (v := (s102 60 (zw ((zw (12 + y3)) - 10)))) (pc' := 107) rfl lay_60 rfl rfl).trans (zite ?_ rfl)
          refine (zJ_n rfl).trans ?_
          refine (zq_is hm (ls' := [some (.inl (some 57)), some (.inr (.inl y1)), some (.inr (.inl y2)), some (.inr (.inl y3)), some (.inr (.inl (s102 60 (zw ((zw (12 + y3)) - 10)))))]) (pc' := 109) rfl rfl rfl rfl).trans ?_
          refine (zq_aln hm (pc' := 110) rfl rfl rfl rfl).trans ?_
          refine (zq_aln hm (pc' := 111) rfl rfl rfl rfl).trans ?_
          refine (zq_gr hm (pc' := 114) rfl lay_57 rfl rfl).trans ?_
          refine (zJ_n rfl).trans ?_
          refine (zq_v0 hm (pc' := 117) rfl rfl rfl (cls_57_12) rfl rfl).trans (zCV_c rfl (fun s103 => ?_))
          refine (zJ_n rfl).trans ?_
          refine (zq_il hm (pc' := 119) rfl rfl rfl rfl).trans ?_
          exact zq_ri hm rfl rfl
  · refine (zJ_n rfl).trans ?_
    refine (zq_ld hm (pc' := 45) rfl rfl rfl rfl).trans ?_
    exact zq_ri hm rfl rfl
noncomputable def P_X12_rounds_86 (d : Nat) (y1 : Int) (y2 : Int) (y3 : Int) (y4 : Int) (y5 : Int) (y6 : Int) (σ : zF) : Option zR := zrunL zX2 (zexec zX2 zMT d) K_X12_rounds U_X12_rounds 86 [some (.inl (some 57)), some (.inr (.inl y1)), some (.inr (.inl y2)), some (.inr (.inl y3)), some (.inr (.inl y4)), some (.inr (.inl y5)), some (.inr (.inl y6)), none] [] (LAY, σ)
noncomputable def P_X12_rounds_53 (d : Nat) (y1 : Int) (σ : zF) : Option zR := zrunL zX2 (zexec zX2 zMT d) K_X12_rounds U_X12_rounds 53 [some (.inl (some 57)), none, none, none, none, none, none, some (.inr (.inl y1))] [] (LAY, σ)
set_option maxRecDepth 100000 in
set_option maxHeartbeats 4000000 in
theorem e_X12_rounds (d : Nat) (x1 : Int) (x2 : Int) (x3 : Int) (x4 : Int) (x5 : Int) (σ : zF) : zx (d + 1) 209 [.inl (some 57), .inr (.inl x1), .inr (.inl x2), .inr (.inl x3), .inr (.inl x4), .inr (.inl x5)] σ = (
if x5 < (σ 57 54) then (
if x1 = (σ 57 50) then (
if 0 ≤ zw ((zw (8 * x3)) + x2) ∧ zw ((zw (8 * x3)) + x2) < 64 then (
if zw (x5 + (σ 88 (zw ((zw (8 * x3)) + x2)))) < (σ 57 54) then (
P_X12_rounds_53 d 0 (zset σ 57 54 (zw (x5 + (σ 88 (zw ((zw (8 * x3)) + x2))))))) else (
zrv σ)) else (
none)) else (
P_X12_rounds_86 d x1 x2 x3 x4 x5 0 σ)) else (
zrv σ)) := by
  unfold zx
  have hm := zexec_m zX2 zMT d
  refine (zexec_eq mt_209 _ rfl (LAY, σ) 0).trans ?_
  show zrunL zX2 (zexec zX2 zMT d) K_X12_rounds U_X12_rounds 0 [some (.inl (some 57)), some (.inr (.inl x1)), some (.inr (.inl x2)), some (.inr (.inl x3)), some (.inr (.inl x4)), some (.inr (.inl x5)), none, none] [] (LAY, σ) = _
  refine (zq_il hm (pc' := 2) rfl rfl rfl rfl).trans ?_
  refine (zq_aln hm (pc' := 3) rfl rfl rfl rfl).trans ?_
  refine (zq_gf hm (v := (σ 57 54)) (pc' := 6) rfl lay_57 rfl rfl rfl).trans ?_
  refine (zJ_n rfl).trans ?_
  refine (zq_ilt hm (pc' := 9) rfl rfl).trans (zite ?_ ?_)
  · refine (zJ_n rfl).trans ?_
    refine (zq_iln hm (pc' := 11) rfl rfl rfl rfl).trans ?_
    refine (zq_aln hm (pc' := 12) rfl rfl rfl rfl).trans ?_
    refine (zq_gf hm (v := (σ 57 50)) (pc' := 15) rfl lay_57 rfl rfl rfl).trans ?_
    refine (zJ_n rfl).trans ?_
    refine (zq_ine hm (pc' := 18) rfl rfl).trans (zite ?_ ?_)
    · refine (zJ_n rfl).trans ?_
      refine (zq_il hm (pc' := 20) rfl rfl rfl rfl).trans ?_
      refine (zq_aln hm (pc' := 21) rfl rfl rfl rfl).trans ?_
      refine (zq_gr hm (pc' := 24) rfl lay_57 rfl rfl).trans ?_
      refine (zJ_n rfl).trans ?_
      refine (zq_bi hm (pc' := 26) rfl rfl rfl rfl).trans ?_
      refine (zq_iln hm (pc' := 27) rfl rfl rfl rfl).trans ?_
      refine (zq_imul hm (pc' := 28) rfl rfl rfl).trans ?_
      refine (zq_iln hm (pc' := 29) rfl rfl rfl rfl).trans ?_
      refine (zq_iadd hm (pc' := 30) rfl rfl rfl).trans ?_
      refine (zq_ia hm (v := (σ 88 (zw ((zw (8 * x3)) + x2)))) (pc' := 31) rfl lay_88 rfl rfl).trans (zite ?_ rfl)
      refine (zJ_n rfl).trans ?_
      refine (zq_iadd hm (pc' := 32) rfl rfl rfl).trans ?_
      refine (zq_is hm (ls' := [some (.inl (some 57)), some (.inr (.inl x1)), some (.inr (.inl x2)), some (.inr (.inl x3)), some (.inr (.inl x4)), some (.inr (.inl x5)), some (.inr (.inl (zw (x5 + (σ 88 (zw ((zw (8 * x3)) + x2))))))), none]) (pc' := 34) rfl rfl rfl rfl).trans ?_
      refine (zq_il hm (pc' := 36) rfl rfl rfl rfl).trans ?_
      refine (zq_aln hm (pc' := 37) rfl rfl rfl rfl).trans ?_
      refine (zq_gf hm (v := (σ 57 54)) (pc' := 40) rfl lay_57 rfl rfl rfl).trans ?_
      refine (zJ_n rfl).trans ?_
      refine (zq_ilt hm (pc' := 43) rfl rfl).trans (zite ?_ ?_)
      · refine (zJ_n rfl).trans ?_
        refine (zq_aln hm (pc' := 45) rfl rfl rfl rfl).trans ?_
        refine (zq_il hm (pc' := 47) rfl rfl rfl rfl).trans ?_
        refine (zq_pf hm (pc' := 50) rfl lay_57 rfl rfl rfl).trans ?_
        refine (zJ_n rfl).trans ?_
        refine (zq_ic hm (pc' := 51) rfl rfl rfl rfl).trans ?_
        exact (zc_is hm (ls' := [some (.inl (some 57)), some (.inr (.inl x1)), some (.inr (.inl x2)), some (.inr (.inl x3)), some (.inr (.inl x4)), some (.inr (.inl x5)), some (.inr (.inl (zw (x5 + (σ 88 (zw ((zw (8 * x3)) + x2))))))), some (.inr (.inl 0))]) (pc' := 53) rfl rfl rfl rfl).trans rfl
      · refine (zJ_n rfl).trans ?_
        exact zq_rv hm rfl
    · refine (zJ_n rfl).trans ?_
      refine (zq_ic hm (pc' := 84) rfl rfl rfl rfl).trans ?_
      exact (zc_is hm (ls' := [some (.inl (some 57)), some (.inr (.inl x1)), some (.inr (.inl x2)), some (.inr (.inl x3)), some (.inr (.inl x4)), some (.inr (.inl x5)), some (.inr (.inl 0)), none]) (pc' := 86) rfl rfl rfl rfl).trans rfl
  · refine (zJ_n rfl).trans ?_
    exact zq_rv hm rfl
set_option maxRecDepth 100000 in
set_option maxHeartbeats 4000000 in
theorem e_X12_rounds_86 (d : Nat) (y1 : Int) (y2 : Int) (y3 : Int) (y4 : Int) (y5 : Int) (y6 : Int) (σ : zF) : P_X12_rounds_86 d y1 y2 y3 y4 y5 y6 σ = (
if y6 < (σ 57 50) then (
if zand (zshr y4 y6) 1 = 1 then (
P_X12_rounds_86 d y1 y2 y3 y4 y5 (zw (y6 + 1)) σ) else (
if 0 ≤ y6 ∧ y6 < 8 then (
if 0 ≤ y1 ∧ y1 < 8 then (
if 0 ≤ y6 ∧ y6 < 8 then (
if 0 ≤ y6 ∧ y6 < 8 then (
if 0 ≤ zw ((zw (8 * y3)) + (σ 89 y6)) ∧ zw ((zw (8 * y3)) + (σ 89 y6)) < 64 then (
zCV LAY (zx d 209 [.inl (some 57), .inr (.inl (zw (y1 + 1))), .inr (.inl y2), .inr (.inl (σ 89 y6)), .inr (.inl (zor y4 (zshl 1 y6))), .inr (.inl (zw (y5 + (σ 88 (zw ((zw (8 * y3)) + (σ 89 y6)))))))] (zset σ 90 y1 (σ 89 y6))) fun s101 =>
P_X12_rounds_86 d y1 y2 y3 y4 y5 (zw (y6 + 1)) s101) else (
none)) else (
none)) else (
none)) else (
none)) else (
none))) else (
zrv σ)) := by
  have hm := zexec_m zX2 zMT d
  show zrunL zX2 (zexec zX2 zMT d) K_X12_rounds U_X12_rounds 86 [some (.inl (some 57)), some (.inr (.inl y1)), some (.inr (.inl y2)), some (.inr (.inl y3)), some (.inr (.inl y4)), some (.inr (.inl y5)), some (.inr (.inl y6)), none] [] (LAY, σ) = _
  refine (zq_il hm (pc' := 88) rfl rfl rfl rfl).trans ?_
  refine (zq_aln hm (pc' := 89) rfl rfl rfl rfl).trans ?_
  refine (zq_gf hm (v := (σ 57 50)) (pc' := 92) rfl lay_57 rfl rfl rfl).trans ?_
  refine (zJ_n rfl).trans ?_
  refine (zq_ige hm (pc' := 95) rfl rfl).trans (zite ?_ ?_)
  · refine (zJ_n rfl).trans ?_
    refine (zq_il hm (pc' := 97) rfl rfl rfl rfl).trans ?_
    refine (zq_il hm (pc' := 99) rfl rfl rfl rfl).trans ?_
    refine (zq_ishr hm (pc' := 100) rfl rfl rfl).trans ?_
    refine (zq_ic hm (pc' := 101) rfl rfl rfl rfl).trans ?_
    refine (zq_iand hm (pc' := 102) rfl rfl rfl).trans ?_
    refine (zq_ic hm (pc' := 103) rfl rfl rfl rfl).trans ?_
    refine (zq_ine hm (pc' := 106) rfl rfl).trans (zite ?_ ?_)
    · refine (zJ_n rfl).trans ?_
      refine (zq_goto hm rfl rfl).trans ?_
      refine (zq_iinc hm (ls' := [some (.inl (some 57)), some (.inr (.inl y1)), some (.inr (.inl y2)), some (.inr (.inl y3)), some (.inr (.inl y4)), some (.inr (.inl y5)), some (.inr (.inl (zw (y6 + 1)))), none]) (pc' := 167) rfl rfl rfl rfl rfl rfl).trans ?_
      exact (zc_goto hm rfl rfl).trans rfl
    · refine (zJ_n rfl).trans ?_
      refine (zq_aln hm (pc' := 110) rfl rfl rfl rfl).trans ?_
      refine (zq_gr hm (pc' := 113) rfl lay_57 rfl rfl).trans ?_
      refine (zJ_n rfl).trans ?_
      refine (zq_iln hm (pc' := 114) rfl rfl rfl rfl).trans ?_
      refine (zq_aln hm (pc' := 115) rfl rfl rfl rfl).trans ?_
      refine (zq_gr hm (pc' := 118) rfl lay_57 rfl rfl).trans ?_
      refine (zJ_n rfl).trans ?_
      refine (zq_il hm (pc' := 120) rfl rfl rfl rfl).trans ?_
      refine (zq_ia hm (v := (σ 89 y6)) (pc' := 121) rfl lay_89 rfl rfl).trans (zite ?_ rfl)
      refine (zJ_n rfl).trans ?_
      refine (zq_ist hm (pc' := 122) rfl lay_90 rfl).trans (zite ?_ rfl)
      refine (zJ_n rfl).trans ?_
      refine (zq_aln hm (pc' := 123) rfl rfl rfl rfl).trans ?_
      refine (zq_iln hm (pc' := 124) rfl rfl rfl rfl).trans ?_
      refine (zq_ic hm (pc' := 125) rfl rfl rfl rfl).trans ?_
      refine (zq_iadd hm (pc' := 126) rfl rfl rfl).trans ?_
      refine (zq_iln hm (pc' := 127) rfl rfl rfl rfl).trans ?_
      refine (zq_aln hm (pc' := 128) rfl rfl rfl rfl).trans ?_
      refine (zq_gr hm (pc' := 131) rfl lay_57 rfl rfl).trans ?_
      refine (zJ_n rfl).trans ?_
      refine (zq_il hm (pc' := 133) rfl rfl rfl rfl).trans ?_
      refine (zq_ia hm (v := (σ 89 y6)) (pc' := 134) rfl lay_89 (zsn rfl) rfl).trans (zite ?_ rfl)
      refine (zJ_n rfl).trans ?_
      refine (zq_il hm (pc' := 136) rfl rfl rfl rfl).trans ?_
      refine (zq_ic hm (pc' := 137) rfl rfl rfl rfl).trans ?_
      refine (zq_il hm (pc' := 139) rfl rfl rfl rfl).trans ?_
      refine (zq_ishl hm (pc' := 140) rfl rfl rfl).trans ?_
      refine (zq_ior hm (pc' := 141) rfl rfl rfl).trans ?_
      refine (zq_il hm (pc' := 143) rfl rfl rfl rfl).trans ?_
      refine (zq_aln hm (pc' := 144) rfl rfl rfl rfl).trans ?_
      refine (zq_gr hm (pc' := 147) rfl lay_57 rfl rfl).trans ?_
      refine (zJ_n rfl).trans ?_
      refine (zq_bi hm (pc' := 149) rfl rfl rfl rfl).trans ?_
      refine (zq_iln hm (pc' := 150) rfl rfl rfl rfl).trans ?_
      refine (zq_imul hm (pc' := 151) rfl rfl rfl).trans ?_
      refine (zq_aln hm (pc' := 152) rfl rfl rfl rfl).trans ?_
      refine (zq_gr hm (pc' := 155) rfl lay_57 rfl rfl).trans ?_
      refine (zJ_n rfl).trans ?_
      refine (zq_il hm (pc' := 157) rfl rfl rfl rfl).trans ?_
      refine (zq_ia hm (v := (σ 89 y6)) (pc' := 158) rfl lay_89 (zsn rfl) rfl).trans (zite ?_ rfl)
      refine (zJ_n rfl).trans ?_
      refine (zq_iadd hm (pc' := 159) rfl rfl rfl).trans ?_
      refine (zq_ia hm (v := (σ 88 (zw ((zw (8 * y3)) + (σ 89 y6))))) (pc' := 160) rfl lay_88 (zsn rfl) rfl).trans (zite ?_ rfl)
      refine (zJ_n rfl).trans ?_
      refine (zq_iadd hm (pc' := 161) rfl rfl rfl).trans ?_
      refine (zq_v0 hm (pc' := 164) rfl rfl rfl (cls_57_12) rfl rfl).trans (zCV_c rfl (fun s101 => ?_))
      refine (zJ_n rfl).trans ?_
      refine (zq_iinc hm (ls' := [some (.inl (some 57)), some (.inr (.inl y1)), some (.inr (.inl y2)), some (.inr (.inl y3)), some (.inr (.inl y4)), some (.inr (.inl y5)), some (.inr (.inl (zw (y6 + 1)))), none]) (pc' := 167) rfl rfl rfl rfl rfl rfl).trans ?_
      exact (zc_goto hm rfl rfl).trans rfl
  · refine (zJ_n rfl).trans ?_
    exact zq_rv hm rfl
set_option maxRecDepth 100000 in
set_option maxHeartbeats 4000000 in
theorem e_X12_rounds_53 (d : Nat) (y1 : Int) (σ : zF) : P_X12_rounds_53 d y1 σ = (
if y1 < (σ 57 50) then (
if 0 ≤ y1 ∧ y1 < 8 then (
if 0 ≤ y1 ∧ y1 < 8 then (
P_X12_rounds_53 d (zw (y1 + 1)) (zset σ 91 y1 (σ 90 y1))) else (
none)) else (
none)) else (
zrv σ)) := by
  have hm := zexec_m zX2 zMT d
  show zrunL zX2 (zexec zX2 zMT d) K_X12_rounds U_X12_rounds 53 [some (.inl (some 57)), none, none, none, none, none, none, some (.inr (.inl y1))] [] (LAY, σ) = _
  refine (zq_il hm (pc' := 55) rfl rfl rfl rfl).trans ?_
  refine (zq_aln hm (pc' := 56) rfl rfl rfl rfl).trans ?_
  refine (zq_gf hm (v := (σ 57 50)) (pc' := 59) rfl lay_57 rfl rfl rfl).trans ?_
  refine (zJ_n rfl).trans ?_
  refine (zq_ige hm (pc' := 62) rfl rfl).trans (zite ?_ ?_)
  · refine (zJ_n rfl).trans ?_
    refine (zq_aln hm (pc' := 63) rfl rfl rfl rfl).trans ?_
    refine (zq_gr hm (pc' := 66) rfl lay_57 rfl rfl).trans ?_
    refine (zJ_n rfl).trans ?_
    refine (zq_il hm (pc' := 68) rfl rfl rfl rfl).trans ?_
    refine (zq_aln hm (pc' := 69) rfl rfl rfl rfl).trans ?_
    refine (zq_gr hm (pc' := 72) rfl lay_57 rfl rfl).trans ?_
    refine (zJ_n rfl).trans ?_
    refine (zq_il hm (pc' := 74) rfl rfl rfl rfl).trans ?_
    refine (zq_ia hm (v := (σ 90 y1)) (pc' := 75) rfl lay_90 rfl rfl).trans (zite ?_ rfl)
    refine (zJ_n rfl).trans ?_
    refine (zq_ist hm (pc' := 76) rfl lay_91 rfl).trans (zite ?_ rfl)
    refine (zJ_n rfl).trans ?_
    refine (zq_iinc hm (ls' := [some (.inl (some 57)), none, none, none, none, none, none, some (.inr (.inl (zw (y1 + 1))))]) (pc' := 79) rfl rfl rfl rfl rfl rfl).trans ?_
    exact (zc_goto hm rfl rfl).trans rfl
  · refine (zJ_n rfl).trans ?_
    exact zq_rv hm rfl
noncomputable def P_X12_round_33 (d : Nat) (y1 : Int) (y2 : Int) (y3 : Int) (y4 : Int) (σ : zF) : Option zR := zrunL zX2 (zexec zX2 zMT d) K_X12_round U_X12_round 33 [some (.inl (some 57)), some (.inr (.inl y1)), some (.inr (.inl y2)), some (.inr (.inl y3)), some (.inr (.inl y4)), none] [] (LAY, σ)
noncomputable def P_X12_round_94 (d : Nat) (y1 : Int) (y2 : Int) (y3 : Int) (σ : zF) : Option zR := zrunL zX2 (zexec zX2 zMT d) K_X12_round U_X12_round 94 [some (.inl (some 57)), some (.inr (.inl y1)), none, some (.inr (.inl y2)), some (.inr (.inl y3)), none] [] (LAY, σ)
noncomputable def P_X12_round_110 (d : Nat) (y1 : Int) (y2 : Int) (y3 : Int) (y4 : Int) (σ : zF) : Option zR := zrunL zX2 (zexec zX2 zMT d) K_X12_round U_X12_round 110 [some (.inl (some 57)), some (.inr (.inl y1)), none, some (.inr (.inl y2)), some (.inr (.inl y3)), some (.inr (.inl y4))] [] (LAY, σ)
set_option maxRecDepth 100000 in
set_option maxHeartbeats 4000000 in
theorem e_X12_round (d : Nat) (x1 : Int) (x2 : Int) (x3 : Int) (σ : zF) : zx (d + 1) 210 [.inl (some 57), .inr (.inl x1), .inr (.inl x2), .inr (.inl x3)] σ = (
zCI LAY (zx d 156 [.inr (.inl x1)] σ) fun r2 s1 =>
if r2 = 0 then (
zri (-1) s1) else (
zCI LAY (zx d 153 [.inr (.inl x2), .inr (.inl 0), .inr (.inl 255)] s1) fun r4 s3 =>
if r4 = 0 then (
zri (-1) s3) else (
if x3 < (-1) then (
zri (-1) s3) else (
P_X12_round_33 d x1 x2 x3 0 (zset s3 57 50 0))))) := by
  unfold zx
  have hm := zexec_m zX2 zMT d
  refine (zexec_eq mt_210 _ rfl (LAY, σ) 0).trans ?_
  show zrunL zX2 (zexec zX2 zMT d) K_X12_round U_X12_round 0 [some (.inl (some 57)), some (.inr (.inl x1)), some (.inr (.inl x2)), some (.inr (.inl x3)), none, none] [] (LAY, σ) = _
  refine (zq_iln hm (pc' := 1) rfl rfl rfl rfl).trans ?_
  refine (zq_s1 hm (pc' := 4) rfl rfl rfl rfl rfl rfl).trans (zCI_c rfl (fun r2 s1 => ?_))
  refine (zJ_n rfl).trans ?_
  refine (zq_zeq hm (pc' := 7) rfl rfl).trans (zite ?_ ?_)
  · refine (zJ_n rfl).trans ?_
    refine (zq_ic hm (pc' := 24) rfl rfl rfl rfl).trans ?_
    exact zq_ri hm rfl rfl
  · refine (zJ_n rfl).trans ?_
    refine (zq_iln hm (pc' := 8) rfl rfl rfl rfl).trans ?_
    refine (zq_ic hm (pc' := 9) rfl rfl rfl rfl).trans ?_
    refine (zq_si hm (pc' := 12) rfl rfl rfl rfl).trans ?_
    refine (zq_s1 hm (pc' := 15) rfl rfl rfl rfl rfl rfl).trans (zCI_c rfl (fun r4 s3 => ?_))
    refine (zJ_n rfl).trans ?_
    refine (zq_zeq hm (pc' := 18) rfl rfl).trans (zite ?_ ?_)
    · refine (zJ_n rfl).trans ?_
      refine (zq_ic hm (pc' := 24) rfl rfl rfl rfl).trans ?_
      exact zq_ri hm rfl rfl
    · refine (zJ_n rfl).trans ?_
      refine (zq_iln hm (pc' := 19) rfl rfl rfl rfl).trans ?_
      refine (zq_ic hm (pc' := 20) rfl rfl rfl rfl).trans ?_
      refine (zq_ige hm (pc' := 23) rfl rfl).trans (zite ?_ ?_)
      · refine (zJ_n rfl).trans ?_
        refine (zq_ic hm (pc' := 24) rfl rfl rfl rfl).trans ?_
        exact zq_ri hm rfl rfl
      · refine (zJ_n rfl).trans ?_
        refine (zq_aln hm (pc' := 26) rfl rfl rfl rfl).trans ?_
        refine (zq_ic hm (pc' := 27) rfl rfl rfl rfl).trans ?_
        refine (zq_pf hm (pc' := 30) rfl lay_57 rfl rfl rfl).trans ?_
        refine (zJ_n rfl).trans ?_
        refine (zq_ic hm (pc' := 31) rfl rfl rfl rfl).trans ?_
        exact (zc_is hm (ls' := [some (.inl (some 57)), some (.inr (.inl x1)), some (.inr (.inl x2)), some (.inr (.inl x3)), some (.inr (.inl 0)), none]) (pc' := 33) rfl rfl rfl rfl).trans rfl
set_option maxRecDepth 100000 in
set_option maxHeartbeats 4000000 in
theorem e_X12_round_33 (d : Nat) (y1 : Int) (y2 : Int) (y3 : Int) (y4 : Int) (σ : zF) : P_X12_round_33 d y1 y2 y3 y4 σ = (
if y4 < 8 then (
if y4 = y1 then (
P_X12_round_33 d y1 y2 y3 (zw (y4 + 1)) σ) else (
if zand (zshr y2 y4) 1 = 1 then (
if 0 ≤ (σ 57 50) ∧ (σ 57 50) < 8 then (
P_X12_round_33 d y1 y2 y3 (zw (y4 + 1)) (zset (zset σ 57 50 (zw ((σ 57 50) + 1))) 89 (σ 57 50) y4)) else (
none)) else (
P_X12_round_33 d y1 y2 y3 (zw (y4 + 1)) σ))) else (
if (5 : Int) < (σ 57 50) then (
zri (-5) σ) else (
P_X12_round_94 d y1 y3 0 σ))) := by
  have hm := zexec_m zX2 zMT d
  show zrunL zX2 (zexec zX2 zMT d) K_X12_round U_X12_round 33 [some (.inl (some 57)), some (.inr (.inl y1)), some (.inr (.inl y2)), some (.inr (.inl y3)), some (.inr (.inl y4)), none] [] (LAY, σ) = _
  refine (zq_il hm (pc' := 35) rfl rfl rfl rfl).trans ?_
  refine (zq_bi hm (pc' := 37) rfl rfl rfl rfl).trans ?_
  refine (zq_ige hm (pc' := 40) rfl rfl).trans (zite ?_ ?_)
  · refine (zJ_n rfl).trans ?_
    refine (zq_il hm (pc' := 42) rfl rfl rfl rfl).trans ?_
    refine (zq_iln hm (pc' := 43) rfl rfl rfl rfl).trans ?_
    refine (zq_ieq hm (pc' := 46) rfl rfl).trans (zite ?_ ?_)
    · refine (zJ_n rfl).trans ?_
      refine (zq_iinc hm (ls' := [some (.inl (some 57)), some (.inr (.inl y1)), some (.inr (.inl y2)), some (.inr (.inl y3)), some (.inr (.inl (zw (y4 + 1)))), none]) (pc' := 77) rfl rfl rfl rfl rfl rfl).trans ?_
      exact (zc_goto hm rfl rfl).trans rfl
    · refine (zJ_n rfl).trans ?_
      refine (zq_iln hm (pc' := 47) rfl rfl rfl rfl).trans ?_
      refine (zq_il hm (pc' := 49) rfl rfl rfl rfl).trans ?_
      refine (zq_ishr hm (pc' := 50) rfl rfl rfl).trans ?_
      refine (zq_ic hm (pc' := 51) rfl rfl rfl rfl).trans ?_
      refine (zq_iand hm (pc' := 52) rfl rfl rfl).trans ?_
      refine (zq_ic hm (pc' := 53) rfl rfl rfl rfl).trans ?_
      refine (zq_ine hm (pc' := 56) rfl rfl).trans (zite ?_ ?_)
      · refine (zJ_n rfl).trans ?_
        refine (zq_aln hm (pc' := 57) rfl rfl rfl rfl).trans ?_
        refine (zq_gr hm (pc' := 60) rfl lay_57 rfl rfl).trans ?_
        refine (zJ_n rfl).trans ?_
        refine (zq_aln hm (pc' := 61) rfl rfl rfl rfl).trans ?_
        refine (zq_dup hm (pc' := 62) rfl rfl rfl rfl).trans ?_
        refine (zq_gf hm (v := (σ 57 50)) (pc' := 65) rfl lay_57 rfl rfl rfl).trans ?_
        refine (zJ_n rfl).trans ?_
        refine (zq_dupx hm (pc' := 66) rfl rfl rfl rfl rfl).trans ?_
        refine (zq_ic hm (pc' := 67) rfl rfl rfl rfl).trans ?_
        refine (zq_iadd hm (pc' := 68) rfl rfl rfl).trans ?_
        refine (zq_pf hm (pc' := 71) rfl lay_57 rfl rfl rfl).trans ?_
        refine (zJ_n rfl).trans ?_
        refine (zq_il hm (pc' := 73) rfl rfl rfl rfl).trans ?_
        refine (zq_ist hm (pc' := 74) rfl lay_89 rfl).trans (zite ?_ rfl)
        refine (zJ_n rfl).trans ?_
        refine (zq_iinc hm (ls' := [some (.inl (some 57)), some (.inr (.inl y1)), some (.inr (.inl y2)), some (.inr (.inl y3)), some (.inr (.inl (zw (y4 + 1)))), none]) (pc' := 77) rfl rfl rfl rfl rfl rfl).trans ?_
        exact (zc_goto hm rfl rfl).trans rfl
      · refine (zJ_n rfl).trans ?_
        refine (zq_iinc hm (ls' := [some (.inl (some 57)), some (.inr (.inl y1)), some (.inr (.inl y2)), some (.inr (.inl y3)), some (.inr (.inl (zw (y4 + 1)))), none]) (pc' := 77) rfl rfl rfl rfl rfl rfl).trans ?_
        exact (zc_goto hm rfl rfl).trans rfl
  · refine (zJ_n rfl).trans ?_
    refine (zq_aln hm (pc' := 81) rfl rfl rfl rfl).trans ?_
    refine (zq_gf hm (v := (σ 57 50)) (pc' := 84) rfl lay_57 rfl rfl rfl).trans ?_
    refine (zJ_n rfl).trans ?_
    refine (zq_ic hm (pc' := 85) rfl rfl rfl rfl).trans ?_
    refine (zq_ile hm (pc' := 88) rfl rfl).trans (zite ?_ ?_)
    · refine (zJ_n rfl).trans ?_
      refine (zq_bi hm (pc' := 90) rfl rfl rfl rfl).trans ?_
      exact zq_ri hm rfl rfl
    · refine (zJ_n rfl).trans ?_
      refine (zq_ic hm (pc' := 92) rfl rfl rfl rfl).trans ?_
      exact (zc_is hm (ls' := [some (.inl (some 57)), some (.inr (.inl y1)), some (.inr (.inl y2)), some (.inr (.inl y3)), some (.inr (.inl 0)), none]) (pc' := 94) rfl rfl rfl rfl).trans rfl
set_option maxRecDepth 100000 in
set_option maxHeartbeats 4000000 in
theorem e_X12_round_94 (d : Nat) (y1 : Int) (y2 : Int) (y3 : Int) (σ : zF) : P_X12_round_94 d y1 y2 y3 σ = (
if y3 < 8 then (
zCV LAY (zx d 199 [.inl (some 57), .inr (.inl y3)] σ) fun s102 =>
P_X12_round_110 d y1 y2 y3 0 s102) else (
zCV LAY (zx d 209 [.inl (some 57), .inr (.inl 0), .inr (.inl y1), .inr (.inl y1), .inr (.inl 0), .inr (.inl 0)] (zset σ 57 54 9999)) fun s101 =>
if (s101 57 54) < 9999 then (
if y2 = (-1) then (
zri (s101 57 54) s101) else (
if y2 < (s101 57 50) then (
if 0 ≤ y2 ∧ y2 < 8 then (
zri (s101 91 y2) s101) else (
none)) else (
zri (-2) s101))) else (
zri (-2) s101))) := by
  have hm := zexec_m zX2 zMT d
  show zrunL zX2 (zexec zX2 zMT d) K_X12_round U_X12_round 94 [some (.inl (some 57)), some (.inr (.inl y1)), none, some (.inr (.inl y2)), some (.inr (.inl y3)), none] [] (LAY, σ) = _
  refine (zq_il hm (pc' := 96) rfl rfl rfl rfl).trans ?_
  refine (zq_bi hm (pc' := 98) rfl rfl rfl rfl).trans ?_
  refine (zq_ige hm (pc' := 101) rfl rfl).trans (zite ?_ ?_)
  · refine (zJ_n rfl).trans ?_
    refine (zq_aln hm (pc' := 102) rfl rfl rfl rfl).trans ?_
    refine (zq_il hm (pc' := 104) rfl rfl rfl rfl).trans ?_
    refine (zq_v0 hm (pc' := 107) rfl rfl rfl (cls_57_12) rfl rfl).trans (zCV_c rfl (fun s102 => ?_))
    refine (zJ_n rfl).trans ?_
    refine (zq_ic hm (pc' := 108) rfl rfl rfl rfl).trans ?_
    exact (zc_is hm (ls' := [some (.inl (some 57)), some (.inr (.inl y1)), none, some (.inr (.inl y2)), some (.inr (.inl y3)), some (.inr (.inl 0))]) (pc' := 110) rfl rfl rfl rfl).trans rfl
  · refine (zJ_n rfl).trans ?_
    refine (zq_aln hm (pc' := 150) rfl rfl rfl rfl).trans ?_
    refine (zq_si hm (pc' := 153) rfl rfl rfl rfl).trans ?_
    refine (zq_pf hm (pc' := 156) rfl lay_57 rfl rfl rfl).trans ?_
    refine (zJ_n rfl).trans ?_
    refine (zq_aln hm (pc' := 157) rfl rfl rfl rfl).trans ?_
    refine (zq_ic hm (pc' := 158) rfl rfl rfl rfl).trans ?_
    refine (zq_iln hm (pc' := 159) rfl rfl rfl rfl).trans ?_
    refine (zq_iln hm (pc' := 160) rfl rfl rfl rfl).trans ?_
    refine (zq_ic hm (pc' := 161) rfl rfl rfl rfl).trans ?_
    refine (zq_ic hm (pc' := 162) rfl rfl rfl rfl).trans ?_
    refine (zq_v0 hm (pc' := 165) rfl rfl rfl (cls_57_12) rfl rfl).trans (zCV_c rfl (fun s101 => ?_))
    refine (zJ_n rfl).trans ?_
    refine (zq_aln hm (pc' := 166) rfl rfl rfl rfl).trans ?_
    refine (zq_gf hm (v := (s101 57 54)) (pc' := 169) rfl lay_57 rfl rfl rfl).trans ?_
    refine (zJ_n rfl).trans ?_
    refine (zq_si hm (pc' := 172) rfl rfl rfl rfl).trans ?_
    refine (zq_ilt hm (pc' := 175) rfl rfl).trans (zite ?_ ?_)
    · refine (zJ_n rfl).trans ?_
      refine (zq_iln hm (pc' := 179) rfl rfl rfl rfl).trans ?_
      refine (zq_ic hm (pc' := 180) rfl rfl rfl rfl).trans ?_
      refine (zq_ine hm (pc' := 183) rfl rfl).trans (zite ?_ ?_)
      · refine (zJ_n rfl).trans ?_
        refine (zq_aln hm (pc' := 184) rfl rfl rfl rfl).trans ?_
        refine (zq_gf hm (v := (s101 57 54)) (pc' := 187) rfl lay_57 rfl rfl rfl).trans ?_
        refine (zJ_n rfl).trans ?_
        refine (zq_goto hm rfl rfl).trans ?_
        exact zq_ri hm rfl rfl
      · refine (zJ_n rfl).trans ?_
        refine (zq_iln hm (pc' := 191) rfl rfl rfl rfl).trans ?_
        refine (zq_aln hm (pc' := 192) rfl rfl rfl rfl).trans ?_
        refine (zq_gf hm (v := (s101 57 50)) (pc' := 195) rfl lay_57 rfl rfl rfl).trans ?_
        refine (zJ_n rfl).trans ?_
        refine (zq_ige hm (pc' := 198) rfl rfl).trans (zite ?_ ?_)
        · refine (zJ_n rfl).trans ?_
          refine (zq_aln hm (pc' := 199) rfl rfl rfl rfl).trans ?_
          refine (zq_gr hm (pc' := 202) rfl lay_57 rfl rfl).trans ?_
          refine (zJ_n rfl).trans ?_
          refine (zq_iln hm (pc' := 203) rfl rfl rfl rfl).trans ?_
          refine (zq_ia hm (v := (s101 91 y2)) (pc' := 204) rfl lay_91 rfl rfl).trans (zite ?_ rfl)
          refine (zJ_n rfl).trans ?_
          refine (zq_goto hm rfl rfl).trans ?_
          exact zq_ri hm rfl rfl
        · refine (zJ_n rfl).trans ?_
          refine (zq_bi hm (pc' := 209) rfl rfl rfl rfl).trans ?_
          exact zq_ri hm rfl rfl
    · refine (zJ_n rfl).trans ?_
      refine (zq_bi hm (pc' := 177) rfl rfl rfl rfl).trans ?_
      exact zq_ri hm rfl rfl
set_option maxRecDepth 100000 in
set_option maxHeartbeats 4000000 in
theorem e_X12_round_110 (d : Nat) (y1 : Int) (y2 : Int) (y3 : Int) (y4 : Int) (σ : zF) : P_X12_round_110 d y1 y2 y3 y4 σ = (
if y4 < 8 then (
if 0 ≤ y4 ∧ y4 < 8 then (
if 0 ≤ zw ((zw (8 * y4)) + y3) ∧ zw ((zw (8 * y4)) + y3) < 64 then (
P_X12_round_110 d y1 y2 y3 (zw (y4 + 1)) (zset σ 88 (zw ((zw (8 * y4)) + y3)) (σ 85 y4))) else (
none)) else (
none)) else (
P_X12_round_94 d y1 y2 (zw (y3 + 1)) σ)) := by
  have hm := zexec_m zX2 zMT d
  show zrunL zX2 (zexec zX2 zMT d) K_X12_round U_X12_round 110 [some (.inl (some 57)), some (.inr (.inl y1)), none, some (.inr (.inl y2)), some (.inr (.inl y3)), some (.inr (.inl y4))] [] (LAY, σ) = _
  refine (zq_il hm (pc' := 112) rfl rfl rfl rfl).trans ?_
  refine (zq_bi hm (pc' := 114) rfl rfl rfl rfl).trans ?_
  refine (zq_ige hm (pc' := 117) rfl rfl).trans (zite ?_ ?_)
  · refine (zJ_n rfl).trans ?_
    refine (zq_aln hm (pc' := 118) rfl rfl rfl rfl).trans ?_
    refine (zq_gr hm (pc' := 121) rfl lay_57 rfl rfl).trans ?_
    refine (zJ_n rfl).trans ?_
    refine (zq_bi hm (pc' := 123) rfl rfl rfl rfl).trans ?_
    refine (zq_il hm (pc' := 125) rfl rfl rfl rfl).trans ?_
    refine (zq_imul hm (pc' := 126) rfl rfl rfl).trans ?_
    refine (zq_il hm (pc' := 128) rfl rfl rfl rfl).trans ?_
    refine (zq_iadd hm (pc' := 129) rfl rfl rfl).trans ?_
    refine (zq_aln hm (pc' := 130) rfl rfl rfl rfl).trans ?_
    refine (zq_gr hm (pc' := 133) rfl lay_57 rfl rfl).trans ?_
    refine (zJ_n rfl).trans ?_
    refine (zq_il hm (pc' := 135) rfl rfl rfl rfl).trans ?_
    refine (zq_ia hm (v := (σ 85 y4)) (pc' := 136) rfl lay_85 rfl rfl).trans (zite ?_ rfl)
    refine (zJ_n rfl).trans ?_
    refine (zq_ist hm (pc' := 137) rfl lay_88 rfl).trans (zite ?_ rfl)
    refine (zJ_n rfl).trans ?_
    refine (zq_iinc hm (ls' := [some (.inl (some 57)), some (.inr (.inl y1)), none, some (.inr (.inl y2)), some (.inr (.inl y3)), some (.inr (.inl (zw (y4 + 1))))]) (pc' := 140) rfl rfl rfl rfl rfl rfl).trans ?_
    exact (zc_goto hm rfl rfl).trans rfl
  · refine (zJ_n rfl).trans ?_
    refine (zq_iinc hm (ls' := [some (.inl (some 57)), some (.inr (.inl y1)), none, some (.inr (.inl y2)), some (.inr (.inl (zw (y3 + 1)))), some (.inr (.inl y4))]) (pc' := 146) rfl rfl rfl rfl rfl rfl).trans ?_
    exact (zc_goto hm rfl rfl).trans rfl
noncomputable def P_X12_isEnough_36 (d : Nat) (y1 : Int) (y2 : Int) (y3 : Int) (y4 : Int) (y5 : Int) (σ : zF) : Option zR := zrunL zX2 (zexec zX2 zMT d) K_X12_isEnough U_X12_isEnough 36 [some (.inl (some 57)), some (.inr (.inl y1)), some (.inr (.inl y2)), some (.inr (.inl y3)), some (.inr (.inl y4)), none, some (.inr (.inl y5)), none] [] (LAY, σ)
noncomputable def P_X12_isEnough_64 (d : Nat) (y1 : Int) (y2 : Int) (y3 : Int) (y4 : Int) (y5 : Int) (y6 : Int) (σ : zF) : Option zR := zrunL zX2 (zexec zX2 zMT d) K_X12_isEnough U_X12_isEnough 64 [some (.inl (some 57)), some (.inr (.inl y1)), some (.inr (.inl y2)), some (.inr (.inl y3)), some (.inr (.inl y4)), none, some (.inr (.inl y5)), some (.inr (.inl y6))] [] (LAY, σ)
set_option maxRecDepth 100000 in
set_option maxHeartbeats 4000000 in
theorem e_X12_isEnough (d : Nat) (x1 : Int) (x2 : Int) (x3 : Int) (x4 : Int) (x5 : Int) (σ : zF) : zx (d + 1) 211 [.inl (some 57), .inr (.inl x1), .inr (.inl x2), .inr (.inl x3), .inr (.inl x4), .inr (.inl x5)] σ = (
if x3 = x4 then (
zCI LAY (zx d 200 [.inl (some 57), .inr (.inl x1)] σ) fun r2 s1 =>
if r2 = (-2) then (
zri 0 s1) else (
if x2 < r2 then (
zri 0 s1) else (
zri 1 s1))) else (
P_X12_isEnough_36 d x1 x2 x3 x4 x5 σ)) := by
  unfold zx
  have hm := zexec_m zX2 zMT d
  refine (zexec_eq mt_211 _ rfl (LAY, σ) 0).trans ?_
  show zrunL zX2 (zexec zX2 zMT d) K_X12_isEnough U_X12_isEnough 0 [some (.inl (some 57)), some (.inr (.inl x1)), some (.inr (.inl x2)), some (.inr (.inl x3)), some (.inr (.inl x4)), some (.inr (.inl x5)), none, none] [] (LAY, σ) = _
  refine (zq_iln hm (pc' := 1) rfl rfl rfl rfl).trans ?_
  refine (zq_il hm (pc' := 3) rfl rfl rfl rfl).trans ?_
  refine (zq_ine hm (pc' := 6) rfl rfl).trans (zite ?_ ?_)
  · refine (zJ_n rfl).trans ?_
    refine (zq_aln hm (pc' := 7) rfl rfl rfl rfl).trans ?_
    refine (zq_iln hm (pc' := 8) rfl rfl rfl rfl).trans ?_
    refine (zq_v1 hm (pc' := 11) rfl rfl rfl (cls_57_12) rfl rfl).trans (zCI_c rfl (fun r2 s1 => ?_))
    refine (zJ_n rfl).trans ?_
    refine (zq_is hm (ls' := [some (.inl (some 57)), some (.inr (.inl x1)), some (.inr (.inl x2)), some (.inr (.inl x3)), some (.inr (.inl x4)), some (.inr (.inl x5)), some (.inr (.inl r2)), none]) (pc' := 13) rfl rfl rfl rfl).trans ?_
    refine (zq_il hm (pc' := 15) rfl rfl rfl rfl).trans ?_
    refine (zq_bi hm (pc' := 17) rfl rfl rfl rfl).trans ?_
    refine (zq_ieq hm (pc' := 20) rfl rfl).trans (zite ?_ ?_)
    · refine (zJ_n rfl).trans ?_
      refine (zq_ic hm (pc' := 31) rfl rfl rfl rfl).trans ?_
      exact (zq_rb hm rfl rfl).trans (zif1 (by decide))
    · refine (zJ_n rfl).trans ?_
      refine (zq_il hm (pc' := 22) rfl rfl rfl rfl).trans ?_
      refine (zq_iln hm (pc' := 23) rfl rfl rfl rfl).trans ?_
      refine (zq_igt hm (pc' := 26) rfl rfl).trans (zite ?_ ?_)
      · refine (zJ_n rfl).trans ?_
        refine (zq_ic hm (pc' := 31) rfl rfl rfl rfl).trans ?_
        exact (zq_rb hm rfl rfl).trans (zif1 (by decide))
      · refine (zJ_n rfl).trans ?_
        refine (zq_ic hm (pc' := 27) rfl rfl rfl rfl).trans ?_
        refine (zq_goto hm rfl rfl).trans ?_
        exact (zq_rb hm rfl rfl).trans (zif1 (by decide))
  · refine (zJ_n rfl).trans ?_
    refine (zq_il hm (pc' := 34) rfl rfl rfl rfl).trans ?_
    exact (zc_is hm (ls' := [some (.inl (some 57)), some (.inr (.inl x1)), some (.inr (.inl x2)), some (.inr (.inl x3)), some (.inr (.inl x4)), some (.inr (.inl x5)), some (.inr (.inl x5)), none]) (pc' := 36) rfl rfl rfl rfl).trans rfl
set_option maxRecDepth 100000 in
set_option maxHeartbeats 4000000 in
theorem e_X12_isEnough_36 (d : Nat) (y1 : Int) (y2 : Int) (y3 : Int) (y4 : Int) (y5 : Int) (σ : zF) : P_X12_isEnough_36 d y1 y2 y3 y4 y5 σ = (
if y5 < (σ 57 0) then (
if 0 ≤ y3 ∧ y3 < 3 then (
zCV LAY (zx d 198 [.inl (some 57), .inl (some 86)] (zset σ 92 y3 y5)) fun s101 =>
P_X12_isEnough_64 d y1 y2 y3 y4 y5 0 s101) else (
none)) else (
zri 0 σ)) := by
  have hm := zexec_m zX2 zMT d
  show zrunL zX2 (zexec zX2 zMT d) K_X12_isEnough U_X12_isEnough 36 [some (.inl (some 57)), some (.inr (.inl y1)), some (.inr (.inl y2)), some (.inr (.inl y3)), some (.inr (.inl y4)), none, some (.inr (.inl y5)), none] [] (LAY, σ) = _
  refine (zq_il hm (pc' := 38) rfl rfl rfl rfl).trans ?_
  refine (zq_aln hm (pc' := 39) rfl rfl rfl rfl).trans ?_
  refine (zq_gf hm (v := (σ 57 0)) (pc' := 42) rfl lay_57 rfl rfl rfl).trans ?_
  refine (zJ_n rfl).trans ?_
  refine (zq_ige hm (pc' := 45) rfl rfl).trans (zite ?_ ?_)
  · refine (zJ_n rfl).trans ?_
    refine (zq_aln hm (pc' := 46) rfl rfl rfl rfl).trans ?_
    refine (zq_gr hm (pc' := 49) rfl lay_57 rfl rfl).trans ?_
    refine (zJ_n rfl).trans ?_
    refine (zq_iln hm (pc' := 50) rfl rfl rfl rfl).trans ?_
    refine (zq_il hm (pc' := 52) rfl rfl rfl rfl).trans ?_
    refine (zq_ist hm (pc' := 53) rfl lay_92 rfl).trans (zite ?_ rfl)
    refine (zJ_n rfl).trans ?_
    refine (zq_aln hm (pc' := 54) rfl rfl rfl rfl).trans ?_
    refine (zq_aln hm (pc' := 55) rfl rfl rfl rfl).trans ?_
    refine (zq_gr hm (pc' := 58) rfl lay_57 rfl rfl).trans ?_
    refine (zJ_n rfl).trans ?_
    refine (zq_v0 hm (pc' := 61) rfl rfl rfl (cls_57_12) rfl rfl).trans (zCV_c rfl (fun s101 => ?_))
    refine (zJ_n rfl).trans ?_
    refine (zq_ic hm (pc' := 62) rfl rfl rfl rfl).trans ?_
    exact (zc_is hm (ls' := [some (.inl (some 57)), some (.inr (.inl y1)), some (.inr (.inl y2)), some (.inr (.inl y3)), some (.inr (.inl y4)), none, some (.inr (.inl y5)), some (.inr (.inl 0))]) (pc' := 64) rfl rfl rfl rfl).trans rfl
  · refine (zJ_n rfl).trans ?_
    refine (zq_ic hm (pc' := 113) rfl rfl rfl rfl).trans ?_
    exact (zq_rb hm rfl rfl).trans (zif1 (by decide))
set_option maxRecDepth 100000 in
set_option maxHeartbeats 4000000 in
theorem e_X12_isEnough_64 (d : Nat) (y1 : Int) (y2 : Int) (y3 : Int) (y4 : Int) (y5 : Int) (y6 : Int) (σ : zF) : P_X12_isEnough_64 d y1 y2 y3 y4 y5 y6 σ = (
if y3 < y6 then (
zCI LAY (zx d 211 [.inl (some 57), .inr (.inl y1), .inr (.inl y2), .inr (.inl (zw (y3 + 1))), .inr (.inl y4), .inr (.inl y5)] σ) fun r102 s101 =>
if r102 = 0 then (
P_X12_isEnough_36 d y1 y2 y3 y4 (zw (y5 + 1)) s101) else (
zri 1 s101)) else (
if 0 ≤ y6 ∧ y6 < 3 then (
zCV LAY (zx d 196 [.inl (some 57), .inr (.inl (σ 92 y6)), .inr (.inl 1)] σ) fun s103 =>
P_X12_isEnough_64 d y1 y2 y3 y4 y5 (zw (y6 + 1)) s103) else (
none))) := by
  have hm := zexec_m zX2 zMT d
  show zrunL zX2 (zexec zX2 zMT d) K_X12_isEnough U_X12_isEnough 64 [some (.inl (some 57)), some (.inr (.inl y1)), some (.inr (.inl y2)), some (.inr (.inl y3)), some (.inr (.inl y4)), none, some (.inr (.inl y5)), some (.inr (.inl y6))] [] (LAY, σ) = _
  refine (zq_il hm (pc' := 66) rfl rfl rfl rfl).trans ?_
  refine (zq_iln hm (pc' := 67) rfl rfl rfl rfl).trans ?_
  refine (zq_igt hm (pc' := 70) rfl rfl).trans (zite ?_ ?_)
  · refine (zJ_n rfl).trans ?_
    refine (zq_aln hm (pc' := 89) rfl rfl rfl rfl).trans ?_
    refine (zq_iln hm (pc' := 90) rfl rfl rfl rfl).trans ?_
    refine (zq_iln hm (pc' := 91) rfl rfl rfl rfl).trans ?_
    refine (zq_iln hm (pc' := 92) rfl rfl rfl rfl).trans ?_
    refine (zq_ic hm (pc' := 93) rfl rfl rfl rfl).trans ?_
    refine (zq_iadd hm (pc' := 94) rfl rfl rfl).trans ?_
    refine (zq_il hm (pc' := 96) rfl rfl rfl rfl).trans ?_
    refine (zq_il hm (pc' := 98) rfl rfl rfl rfl).trans ?_
    refine (zq_v1 hm (pc' := 101) rfl rfl rfl (cls_57_12) rfl rfl).trans (zCI_c rfl (fun r102 s101 => ?_))
    refine (zJ_n rfl).trans ?_
    refine (zq_zeq hm (pc' := 104) rfl rfl).trans (zite ?_ ?_)
    · refine (zJ_n rfl).trans ?_
      refine (zq_iinc hm (ls' := [some (.inl (some 57)), some (.inr (.inl y1)), some (.inr (.inl y2)), some (.inr (.inl y3)), some (.inr (.inl y4)), none, some (.inr (.inl (zw (y5 + 1)))), some (.inr (.inl y6))]) (pc' := 109) rfl rfl rfl rfl rfl rfl).trans ?_
      exact (zc_goto hm rfl rfl).trans rfl
    · refine (zJ_n rfl).trans ?_
      refine (zq_ic hm (pc' := 105) rfl rfl rfl rfl).trans ?_
      exact (zq_rb hm rfl rfl).trans (zif1 (by decide))
  · refine (zJ_n rfl).trans ?_
    refine (zq_aln hm (pc' := 71) rfl rfl rfl rfl).trans ?_
    refine (zq_aln hm (pc' := 72) rfl rfl rfl rfl).trans ?_
    refine (zq_gr hm (pc' := 75) rfl lay_57 rfl rfl).trans ?_
    refine (zJ_n rfl).trans ?_
    refine (zq_il hm (pc' := 77) rfl rfl rfl rfl).trans ?_
    refine (zq_ia hm (v := (σ 92 y6)) (pc' := 78) rfl lay_92 rfl rfl).trans (zite ?_ rfl)
    refine (zJ_n rfl).trans ?_
    refine (zq_ic hm (pc' := 79) rfl rfl rfl rfl).trans ?_
    refine (zq_v0 hm (pc' := 82) rfl rfl rfl (cls_57_12) rfl rfl).trans (zCV_c rfl (fun s103 => ?_))
    refine (zJ_n rfl).trans ?_
    refine (zq_iinc hm (ls' := [some (.inl (some 57)), some (.inr (.inl y1)), some (.inr (.inl y2)), some (.inr (.inl y3)), some (.inr (.inl y4)), none, some (.inr (.inl y5)), some (.inr (.inl (zw (y6 + 1))))]) (pc' := 85) rfl rfl rfl rfl rfl rfl).trans ?_
    exact (zc_goto hm rfl rfl).trans rfl
noncomputable def P_X12_least_40 (d : Nat) (y1 : Int) (y2 : Int) (y3 : Int) (y4 : Int) (y5 : Int) (σ : zF) : Option zR := zrunL zX2 (zexec zX2 zMT d) K_X12_least U_X12_least 40 [some (.inl (some 57)), some (.inr (.inl y1)), some (.inr (.inl y2)), some (.inr (.inl y3)), some (.inr (.inl y4)), some (.inr (.inl y5))] [] (LAY, σ)
set_option maxRecDepth 100000 in
set_option maxHeartbeats 4000000 in
theorem e_X12_least (d : Nat) (x1 : Int) (x2 : Int) (x3 : Int) (σ : zF) : zx (d + 1) 212 [.inl (some 57), .inr (.inl x1), .inr (.inl x2), .inr (.inl x3)] σ = (
zCI LAY (zx d 157 [.inr (.inl x1)] σ) fun r2 s1 =>
if r2 = 0 then (
zri (-1) s1) else (
zCI LAY (zx d 153 [.inr (.inl x2), .inr (.inl 0), .inr (.inl 999)] s1) fun r4 s3 =>
if r4 = 0 then (
zri (-1) s3) else (
if x3 < (-1) then (
zri (-1) s3) else (
zCV LAY (zx d 197 [.inl (some 57), .inl (some 86)] s3) fun s5 =>
P_X12_least_40 d x1 x2 x3 (-2) 0 s5)))) := by
  unfold zx
  have hm := zexec_m zX2 zMT d
  refine (zexec_eq mt_212 _ rfl (LAY, σ) 0).trans ?_
  show zrunL zX2 (zexec zX2 zMT d) K_X12_least U_X12_least 0 [some (.inl (some 57)), some (.inr (.inl x1)), some (.inr (.inl x2)), some (.inr (.inl x3)), none, none] [] (LAY, σ) = _
  refine (zq_iln hm (pc' := 1) rfl rfl rfl rfl).trans ?_
  refine (zq_s1 hm (pc' := 4) rfl rfl rfl rfl rfl rfl).trans (zCI_c rfl (fun r2 s1 => ?_))
  refine (zJ_n rfl).trans ?_
  refine (zq_zeq hm (pc' := 7) rfl rfl).trans (zite ?_ ?_)
  · refine (zJ_n rfl).trans ?_
    refine (zq_ic hm (pc' := 24) rfl rfl rfl rfl).trans ?_
    exact zq_ri hm rfl rfl
  · refine (zJ_n rfl).trans ?_
    refine (zq_iln hm (pc' := 8) rfl rfl rfl rfl).trans ?_
    refine (zq_ic hm (pc' := 9) rfl rfl rfl rfl).trans ?_
    refine (zq_si hm (pc' := 12) rfl rfl rfl rfl).trans ?_
    refine (zq_s1 hm (pc' := 15) rfl rfl rfl rfl rfl rfl).trans (zCI_c rfl (fun r4 s3 => ?_))
    refine (zJ_n rfl).trans ?_
    refine (zq_zeq hm (pc' := 18) rfl rfl).trans (zite ?_ ?_)
    · refine (zJ_n rfl).trans ?_
      refine (zq_ic hm (pc' := 24) rfl rfl rfl rfl).trans ?_
      exact zq_ri hm rfl rfl
    · refine (zJ_n rfl).trans ?_
      refine (zq_iln hm (pc' := 19) rfl rfl rfl rfl).trans ?_
      refine (zq_ic hm (pc' := 20) rfl rfl rfl rfl).trans ?_
      refine (zq_ige hm (pc' := 23) rfl rfl).trans (zite ?_ ?_)
      · refine (zJ_n rfl).trans ?_
        refine (zq_ic hm (pc' := 24) rfl rfl rfl rfl).trans ?_
        exact zq_ri hm rfl rfl
      · refine (zJ_n rfl).trans ?_
        refine (zq_aln hm (pc' := 26) rfl rfl rfl rfl).trans ?_
        refine (zq_aln hm (pc' := 27) rfl rfl rfl rfl).trans ?_
        refine (zq_gr hm (pc' := 30) rfl lay_57 rfl rfl).trans ?_
        refine (zJ_n rfl).trans ?_
        refine (zq_v0 hm (pc' := 33) rfl rfl rfl (cls_57_12) rfl rfl).trans (zCV_c rfl (fun s5 => ?_))
        refine (zJ_n rfl).trans ?_
        refine (zq_bi hm (pc' := 35) rfl rfl rfl rfl).trans ?_
        refine (zq_is hm (ls' := [some (.inl (some 57)), some (.inr (.inl x1)), some (.inr (.inl x2)), some (.inr (.inl x3)), some (.inr (.inl (-2))), none]) (pc' := 37) rfl rfl rfl rfl).trans ?_
        refine (zq_ic hm (pc' := 38) rfl rfl rfl rfl).trans ?_
        exact (zc_is hm (ls' := [some (.inl (some 57)), some (.inr (.inl x1)), some (.inr (.inl x2)), some (.inr (.inl x3)), some (.inr (.inl (-2))), some (.inr (.inl 0))]) (pc' := 40) rfl rfl rfl rfl).trans rfl
set_option maxRecDepth 100000 in
set_option maxHeartbeats 4000000 in
theorem e_X12_least_40 (d : Nat) (y1 : Int) (y2 : Int) (y3 : Int) (y4 : Int) (y5 : Int) (σ : zF) : P_X12_least_40 d y1 y2 y3 y4 y5 σ = (
if y5 < 4 then (
if y4 = (-2) then (
zCI LAY (zx d 211 [.inl (some 57), .inr (.inl y1), .inr (.inl y2), .inr (.inl 0), .inr (.inl y5), .inr (.inl 0)] σ) fun r102 s101 =>
if r102 = 0 then (
zCV LAY (zx d 198 [.inl (some 57), .inl (some 86)] s101) fun s103 =>
P_X12_least_40 d y1 y2 y3 y4 (zw (y5 + 1)) s103) else (
zCV LAY (zx d 198 [.inl (some 57), .inl (some 86)] s101) fun s104 =>
P_X12_least_40 d y1 y2 y3 y5 (zw (y5 + 1)) s104)) else (
if y4 = (-2) then (
zri y4 σ) else (
if y3 = (-1) then (
zri y4 σ) else (
if y3 < y4 then (
if 0 ≤ y3 ∧ y3 < 3 then (
zri (σ 92 y3) σ) else (
none)) else (
zri (-2) σ))))) else (
if y4 = (-2) then (
zri y4 σ) else (
if y3 = (-1) then (
zri y4 σ) else (
if y3 < y4 then (
if 0 ≤ y3 ∧ y3 < 3 then (
zri (σ 92 y3) σ) else (
none)) else (
zri (-2) σ))))) := by
  have hm := zexec_m zX2 zMT d
  show zrunL zX2 (zexec zX2 zMT d) K_X12_least U_X12_least 40 [some (.inl (some 57)), some (.inr (.inl y1)), some (.inr (.inl y2)), some (.inr (.inl y3)), some (.inr (.inl y4)), some (.inr (.inl y5))] [] (LAY, σ) = _
  refine (zq_il hm (pc' := 42) rfl rfl rfl rfl).trans ?_
  refine (zq_ic hm (pc' := 43) rfl rfl rfl rfl).trans ?_
  refine (zq_ige hm (pc' := 46) rfl rfl).trans (zite ?_ ?_)
  · refine (zJ_n rfl).trans ?_
    refine (zq_il hm (pc' := 48) rfl rfl rfl rfl).trans ?_
    refine (zq_bi hm (pc' := 50) rfl rfl rfl rfl).trans ?_
    refine (zq_ine hm (pc' := 53) rfl rfl).trans (zite ?_ ?_)
    · refine (zJ_n rfl).trans ?_
      refine (zq_aln hm (pc' := 54) rfl rfl rfl rfl).trans ?_
      refine (zq_iln hm (pc' := 55) rfl rfl rfl rfl).trans ?_
      refine (zq_iln hm (pc' := 56) rfl rfl rfl rfl).trans ?_
      refine (zq_ic hm (pc' := 57) rfl rfl rfl rfl).trans ?_
      refine (zq_il hm (pc' := 59) rfl rfl rfl rfl).trans ?_
      refine (zq_ic hm (pc' := 60) rfl rfl rfl rfl).trans ?_
      refine (zq_v1 hm (pc' := 63) rfl rfl rfl (cls_57_12) rfl rfl).trans (zCI_c rfl (fun r102 s101 => ?_))
      refine (zJ_n rfl).trans ?_
      refine (zq_zeq hm (pc' := 66) rfl rfl).trans (zite ?_ ?_)
      · refine (zJ_n rfl).trans ?_
        refine (zq_aln hm (pc' := 71) rfl rfl rfl rfl).trans ?_
        refine (zq_aln hm (pc' := 72) rfl rfl rfl rfl).trans ?_
        refine (zq_gr hm (pc' := 75) rfl lay_57 rfl rfl).trans ?_
        refine (zJ_n rfl).trans ?_
        refine (zq_v0 hm (pc' := 78) rfl rfl rfl (cls_57_12) rfl rfl).trans (zCV_c rfl (fun s103 => ?_))
        refine (zJ_n rfl).trans ?_
        refine (zq_iinc hm (ls' := [some (.inl (some 57)), some (.inr (.inl y1)), some (.inr (.inl y2)), some (.inr (.inl y3)), some (.inr (.inl y4)), some (.inr (.inl (zw (y5 + 1))))]) (pc' := 81) rfl rfl rfl rfl rfl rfl).trans ?_
        exact (zc_goto hm rfl rfl).trans rfl
      · refine (zJ_n rfl).trans ?_
        refine (zq_il hm (pc' := 68) rfl rfl rfl rfl).trans ?_
        refine (zq_is hm (ls' := [some (.inl (some 57)), some (.inr (.inl y1)), some (.inr (.inl y2)), some (.inr (.inl y3)), some (.inr (.inl y5)), some (.inr (.inl y5))]) (pc' := 70) rfl rfl rfl rfl).trans ?_
        refine (zq_aln hm (pc' := 71) rfl rfl rfl rfl).trans ?_
        refine (zq_aln hm (pc' := 72) rfl rfl rfl rfl).trans ?_
        refine (zq_gr hm (pc' := 75) rfl lay_57 rfl rfl).trans ?_
        refine (zJ_n rfl).trans ?_
        refine (zq_v0 hm (pc' := 78) rfl rfl rfl (cls_57_12) rfl rfl).trans (zCV_c rfl (fun s104 => ?_))
        refine (zJ_n rfl).trans ?_
        refine (zq_iinc hm (ls' := [some (.inl (some 57)), some (.inr (.inl y1)), some (.inr (.inl y2)), some (.inr (.inl y3)), some (.inr (.inl y5)), some (.inr (.inl (zw (y5 + 1))))]) (pc' := 81) rfl rfl rfl rfl rfl rfl).trans ?_
        exact (zc_goto hm rfl rfl).trans rfl
    · refine (zJ_n rfl).trans ?_
      refine (zq_il hm (pc' := 86) rfl rfl rfl rfl).trans ?_
      refine (zq_bi hm (pc' := 88) rfl rfl rfl rfl).trans ?_
      refine (zq_ieq hm (pc' := 91) rfl rfl).trans (zite ?_ ?_)
      · refine (zJ_n rfl).trans ?_
        refine (zq_il hm (pc' := 98) rfl rfl rfl rfl).trans ?_
        refine (zq_goto hm rfl rfl).trans ?_
        exact zq_ri hm rfl rfl
      · refine (zJ_n rfl).trans ?_
        refine (zq_iln hm (pc' := 92) rfl rfl rfl rfl).trans ?_
        refine (zq_ic hm (pc' := 93) rfl rfl rfl rfl).trans ?_
        refine (zq_ine hm (pc' := 96) rfl rfl).trans (zite ?_ ?_)
        · refine (zJ_n rfl).trans ?_
          refine (zq_il hm (pc' := 98) rfl rfl rfl rfl).trans ?_
          refine (zq_goto hm rfl rfl).trans ?_
          exact zq_ri hm rfl rfl
        · refine (zJ_n rfl).trans ?_
          refine (zq_iln hm (pc' := 102) rfl rfl rfl rfl).trans ?_
          refine (zq_il hm (pc' := 104) rfl rfl rfl rfl).trans ?_
          refine (zq_ige hm (pc' := 107) rfl rfl).trans (zite ?_ ?_)
          · refine (zJ_n rfl).trans ?_
            refine (zq_aln hm (pc' := 108) rfl rfl rfl rfl).trans ?_
            refine (zq_gr hm (pc' := 111) rfl lay_57 rfl rfl).trans ?_
            refine (zJ_n rfl).trans ?_
            refine (zq_iln hm (pc' := 112) rfl rfl rfl rfl).trans ?_
            refine (zq_ia hm (v := (σ 92 y3)) (pc' := 113) rfl lay_92 rfl rfl).trans (zite ?_ rfl)
            refine (zJ_n rfl).trans ?_
            refine (zq_goto hm rfl rfl).trans ?_
            exact zq_ri hm rfl rfl
          · refine (zJ_n rfl).trans ?_
            refine (zq_bi hm (pc' := 118) rfl rfl rfl rfl).trans ?_
            exact zq_ri hm rfl rfl
  · refine (zJ_n rfl).trans ?_
    refine (zq_il hm (pc' := 86) rfl rfl rfl rfl).trans ?_
    refine (zq_bi hm (pc' := 88) rfl rfl rfl rfl).trans ?_
    refine (zq_ieq hm (pc' := 91) rfl rfl).trans (zite ?_ ?_)
    · refine (zJ_n rfl).trans ?_
      refine (zq_il hm (pc' := 98) rfl rfl rfl rfl).trans ?_
      refine (zq_goto hm rfl rfl).trans ?_
      exact zq_ri hm rfl rfl
    · refine (zJ_n rfl).trans ?_
      refine (zq_iln hm (pc' := 92) rfl rfl rfl rfl).trans ?_
      refine (zq_ic hm (pc' := 93) rfl rfl rfl rfl).trans ?_
      refine (zq_ine hm (pc' := 96) rfl rfl).trans (zite ?_ ?_)
      · refine (zJ_n rfl).trans ?_
        refine (zq_il hm (pc' := 98) rfl rfl rfl rfl).trans ?_
        refine (zq_goto hm rfl rfl).trans ?_
        exact zq_ri hm rfl rfl
      · refine (zJ_n rfl).trans ?_
        refine (zq_iln hm (pc' := 102) rfl rfl rfl rfl).trans ?_
        refine (zq_il hm (pc' := 104) rfl rfl rfl rfl).trans ?_
        refine (zq_ige hm (pc' := 107) rfl rfl).trans (zite ?_ ?_)
        · refine (zJ_n rfl).trans ?_
          refine (zq_aln hm (pc' := 108) rfl rfl rfl rfl).trans ?_
          refine (zq_gr hm (pc' := 111) rfl lay_57 rfl rfl).trans ?_
          refine (zJ_n rfl).trans ?_
          refine (zq_iln hm (pc' := 112) rfl rfl rfl rfl).trans ?_
          refine (zq_ia hm (v := (σ 92 y3)) (pc' := 113) rfl lay_92 rfl rfl).trans (zite ?_ rfl)
          refine (zJ_n rfl).trans ?_
          refine (zq_goto hm rfl rfl).trans ?_
          exact zq_ri hm rfl rfl
        · refine (zJ_n rfl).trans ?_
          refine (zq_bi hm (pc' := 118) rfl rfl rfl rfl).trans ?_
          exact zq_ri hm rfl rfl
noncomputable def P_X12_best_27 (d : Nat) (y1 : Int) (y2 : Int) (y3 : Int) (y4 : Int) (σ : zF) : Option zR := zrunL zX2 (zexec zX2 zMT d) K_X12_best U_X12_best 27 [some (.inl (some 57)), some (.inr (.inl y1)), some (.inr (.inl y2)), some (.inr (.inl y3)), some (.inr (.inl y4)), none] [] (LAY, σ)
set_option maxRecDepth 100000 in
set_option maxHeartbeats 4000000 in
theorem e_X12_best (d : Nat) (x1 : Int) (σ : zF) : zx (d + 1) 213 [.inl (some 57), .inr (.inl x1)] σ = (
zCI LAY (zx d 153 [.inr (.inl x1), .inr (.inl 0), .inr (.inl 1)] σ) fun r2 s1 =>
if r2 = 0 then (
zri (-1) s1) else (
zCV LAY (zx d 197 [.inl (some 57), .inl (some 86)] s1) fun s3 =>
P_X12_best_27 d x1 (-2) 0 0 s3)) := by
  unfold zx
  have hm := zexec_m zX2 zMT d
  refine (zexec_eq mt_213 _ rfl (LAY, σ) 0).trans ?_
  show zrunL zX2 (zexec zX2 zMT d) K_X12_best U_X12_best 0 [some (.inl (some 57)), some (.inr (.inl x1)), none, none, none, none] [] (LAY, σ) = _
  refine (zq_iln hm (pc' := 1) rfl rfl rfl rfl).trans ?_
  refine (zq_ic hm (pc' := 2) rfl rfl rfl rfl).trans ?_
  refine (zq_ic hm (pc' := 3) rfl rfl rfl rfl).trans ?_
  refine (zq_s1 hm (pc' := 6) rfl rfl rfl rfl rfl rfl).trans (zCI_c rfl (fun r2 s1 => ?_))
  refine (zJ_n rfl).trans ?_
  refine (zq_zne hm (pc' := 9) rfl rfl).trans (zite ?_ ?_)
  · refine (zJ_n rfl).trans ?_
    refine (zq_ic hm (pc' := 10) rfl rfl rfl rfl).trans ?_
    exact zq_ri hm rfl rfl
  · refine (zJ_n rfl).trans ?_
    refine (zq_aln hm (pc' := 12) rfl rfl rfl rfl).trans ?_
    refine (zq_aln hm (pc' := 13) rfl rfl rfl rfl).trans ?_
    refine (zq_gr hm (pc' := 16) rfl lay_57 rfl rfl).trans ?_
    refine (zJ_n rfl).trans ?_
    refine (zq_v0 hm (pc' := 19) rfl rfl rfl (cls_57_12) rfl rfl).trans (zCV_c rfl (fun s3 => ?_))
    refine (zJ_n rfl).trans ?_
    refine (zq_bi hm (pc' := 21) rfl rfl rfl rfl).trans ?_
    refine (zq_isn hm (ls' := [some (.inl (some 57)), some (.inr (.inl x1)), some (.inr (.inl (-2))), none, none, none]) (pc' := 22) rfl rfl rfl rfl).trans ?_
    refine (zq_ic hm (pc' := 23) rfl rfl rfl rfl).trans ?_
    refine (zq_isn hm (ls' := [some (.inl (some 57)), some (.inr (.inl x1)), some (.inr (.inl (-2))), some (.inr (.inl 0)), none, none]) (pc' := 24) rfl rfl rfl rfl).trans ?_
    refine (zq_ic hm (pc' := 25) rfl rfl rfl rfl).trans ?_
    exact (zc_is hm (ls' := [some (.inl (some 57)), some (.inr (.inl x1)), some (.inr (.inl (-2))), some (.inr (.inl 0)), some (.inr (.inl 0)), none]) (pc' := 27) rfl rfl rfl rfl).trans rfl
set_option maxRecDepth 100000 in
set_option maxHeartbeats 4000000 in
theorem e_X12_best_27 (d : Nat) (y1 : Int) (y2 : Int) (y3 : Int) (y4 : Int) (σ : zF) : P_X12_best_27 d y1 y2 y3 y4 σ = (
if y4 < (σ 57 0) then (
zCV LAY (zx d 196 [.inl (some 57), .inr (.inl y4), .inr (.inl 1)] σ) fun s101 =>
zCI LAY (zx d 193 [.inl (some 57)] s101) fun r103 s102 =>
zCV LAY (zx d 198 [.inl (some 57), .inl (some 86)] s102) fun s104 =>
if y2 = (-2) then (
P_X12_best_27 d y1 y4 r103 (zw (y4 + 1)) s104) else (
if r103 < y3 then (
P_X12_best_27 d y1 y4 r103 (zw (y4 + 1)) s104) else (
P_X12_best_27 d y1 y2 y3 (zw (y4 + 1)) s104))) else (
if y2 = (-2) then (
zri y2 σ) else (
if y1 = 0 then (
zri y2 σ) else (
zri y3 σ)))) := by
  have hm := zexec_m zX2 zMT d
  show zrunL zX2 (zexec zX2 zMT d) K_X12_best U_X12_best 27 [some (.inl (some 57)), some (.inr (.inl y1)), some (.inr (.inl y2)), some (.inr (.inl y3)), some (.inr (.inl y4)), none] [] (LAY, σ) = _
  refine (zq_il hm (pc' := 29) rfl rfl rfl rfl).trans ?_
  refine (zq_aln hm (pc' := 30) rfl rfl rfl rfl).trans ?_
  refine (zq_gf hm (v := (σ 57 0)) (pc' := 33) rfl lay_57 rfl rfl rfl).trans ?_
  refine (zJ_n rfl).trans ?_
  refine (zq_ige hm (pc' := 36) rfl rfl).trans (zite ?_ ?_)
  · refine (zJ_n rfl).trans ?_
    refine (zq_aln hm (pc' := 37) rfl rfl rfl rfl).trans ?_
    refine (zq_il hm (pc' := 39) rfl rfl rfl rfl).trans ?_
    refine (zq_ic hm (pc' := 40) rfl rfl rfl rfl).trans ?_
    refine (zq_v0 hm (pc' := 43) rfl rfl rfl (cls_57_12) rfl rfl).trans (zCV_c rfl (fun s101 => ?_))
    refine (zJ_n rfl).trans ?_
    refine (zq_aln hm (pc' := 44) rfl rfl rfl rfl).trans ?_
    refine (zq_v1 hm (pc' := 47) rfl rfl rfl (cls_57_12) rfl rfl).trans (zCI_c rfl (fun r103 s102 => ?_))
    refine (zJ_n rfl).trans ?_
    refine (zq_is hm (ls' := [some (.inl (some 57)), some (.inr (.inl y1)), some (.inr (.inl y2)), some (.inr (.inl y3)), some (.inr (.inl y4)), some (.inr (.inl r103))]) (pc' := 49) rfl rfl rfl rfl).trans ?_
    refine (zq_aln hm (pc' := 50) rfl rfl rfl rfl).trans ?_
    refine (zq_aln hm (pc' := 51) rfl rfl rfl rfl).trans ?_
    refine (zq_gr hm (pc' := 54) rfl lay_57 rfl rfl).trans ?_
    refine (zJ_n rfl).trans ?_
    refine (zq_v0 hm (pc' := 57) rfl rfl rfl (cls_57_12) rfl rfl).trans (zCV_c rfl (fun s104 => ?_))
    refine (zJ_n rfl).trans ?_
    refine (zq_iln hm (pc' := 58) rfl rfl rfl rfl).trans ?_
    refine (zq_bi hm (pc' := 60) rfl rfl rfl rfl).trans ?_
    refine (zq_ieq hm (pc' := 63) rfl rfl).trans (zite ?_ ?_)
    · refine (zJ_n rfl).trans ?_
      refine (zq_il hm (pc' := 74) rfl rfl rfl rfl).trans ?_
      refine (zq_isn hm (ls' := [some (.inl (some 57)), some (.inr (.inl y1)), some (.inr (.inl y2)), some (.inr (.inl r103)), some (.inr (.inl y4)), some (.inr (.inl r103))]) (pc' := 75) rfl rfl rfl rfl).trans ?_
      refine (zq_il hm (pc' := 77) rfl rfl rfl rfl).trans ?_
      refine (zq_isn hm (ls' := [some (.inl (some 57)), some (.inr (.inl y1)), some (.inr (.inl y4)), some (.inr (.inl r103)), some (.inr (.inl y4)), some (.inr (.inl r103))]) (pc' := 78) rfl rfl rfl rfl).trans ?_
      refine (zq_iinc hm (ls' := [some (.inl (some 57)), some (.inr (.inl y1)), some (.inr (.inl y4)), some (.inr (.inl r103)), some (.inr (.inl (zw (y4 + 1)))), some (.inr (.inl r103))]) (pc' := 81) rfl rfl rfl rfl rfl rfl).trans ?_
      exact (zc_goto hm rfl rfl).trans rfl
    · refine (zJ_n rfl).trans ?_
      refine (zq_il hm (pc' := 65) rfl rfl rfl rfl).trans ?_
      refine (zq_iln hm (pc' := 66) rfl rfl rfl rfl).trans ?_
      refine (zq_ilt hm (pc' := 69) rfl rfl).trans (zite ?_ ?_)
      · refine (zJ_n rfl).trans ?_
        refine (zq_il hm (pc' := 74) rfl rfl rfl rfl).trans ?_
        refine (zq_isn hm (ls' := [some (.inl (some 57)), some (.inr (.inl y1)), some (.inr (.inl y2)), some (.inr (.inl r103)), some (.inr (.inl y4)), some (.inr (.inl r103))]) (pc' := 75) rfl rfl rfl rfl).trans ?_
        refine (zq_il hm (pc' := 77) rfl rfl rfl rfl).trans ?_
        refine (zq_isn hm (ls' := [some (.inl (some 57)), some (.inr (.inl y1)), some (.inr (.inl y4)), some (.inr (.inl r103)), some (.inr (.inl y4)), some (.inr (.inl r103))]) (pc' := 78) rfl rfl rfl rfl).trans ?_
        refine (zq_iinc hm (ls' := [some (.inl (some 57)), some (.inr (.inl y1)), some (.inr (.inl y4)), some (.inr (.inl r103)), some (.inr (.inl (zw (y4 + 1)))), some (.inr (.inl r103))]) (pc' := 81) rfl rfl rfl rfl rfl rfl).trans ?_
        exact (zc_goto hm rfl rfl).trans rfl
      · refine (zJ_n rfl).trans ?_
        refine (zq_goto hm rfl rfl).trans ?_
        refine (zq_iinc hm (ls' := [some (.inl (some 57)), some (.inr (.inl y1)), some (.inr (.inl y2)), some (.inr (.inl y3)), some (.inr (.inl (zw (y4 + 1)))), some (.inr (.inl r103))]) (pc' := 81) rfl rfl rfl rfl rfl rfl).trans ?_
        exact (zc_goto hm rfl rfl).trans rfl
  · refine (zJ_n rfl).trans ?_
    refine (zq_iln hm (pc' := 85) rfl rfl rfl rfl).trans ?_
    refine (zq_bi hm (pc' := 87) rfl rfl rfl rfl).trans ?_
    refine (zq_ieq hm (pc' := 90) rfl rfl).trans (zite ?_ ?_)
    · refine (zJ_n rfl).trans ?_
      refine (zq_iln hm (pc' := 95) rfl rfl rfl rfl).trans ?_
      refine (zq_goto hm rfl rfl).trans ?_
      exact zq_ri hm rfl rfl
    · refine (zJ_n rfl).trans ?_
      refine (zq_iln hm (pc' := 91) rfl rfl rfl rfl).trans ?_
      refine (zq_zne hm (pc' := 94) rfl rfl).trans (zite ?_ ?_)
      · refine (zJ_n rfl).trans ?_
        refine (zq_iln hm (pc' := 95) rfl rfl rfl rfl).trans ?_
        refine (zq_goto hm rfl rfl).trans ?_
        exact zq_ri hm rfl rfl
      · refine (zJ_n rfl).trans ?_
        refine (zq_iln hm (pc' := 99) rfl rfl rfl rfl).trans ?_
        exact zq_ri hm rfl rfl
noncomputable def P_X12_anger_14 (d : Nat) (y1 : Int) (y2 : Int) (y3 : Int) (σ : zF) : Option zR := zrunL zX2 (zexec zX2 zMT d) K_X12_anger U_X12_anger 14 [some (.inl (some 57)), some (.inr (.inl y1)), some (.inr (.inl y2)), some (.inr (.inl y3))] [] (LAY, σ)
set_option maxRecDepth 100000 in
set_option maxHeartbeats 4000000 in
theorem e_X12_anger (d : Nat) (x1 : Int) (σ : zF) : zx (d + 1) 214 [.inl (some 57), .inr (.inl x1)] σ = (
zCI LAY (zx d 154 [.inl (some 57), .inr (.inl x1)] σ) fun r2 s1 =>
if r2 = 0 then (
zri (-1) s1) else (
P_X12_anger_14 d x1 0 0 s1)) := by
  unfold zx
  have hm := zexec_m zX2 zMT d
  refine (zexec_eq mt_214 _ rfl (LAY, σ) 0).trans ?_
  show zrunL zX2 (zexec zX2 zMT d) K_X12_anger U_X12_anger 0 [some (.inl (some 57)), some (.inr (.inl x1)), none, none] [] (LAY, σ) = _
  refine (zq_aln hm (pc' := 1) rfl rfl rfl rfl).trans ?_
  refine (zq_iln hm (pc' := 2) rfl rfl rfl rfl).trans ?_
  refine (zq_v1 hm (pc' := 5) rfl rfl rfl (cls_57_12) rfl rfl).trans (zCI_c rfl (fun r2 s1 => ?_))
  refine (zJ_n rfl).trans ?_
  refine (zq_zne hm (pc' := 8) rfl rfl).trans (zite ?_ ?_)
  · refine (zJ_n rfl).trans ?_
    refine (zq_ic hm (pc' := 9) rfl rfl rfl rfl).trans ?_
    exact zq_ri hm rfl rfl
  · refine (zJ_n rfl).trans ?_
    refine (zq_ic hm (pc' := 11) rfl rfl rfl rfl).trans ?_
    refine (zq_isn hm (ls' := [some (.inl (some 57)), some (.inr (.inl x1)), some (.inr (.inl 0)), none]) (pc' := 12) rfl rfl rfl rfl).trans ?_
    refine (zq_ic hm (pc' := 13) rfl rfl rfl rfl).trans ?_
    exact (zc_isn hm (ls' := [some (.inl (some 57)), some (.inr (.inl x1)), some (.inr (.inl 0)), some (.inr (.inl 0))]) (pc' := 14) rfl rfl rfl rfl).trans rfl
set_option maxRecDepth 100000 in
set_option maxHeartbeats 4000000 in
theorem e_X12_anger_14 (d : Nat) (y1 : Int) (y2 : Int) (y3 : Int) (σ : zF) : P_X12_anger_14 d y1 y2 y3 σ = (
if y3 < (σ 57 0) then (
if 0 ≤ zw (24 + y3) ∧ zw (24 + y3) < 48 then (
if (σ 60 (zw (24 + y3))) = y1 then (
P_X12_anger_14 d y1 (zor y2 (zshl 1 y3)) (zw (y3 + 1)) σ) else (
P_X12_anger_14 d y1 y2 (zw (y3 + 1)) σ)) else (
none)) else (
zri y2 σ)) := by
  have hm := zexec_m zX2 zMT d
  show zrunL zX2 (zexec zX2 zMT d) K_X12_anger U_X12_anger 14 [some (.inl (some 57)), some (.inr (.inl y1)), some (.inr (.inl y2)), some (.inr (.inl y3))] [] (LAY, σ) = _
  refine (zq_iln hm (pc' := 15) rfl rfl rfl rfl).trans ?_
  refine (zq_aln hm (pc' := 16) rfl rfl rfl rfl).trans ?_
  refine (zq_gf hm (v := (σ 57 0)) (pc' := 19) rfl lay_57 rfl rfl rfl).trans ?_
  refine (zJ_n rfl).trans ?_
  refine (zq_ige hm (pc' := 22) rfl rfl).trans (zite ?_ ?_)
  · refine (zJ_n rfl).trans ?_
    refine (zq_aln hm (pc' := 23) rfl rfl rfl rfl).trans ?_
    refine (zq_gr hm (pc' := 26) rfl lay_57 rfl rfl).trans ?_
    refine (zJ_n rfl).trans ?_
    refine (zq_bi hm (pc' := 28) rfl rfl rfl rfl).trans ?_
    refine (zq_iln hm (pc' := 29) rfl rfl rfl rfl).trans ?_
    refine (zq_iadd hm (pc' := 30) rfl rfl rfl).trans ?_
    refine (zq_ia hm (v := (σ 60 (zw (24 + y3)))) (pc' := 31) rfl lay_60 rfl rfl).trans (zite ?_ rfl)
    refine (zJ_n rfl).trans ?_
    refine (zq_iln hm (pc' := 32) rfl rfl rfl rfl).trans ?_
    refine (zq_ine hm (pc' := 35) rfl rfl).trans (zite ?_ ?_)
    · refine (zJ_n rfl).trans ?_
      refine (zq_iln hm (pc' := 36) rfl rfl rfl rfl).trans ?_
      refine (zq_ic hm (pc' := 37) rfl rfl rfl rfl).trans ?_
      refine (zq_iln hm (pc' := 38) rfl rfl rfl rfl).trans ?_
      refine (zq_ishl hm (pc' := 39) rfl rfl rfl).trans ?_
      refine (zq_ior hm (pc' := 40) rfl rfl rfl).trans ?_
      refine (zq_isn hm (ls' := [some (.inl (some 57)), some (.inr (.inl y1)), some (.inr (.inl (zor y2 (zshl 1 y3)))), some (.inr (.inl y3))]) (pc' := 41) rfl rfl rfl rfl).trans ?_
      refine (zq_iinc hm (ls' := [some (.inl (some 57)), some (.inr (.inl y1)), some (.inr (.inl (zor y2 (zshl 1 y3)))), some (.inr (.inl (zw (y3 + 1))))]) (pc' := 44) rfl rfl rfl rfl rfl rfl).trans ?_
      exact (zc_goto hm rfl rfl).trans rfl
    · refine (zJ_n rfl).trans ?_
      refine (zq_iinc hm (ls' := [some (.inl (some 57)), some (.inr (.inl y1)), some (.inr (.inl y2)), some (.inr (.inl (zw (y3 + 1))))]) (pc' := 44) rfl rfl rfl rfl rfl rfl).trans ?_
      exact (zc_goto hm rfl rfl).trans rfl
  · refine (zJ_n rfl).trans ?_
    refine (zq_iln hm (pc' := 48) rfl rfl rfl rfl).trans ?_
    exact zq_ri hm rfl rfl
