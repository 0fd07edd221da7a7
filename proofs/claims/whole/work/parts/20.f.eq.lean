/-! equations, 6 -/
set_option maxRecDepth 100000 in
set_option maxHeartbeats 4000000 in
theorem e_X12_road (d : Nat) (x1 : Int) (x2 : Int) (σ : zF) : zx (d + 1) 160 [.inl (some 57), .inr (.inl x1), .inr (.inl x2)] σ = (
zCI LAY (zx d 157 [.inr (.inl x1)] σ) fun r2 s1 =>
if r2 = 0 then (
zri (-1) s1) else (
zCI LAY (zx d 153 [.inr (.inl x2), .inr (.inl 1), .inr (.inl 99)] s1) fun r4 s3 =>
if r4 = 0 then (
zri (-1) s3) else (
if (s3 57 0) = 12 then (
zri (-3) s3) else (
if (10 : Int) = 0 then none else (
if (10 : Int) = 0 then none else (
zCI LAY (zx d 159 [.inl (some 57), .inr (.inl (zdiv x1 10)), .inr (.inl (zrem x1 10)), .inr (.inl x2)] s3) fun r6 s5 =>
zri r6 s5)))))) := by
  unfold zx
  have hm := zexec_m zX2 zMT d
  refine (zexec_eq mt_160 _ rfl (LAY, σ) 0).trans ?_
  show zrunL zX2 (zexec zX2 zMT d) K_X12_road U_X12_road 0 [some (.inl (some 57)), some (.inr (.inl x1)), some (.inr (.inl x2))] [] (LAY, σ) = _
  refine (zq_iln hm (pc' := 1) rfl rfl rfl rfl).trans ?_
  refine (zq_s1 hm (pc' := 4) rfl rfl rfl rfl rfl rfl).trans (zCI_c rfl (fun r2 s1 => ?_))
  refine (zJ_n rfl).trans ?_
  refine (zq_zeq hm (pc' := 7) rfl rfl).trans (zite ?_ ?_)
  · refine (zJ_n rfl).trans ?_
    refine (zq_ic hm (pc' := 18) rfl rfl rfl rfl).trans ?_
    exact zq_ri hm rfl rfl
  · refine (zJ_n rfl).trans ?_
    refine (zq_iln hm (pc' := 8) rfl rfl rfl rfl).trans ?_
    refine (zq_ic hm (pc' := 9) rfl rfl rfl rfl).trans ?_
    refine (zq_bi hm (pc' := 11) rfl rfl rfl rfl).trans ?_
    refine (zq_s1 hm (pc' := 14) rfl rfl rfl rfl rfl rfl).trans (zCI_c rfl (fun r4 s3 => ?_))
    refine (zJ_n rfl).trans ?_
    refine (zq_zne hm (pc' := 17) rfl rfl).trans (zite ?_ ?_)
    · refine (zJ_n rfl).trans ?_
      refine (zq_ic hm (pc' := 18) rfl rfl rfl rfl).trans ?_
      exact zq_ri hm rfl rfl
    · refine (zJ_n rfl).trans ?_
      refine (zq_aln hm (pc' := 20) rfl rfl rfl rfl).trans ?_
      refine (zq_gf hm (v := (s3 57 0)) (pc' := 23) rfl lay_57 rfl rfl rfl).trans ?_
      refine (zJ_n rfl).trans ?_
      refine (zq_bi hm (pc' := 25) rfl rfl rfl rfl).trans ?_
      refine (zq_ine hm (pc' := 28) rfl rfl).trans (zite ?_ ?_)
      · refine (zJ_n rfl).trans ?_
        refine (zq_bi hm (pc' := 30) rfl rfl rfl rfl).trans ?_
        refine (zq_goto hm rfl rfl).trans ?_
        exact zq_ri hm rfl rfl
      · refine (zJ_n rfl).trans ?_
        refine (zq_aln hm (pc' := 34) rfl rfl rfl rfl).trans ?_
        refine (zq_iln hm (pc' := 35) rfl rfl rfl rfl).trans ?_
        refine (zq_bi hm (pc' := 37) rfl rfl rfl rfl).trans ?_
        refine (zq_idiv hm (pc' := 38) rfl rfl).trans (zite rfl ?_)
        refine (zJ_n rfl).trans ?_
        refine (zq_iln hm (pc' := 39) rfl rfl rfl rfl).trans ?_
        refine (zq_bi hm (pc' := 41) rfl rfl rfl rfl).trans ?_
        refine (zq_irem hm (pc' := 42) rfl rfl).trans (zite rfl ?_)
        refine (zJ_n rfl).trans ?_
        refine (zq_iln hm (pc' := 43) rfl rfl rfl rfl).trans ?_
        refine (zq_v1 hm (pc' := 46) rfl rfl rfl (cls_57_12) rfl rfl).trans (zCI_c rfl (fun r6 s5 => ?_))
        refine (zJ_n rfl).trans ?_
        exact zq_ri hm rfl rfl
noncomputable def P_X12_roads_49 (d : Nat) (y1 : Int) (y2 : Int) (y3 : Int) (y4 : Int) (y5 : Int) (σ : zF) : Option zR := zrunL zX2 (zexec zX2 zMT d) K_X12_roads U_X12_roads 49 [some (.inl (some 57)), some (.inr (.inl y1)), some (.inr (.inl y2)), some (.inr (.inl y3)), some (.inr (.inl y4)), some (.inr (.inl y5)), none, none, none, none, none] [] (LAY, σ)
set_option maxRecDepth 100000 in
set_option maxHeartbeats 4000000 in
theorem e_X12_roads (d : Nat) (x1 : Int) (x2 : Int) (x3 : Int) (σ : zF) : zx (d + 1) 161 [.inl (some 57), .inr (.inl x1), .inr (.inl x2), .inr (.inl x3)] σ = (
zCI LAY (zx d 158 [.inr (.inl x1)] σ) fun r2 s1 =>
if r2 = 0 then (
zri (-1) s1) else (
zCI LAY (zx d 153 [.inr (.inl x3), .inr (.inl 1), .inr (.inl 12)] s1) fun r4 s3 =>
if r4 = 0 then (
zri (-1) s3) else (
if 0 ≤ x1 ∧ x1 < 6 then (
if (s3 81 x1) = (-1) then (
zri 0 s3) else (
if 0 ≤ x1 ∧ x1 < 6 then (
if (s3 81 x1) = 0 then (
P_X12_roads_49 d x1 x2 x3 0 0 s3) else (
zri (-12) s3)) else (
none))) else (
none)))) := by
  unfold zx
  have hm := zexec_m zX2 zMT d
  refine (zexec_eq mt_161 _ rfl (LAY, σ) 0).trans ?_
  show zrunL zX2 (zexec zX2 zMT d) K_X12_roads U_X12_roads 0 [some (.inl (some 57)), some (.inr (.inl x1)), some (.inr (.inl x2)), some (.inr (.inl x3)), none, none, none, none, none, none, none] [] (LAY, σ) = _
  refine (zq_iln hm (pc' := 1) rfl rfl rfl rfl).trans ?_
  refine (zq_s1 hm (pc' := 4) rfl rfl rfl rfl rfl rfl).trans (zCI_c rfl (fun r2 s1 => ?_))
  refine (zJ_n rfl).trans ?_
  refine (zq_zeq hm (pc' := 7) rfl rfl).trans (zite ?_ ?_)
  · refine (zJ_n rfl).trans ?_
    refine (zq_ic hm (pc' := 18) rfl rfl rfl rfl).trans ?_
    exact zq_ri hm rfl rfl
  · refine (zJ_n rfl).trans ?_
    refine (zq_iln hm (pc' := 8) rfl rfl rfl rfl).trans ?_
    refine (zq_ic hm (pc' := 9) rfl rfl rfl rfl).trans ?_
    refine (zq_bi hm (pc' := 11) rfl rfl rfl rfl).trans ?_
    refine (zq_s1 hm (pc' := 14) rfl rfl rfl rfl rfl rfl).trans (zCI_c rfl (fun r4 s3 => ?_))
    refine (zJ_n rfl).trans ?_
    refine (zq_zne hm (pc' := 17) rfl rfl).trans (zite ?_ ?_)
    · refine (zJ_n rfl).trans ?_
      refine (zq_ic hm (pc' := 18) rfl rfl rfl rfl).trans ?_
      exact zq_ri hm rfl rfl
    · refine (zJ_n rfl).trans ?_
      refine (zq_aln hm (pc' := 20) rfl rfl rfl rfl).trans ?_
      refine (zq_gr hm (pc' := 23) rfl lay_57 rfl rfl).trans ?_
      refine (zJ_n rfl).trans ?_
      refine (zq_iln hm (pc' := 24) rfl rfl rfl rfl).trans ?_
      refine (zq_ia hm (v := (s3 81 x1)) (pc' := 25) rfl lay_81 rfl rfl).trans (zite ?_ rfl)
      refine (zJ_n rfl).trans ?_
      refine (zq_ic hm (pc' := 26) rfl rfl rfl rfl).trans ?_
      refine (zq_ine hm (pc' := 29) rfl rfl).trans (zite ?_ ?_)
      · refine (zJ_n rfl).trans ?_
        refine (zq_ic hm (pc' := 30) rfl rfl rfl rfl).trans ?_
        exact zq_ri hm rfl rfl
      · refine (zJ_n rfl).trans ?_
        refine (zq_aln hm (pc' := 32) rfl rfl rfl rfl).trans ?_
        refine (zq_gr hm (pc' := 35) rfl lay_57 rfl rfl).trans ?_
        refine (zJ_n rfl).trans ?_
        refine (zq_iln hm (pc' := 36) rfl rfl rfl rfl).trans ?_
        refine (zq_ia hm (v := (s3 81 x1)) (pc' := 37) rfl lay_81 rfl rfl).trans (zite ?_ rfl)
        refine (zJ_n rfl).trans ?_
        refine (zq_zeq hm (pc' := 40) rfl rfl).trans (zite ?_ ?_)
        · refine (zJ_n rfl).trans ?_
          refine (zq_ic hm (pc' := 44) rfl rfl rfl rfl).trans ?_
          refine (zq_is hm (ls' := [some (.inl (some 57)), some (.inr (.inl x1)), some (.inr (.inl x2)), some (.inr (.inl x3)), some (.inr (.inl 0)), none, none, none, none, none, none]) (pc' := 46) rfl rfl rfl rfl).trans ?_
          refine (zq_ic hm (pc' := 47) rfl rfl rfl rfl).trans ?_
          exact (zc_is hm (ls' := [some (.inl (some 57)), some (.inr (.inl x1)), some (.inr (.inl x2)), some (.inr (.inl x3)), some (.inr (.inl 0)), some (.inr (.inl 0)), none, none, none, none, none]) (pc' := 49) rfl rfl rfl rfl).trans rfl
        · refine (zJ_n rfl).trans ?_
          refine (zq_bi hm (pc' := 42) rfl rfl rfl rfl).trans ?_
          exact zq_ri hm rfl rfl
set_option maxRecDepth 100000 in
set_option maxHeartbeats 4000000 in
theorem e_X12_roads_49 (d : Nat) (y1 : Int) (y2 : Int) (y3 : Int) (y4 : Int) (y5 : Int) (σ : zF) : P_X12_roads_49 d y1 y2 y3 y4 y5 σ = (
if y5 < y3 then (
if zcmpl (zwl (y2 + (zwl (3 * y5)))) 0 < 0 then (
zri y4 σ) else (
if 0 ≤ y1 ∧ y1 < 6 then (
if (0 : Int) < zcmpl (zwl ((zwl (y2 + (zwl (3 * y5)))) + 3)) (σ 82 y1) then (
zri y4 σ) else (
if (σ 57 0) = 12 then (
zri y4 σ) else (
zCI LAY (zx d 162 [.inl (some 57), .inr (.inl y1), .inr (.inl (zw (zwl (y2 + (zwl (3 * y5))))))] σ) fun r102 s101 =>
zCI LAY (zx d 162 [.inl (some 57), .inr (.inl y1), .inr (.inl (zw ((zw (zwl (y2 + (zwl (3 * y5))))) + 1)))] s101) fun r104 s103 =>
zCI LAY (zx d 156 [.inr (.inl r102)] s103) fun r106 s105 =>
if r106 = 0 then (
zri y4 s105) else (
zCI LAY (zx d 156 [.inr (.inl r104)] s105) fun r108 s107 =>
if r108 = 0 then (
zri y4 s107) else (
if r102 = r104 then (
zri y4 s107) else (
zCI LAY (zx d 162 [.inl (some 57), .inr (.inl y1), .inr (.inl (zw ((zw (zwl (y2 + (zwl (3 * y5))))) + 2)))] s107) fun r110 s109 =>
zCI LAY (zx d 153 [.inr (.inl r110), .inr (.inl 1), .inr (.inl 99)] s109) fun r112 s111 =>
if r112 = 0 then (
zri y4 s111) else (
zCI LAY (zx d 162 [.inl (some 57), .inr (.inl y1), .inr (.inl (zw ((zw (zwl (y2 + (zwl (3 * y5))))) + 2)))] s111) fun r114 s113 =>
zCI LAY (zx d 159 [.inl (some 57), .inr (.inl r102), .inr (.inl r104), .inr (.inl r114)] s113) fun r116 s115 =>
P_X12_roads_49 d y1 y2 y3 (zw (y4 + 1)) (zw (y5 + 1)) s115))))))) else (
none))) else (
zri y4 σ)) := by
  have hm := zexec_m zX2 zMT d
  show zrunL zX2 (zexec zX2 zMT d) K_X12_roads U_X12_roads 49 [some (.inl (some 57)), some (.inr (.inl y1)), some (.inr (.inl y2)), some (.inr (.inl y3)), some (.inr (.inl y4)), some (.inr (.inl y5)), none, none, none, none, none] [] (LAY, σ) = _
  refine (zq_il hm (pc' := 51) rfl rfl rfl rfl).trans ?_
  refine (zq_iln hm (pc' := 52) rfl rfl rfl rfl).trans ?_
  refine (zq_ige hm (pc' := 55) rfl rfl).trans (zite ?_ ?_)
  · refine (zJ_n rfl).trans ?_
    refine (zq_iln hm (pc' := 56) rfl rfl rfl rfl).trans ?_
    refine (zq_i2l hm (pc' := 57) rfl rfl rfl).trans ?_
    refine (zq_l2 hm (pc' := 60) rfl rfl rfl rfl).trans ?_
    refine (zq_il hm (pc' := 62) rfl rfl rfl rfl).trans ?_
    refine (zq_i2l hm (pc' := 63) rfl rfl rfl).trans ?_
    refine (zq_lmul hm (pc' := 64) rfl rfl rfl).trans ?_
    refine (zq_ladd hm (pc' := 65) rfl rfl rfl).trans ?_
    refine (zq_ls hm (ls' := [some (.inl (some 57)), some (.inr (.inl y1)), some (.inr (.inl y2)), some (.inr (.inl y3)), some (.inr (.inl y4)), some (.inr (.inl y5)), some (.inr (.inr (zwl (y2 + (zwl (3 * y5)))))), none, none, none, none]) (pc' := 67) rfl rfl rfl rfl).trans ?_
    refine (zq_ll hm (pc' := 69) rfl rfl rfl rfl).trans ?_
    refine (zq_lc hm (pc' := 70) rfl rfl rfl rfl).trans ?_
    refine (zq_lcmp hm (pc' := 71) rfl rfl rfl).trans ?_
    refine (zq_zlt hm (pc' := 74) rfl rfl).trans (zite ?_ ?_)
    · refine (zJ_n rfl).trans ?_
      refine (zq_il hm (pc' := 102) rfl rfl rfl rfl).trans ?_
      exact zq_ri hm rfl rfl
    · refine (zJ_n rfl).trans ?_
      refine (zq_ll hm (pc' := 76) rfl rfl rfl rfl).trans ?_
      refine (zq_l2 hm (pc' := 79) rfl rfl rfl rfl).trans ?_
      refine (zq_ladd hm (pc' := 80) rfl rfl rfl).trans ?_
      refine (zq_aln hm (pc' := 81) rfl rfl rfl rfl).trans ?_
      refine (zq_gr hm (pc' := 84) rfl lay_57 rfl rfl).trans ?_
      refine (zJ_n rfl).trans ?_
      refine (zq_iln hm (pc' := 85) rfl rfl rfl rfl).trans ?_
      refine (zq_ia hm (v := (σ 82 y1)) (pc' := 86) rfl lay_82 rfl rfl).trans (zite ?_ rfl)
      refine (zJ_n rfl).trans ?_
      refine (zq_i2l hm (pc' := 87) rfl rfl rfl).trans ?_
      refine (zq_lcmp hm (pc' := 88) rfl rfl rfl).trans ?_
      refine (zq_zgt hm (pc' := 91) rfl rfl).trans (zite ?_ ?_)
      · refine (zJ_n rfl).trans ?_
        refine (zq_il hm (pc' := 102) rfl rfl rfl rfl).trans ?_
        exact zq_ri hm rfl rfl
      · refine (zJ_n rfl).trans ?_
        refine (zq_aln hm (pc' := 92) rfl rfl rfl rfl).trans ?_
        refine (zq_gf hm (v := (σ 57 0)) (pc' := 95) rfl lay_57 rfl rfl rfl).trans ?_
        refine (zJ_n rfl).trans ?_
        refine (zq_bi hm (pc' := 97) rfl rfl rfl rfl).trans ?_
        refine (zq_ine hm (pc' := 100) rfl rfl).trans (zite ?_ ?_)
        · refine (zJ_n rfl).trans ?_
          refine (zq_il hm (pc' := 102) rfl rfl rfl rfl).trans ?_
          exact zq_ri hm rfl rfl
        · refine (zJ_n rfl).trans ?_
          refine (zq_ll hm (pc' := 105) rfl rfl rfl rfl).trans ?_
          refine (zq_l2i hm (pc' := 106) rfl rfl rfl).trans ?_
          refine (zq_is hm (ls' := [some (.inl (some 57)), some (.inr (.inl y1)), some (.inr (.inl y2)), some (.inr (.inl y3)), some (.inr (.inl y4)), some (.inr (.inl y5)), some (.inr (.inr (zwl (y2 + (zwl (3 * y5)))))), none, some (.inr (.inl (zw (zwl (y2 + (zwl (3 * y5))))))), none, none]) (pc' := 108) rfl rfl rfl rfl).trans ?_
          refine (zq_aln hm (pc' := 109) rfl rfl rfl rfl).trans ?_
          refine (zq_iln hm (pc' := 110) rfl rfl rfl rfl).trans ?_
          refine (zq_il hm (pc' := 112) rfl rfl rfl rfl).trans ?_
          refine (zq_v1 hm (pc' := 115) rfl rfl rfl (cls_57_12) rfl rfl).trans (zCI_c rfl (fun r102 s101 => ?_))
          refine (zJ_n rfl).trans ?_
          refine (zq_is hm (ls' := [some (.inl (some 57)), some (.inr (.inl y1)), some (.inr (.inl y2)), some (.inr (.inl y3)), some (.inr (.inl y4)), some (.inr (.inl y5)), some (.inr (.inr (zwl (y2 + (zwl (3 * y5)))))), none, some (.inr (.inl (zw (zwl (y2 + (zwl (3 * y5))))))), some (.inr (.inl r102)), none]) (pc' := 117) rfl rfl rfl rfl).trans ?_
          refine (zq_aln hm (pc' := 118) rfl rfl rfl rfl).trans ?_
          refine (zq_iln hm (pc' := 119) rfl rfl rfl rfl).trans ?_
          refine (zq_il hm (pc' := 121) rfl rfl rfl rfl).trans ?_
          refine (zq_ic hm (pc' := 122) rfl rfl rfl rfl).trans ?_
          refine (zq_iadd hm (pc' := 123) rfl rfl rfl).trans ?_
          refine (zq_v1 hm (pc' := 126) rfl rfl rfl (cls_57_12) rfl rfl).trans (zCI_c rfl (fun r104 s103 => ?_))
          refine (zJ_n rfl).trans ?_
          refine (zq_is hm (ls' := [some (.inl (some 57)), some (.inr (.inl y1)), some (.inr (.inl y2)), some (.inr (.inl y3)), some (.inr (.inl y4)), some (.inr (.inl y5)), some (.inr (.inr (zwl (y2 + (zwl (3 * y5)))))), none, some (.inr (.inl (zw (zwl (y2 + (zwl (3 * y5))))))), some (.inr (.inl r102)), some (.inr (.inl r104))]) (pc' := 128) rfl rfl rfl rfl).trans ?_
          refine (zq_il hm (pc' := 130) rfl rfl rfl rfl).trans ?_
          refine (zq_s1 hm (pc' := 133) rfl rfl rfl rfl rfl rfl).trans (zCI_c rfl (fun r106 s105 => ?_))
          refine (zJ_n rfl).trans ?_
          refine (zq_zeq hm (pc' := 136) rfl rfl).trans (zite ?_ ?_)
          · refine (zJ_n rfl).trans ?_
            refine (zq_il hm (pc' := 171) rfl rfl rfl rfl).trans ?_
            exact zq_ri hm rfl rfl
          · refine (zJ_n rfl).trans ?_
            refine (zq_il hm (pc' := 138) rfl rfl rfl rfl).trans ?_
            refine (zq_s1 hm (pc' := 141) rfl rfl rfl rfl rfl rfl).trans (zCI_c rfl (fun r108 s107 => ?_))
            refine (zJ_n rfl).trans ?_
            refine (zq_zeq hm (pc' := 144) rfl rfl).trans (zite ?_ ?_)
            · refine (zJ_n rfl).trans ?_
              refine (zq_il hm (pc' := 171) rfl rfl rfl rfl).trans ?_
              exact zq_ri hm rfl rfl
            · refine (zJ_n rfl).trans ?_
              refine (zq_il hm (pc' := 146) rfl rfl rfl rfl).trans ?_
              refine (zq_il hm (pc' := 148) rfl rfl rfl rfl).trans ?_
              refine (zq_ieq hm (pc' := 151) rfl rfl).trans (zite ?_ ?_)
              · refine (zJ_n rfl).trans ?_
                refine (zq_il hm (pc' := 171) rfl rfl rfl rfl).trans ?_
                exact zq_ri hm rfl rfl
              · refine (zJ_n rfl).trans ?_
                refine (zq_aln hm (pc' := 152) rfl rfl rfl rfl).trans ?_
                refine (zq_iln hm (pc' := 153) rfl rfl rfl rfl).trans ?_
                refine (zq_il hm (pc' := 155) rfl rfl rfl rfl).trans ?_
                refine (zq_ic hm (pc' := 156) rfl rfl rfl rfl).trans ?_
                refine (zq_iadd hm (pc' := 157) rfl rfl rfl).trans ?_
                refine (zq_v1 hm (pc' := 160) rfl rfl rfl (cls_57_12) rfl rfl).trans (zCI_c rfl (fun r110 s109 => ?_))
                refine (zJ_n rfl).trans ?_
                refine (zq_ic hm (pc' := 161) rfl rfl rfl rfl).trans ?_
                refine (zq_bi hm (pc' := 163) rfl rfl rfl rfl).trans ?_
                refine (zq_s1 hm (pc' := 166) rfl rfl rfl rfl rfl rfl).trans (zCI_c rfl (fun r112 s111 => ?_))
                refine (zJ_n rfl).trans ?_
                refine (zq_zne hm (pc' := 169) rfl rfl).trans (zite ?_ ?_)
                · refine (zJ_n rfl).trans ?_
                  refine (zq_il hm (pc' := 171) rfl rfl rfl rfl).trans ?_
                  exact zq_ri hm rfl rfl
                · refine (zJ_n rfl).trans ?_
                  refine (zq_aln hm (pc' := 173) rfl rfl rfl rfl).trans ?_
                  refine (zq_il hm (pc' := 175) rfl rfl rfl rfl).trans ?_
                  refine (zq_il hm (pc' := 177) rfl rfl rfl rfl).trans ?_
                  refine (zq_aln hm (pc' := 178) rfl rfl rfl rfl).trans ?_
                  refine (zq_iln hm (pc' := 179) rfl rfl rfl rfl).trans ?_
                  refine (zq_il hm (pc' := 181) rfl rfl rfl rfl).trans ?_
                  refine (zq_ic hm (pc' := 182) rfl rfl rfl rfl).trans ?_
                  refine (zq_iadd hm (pc' := 183) rfl rfl rfl).trans ?_
                  refine (zq_v1 hm (pc' := 186) rfl rfl rfl (cls_57_12) rfl rfl).trans (zCI_c rfl (fun r114 s113 => ?_))
                  refine (zJ_n rfl).trans ?_
                  refine (zq_v1 hm (pc' := 189) rfl rfl rfl (cls_57_12) rfl rfl).trans (zCI_c rfl (fun r116 s115 => ?_))
                  refine (zJ_n rfl).trans ?_
                  refine (zq_pop hm (pc' := 190) rfl rfl rfl rfl).trans ?_
                  refine (zq_iinc hm (ls' := [some (.inl (some 57)), some (.inr (.inl y1)), some (.inr (.inl y2)), some (.inr (.inl y3)), some (.inr (.inl (zw (y4 + 1)))), some (.inr (.inl y5)), some (.inr (.inr (zwl (y2 + (zwl (3 * y5)))))), none, some (.inr (.inl (zw (zwl (y2 + (zwl (3 * y5))))))), some (.inr (.inl r102)), some (.inr (.inl r104))]) (pc' := 193) rfl rfl rfl rfl rfl rfl).trans ?_
                  refine (zq_iinc hm (ls' := [some (.inl (some 57)), some (.inr (.inl y1)), some (.inr (.inl y2)), some (.inr (.inl y3)), some (.inr (.inl (zw (y4 + 1)))), some (.inr (.inl (zw (y5 + 1)))), some (.inr (.inr (zwl (y2 + (zwl (3 * y5)))))), none, some (.inr (.inl (zw (zwl (y2 + (zwl (3 * y5))))))), some (.inr (.inl r102)), some (.inr (.inl r104))]) (pc' := 196) rfl rfl rfl rfl rfl rfl).trans ?_
                  exact (zc_goto hm rfl rfl).trans rfl
  · refine (zJ_n rfl).trans ?_
    refine (zq_il hm (pc' := 201) rfl rfl rfl rfl).trans ?_
    exact zq_ri hm rfl rfl
set_option maxRecDepth 100000 in
set_option maxHeartbeats 4000000 in
theorem e_X12_toldAt (d : Nat) (x1 : Int) (x2 : Int) (σ : zF) : zx (d + 1) 162 [.inl (some 57), .inr (.inl x1), .inr (.inl x2)] σ = (
if 0 ≤ zw ((zw (60 * x1)) + x2) ∧ zw ((zw (60 * x1)) + x2) < 360 then (
zri (zw (σ 83 (zw ((zw (60 * x1)) + x2)))) σ) else (
none)) := by
  unfold zx
  have hm := zexec_m zX2 zMT d
  refine (zexec_eq mt_162 _ rfl (LAY, σ) 0).trans ?_
  show zrunL zX2 (zexec zX2 zMT d) K_X12_toldAt U_X12_toldAt 0 [some (.inl (some 57)), some (.inr (.inl x1)), some (.inr (.inl x2))] [] (LAY, σ) = _
  refine (zq_aln hm (pc' := 1) rfl rfl rfl rfl).trans ?_
  refine (zq_gr hm (pc' := 4) rfl lay_57 rfl rfl).trans ?_
  refine (zJ_n rfl).trans ?_
  refine (zq_bi hm (pc' := 6) rfl rfl rfl rfl).trans ?_
  refine (zq_iln hm (pc' := 7) rfl rfl rfl rfl).trans ?_
  refine (zq_imul hm (pc' := 8) rfl rfl rfl).trans ?_
  refine (zq_iln hm (pc' := 9) rfl rfl rfl rfl).trans ?_
  refine (zq_iadd hm (pc' := 10) rfl rfl rfl).trans ?_
  refine (zq_lal hm (v := (σ 83 (zw ((zw (60 * x1)) + x2)))) (pc' := 11) rfl lay_83 rfl rfl).trans (zite ?_ rfl)
  refine (zJ_n rfl).trans ?_
  refine (zq_l2i hm (pc' := 12) rfl rfl rfl).trans ?_
  exact zq_ri hm rfl rfl
set_option maxRecDepth 100000 in
set_option maxHeartbeats 4000000 in
theorem e_X12_traveller (d : Nat) (x1 : Int) (σ : zF) : zx (d + 1) 163 [.inl (some 57), .inr (.inl x1)] σ = (
zCI LAY (zx d 156 [.inr (.inl x1)] σ) fun r2 s1 =>
if r2 = 0 then (
zri (-1) s1) else (
if (s1 57 4) = 4 then (
zri (-3) s1) else (
if 0 ≤ (s1 57 4) ∧ (s1 57 4) < 4 then (
if 0 ≤ (s1 57 4) ∧ (s1 57 4) < 4 then (
zri (s1 57 4) (zset (zset (zset s1 61 (s1 57 4) x1) 62 (s1 57 4) 6) 57 4 (zw ((s1 57 4) + 1)))) else (
none)) else (
none)))) := by
  unfold zx
  have hm := zexec_m zX2 zMT d
  refine (zexec_eq mt_163 _ rfl (LAY, σ) 0).trans ?_
  show zrunL zX2 (zexec zX2 zMT d) K_X12_traveller U_X12_traveller 0 [some (.inl (some 57)), some (.inr (.inl x1))] [] (LAY, σ) = _
  refine (zq_iln hm (pc' := 1) rfl rfl rfl rfl).trans ?_
  refine (zq_s1 hm (pc' := 4) rfl rfl rfl rfl rfl rfl).trans (zCI_c rfl (fun r2 s1 => ?_))
  refine (zJ_n rfl).trans ?_
  refine (zq_zne hm (pc' := 7) rfl rfl).trans (zite ?_ ?_)
  · refine (zJ_n rfl).trans ?_
    refine (zq_ic hm (pc' := 8) rfl rfl rfl rfl).trans ?_
    exact zq_ri hm rfl rfl
  · refine (zJ_n rfl).trans ?_
    refine (zq_aln hm (pc' := 10) rfl rfl rfl rfl).trans ?_
    refine (zq_gf hm (v := (s1 57 4)) (pc' := 13) rfl lay_57 rfl rfl rfl).trans ?_
    refine (zJ_n rfl).trans ?_
    refine (zq_ic hm (pc' := 14) rfl rfl rfl rfl).trans ?_
    refine (zq_ine hm (pc' := 17) rfl rfl).trans (zite ?_ ?_)
    · refine (zJ_n rfl).trans ?_
      refine (zq_bi hm (pc' := 19) rfl rfl rfl rfl).trans ?_
      exact zq_ri hm rfl rfl
    · refine (zJ_n rfl).trans ?_
      refine (zq_aln hm (pc' := 21) rfl rfl rfl rfl).trans ?_
      refine (zq_gr hm (pc' := 24) rfl lay_57 rfl rfl).trans ?_
      refine (zJ_n rfl).trans ?_
      refine (zq_aln hm (pc' := 25) rfl rfl rfl rfl).trans ?_
      refine (zq_gf hm (v := (s1 57 4)) (pc' := 28) rfl lay_57 rfl rfl rfl).trans ?_
      refine (zJ_n rfl).trans ?_
      refine (zq_iln hm (pc' := 29) rfl rfl rfl rfl).trans ?_
      refine (zq_ist hm (pc' := 30) rfl lay_61 rfl).trans (zite ?_ rfl)
      refine (zJ_n rfl).trans ?_
      refine (zq_aln hm (pc' := 31) rfl rfl rfl rfl).trans ?_
      refine (zq_gr hm (pc' := 34) rfl lay_57 rfl rfl).trans ?_
      refine (zJ_n rfl).trans ?_
      refine (zq_aln hm (pc' := 35) rfl rfl rfl rfl).trans ?_
      refine (zq_gf hm (v := (s1 57 4)) (pc' := 38) rfl lay_57 rfl (zsn rfl) rfl).trans ?_
      refine (zJ_n rfl).trans ?_
      refine (zq_bi hm (pc' := 40) rfl rfl rfl rfl).trans ?_
      refine (zq_ist hm (pc' := 41) rfl lay_62 rfl).trans (zite ?_ rfl)
      refine (zJ_n rfl).trans ?_
      refine (zq_aln hm (pc' := 42) rfl rfl rfl rfl).trans ?_
      refine (zq_dup hm (pc' := 43) rfl rfl rfl rfl).trans ?_
      refine (zq_gf hm (v := (s1 57 4)) (pc' := 46) rfl lay_57 rfl ((zsn rfl).trans (zsn rfl)) rfl).trans ?_
      refine (zJ_n rfl).trans ?_
      refine (zq_dupx hm (pc' := 47) rfl rfl rfl rfl rfl).trans ?_
      refine (zq_ic hm (pc' := 48) rfl rfl rfl rfl).trans ?_
      refine (zq_iadd hm (pc' := 49) rfl rfl rfl).trans ?_
      refine (zq_pf hm (pc' := 52) rfl lay_57 rfl rfl rfl).trans ?_
      refine (zJ_n rfl).trans ?_
      exact zq_ri hm rfl rfl
set_option maxRecDepth 100000 in
set_option maxHeartbeats 4000000 in
theorem e_X12_isOf (d : Nat) (x1 : Int) (x2 : Int) (σ : zF) : zx (d + 1) 164 [.inl (some 57), .inr (.inl x1), .inr (.inl x2)] σ = (
zCI LAY (zx d 153 [.inr (.inl x2), .inr (.inl 0), .inr (.inl 3)] σ) fun r2 s1 =>
if r2 = 0 then (
zCI LAY (zx d 153 [.inr (.inl x2), .inr (.inl 4), .inr (.inl 5)] s1) fun r4 s3 =>
if r4 = 0 then (
zri 0 s3) else (
zCI LAY (zx d 155 [.inl (some 57), .inr (.inl x1)] s3) fun r6 s5 =>
if r6 = 0 then (
zri 0 s5) else (
zri 1 s5))) else (
zCI LAY (zx d 154 [.inl (some 57), .inr (.inl x1)] s1) fun r8 s7 =>
if r8 = 0 ∨ r8 = 1 then (
zri r8 s7) else (
none))) := by
  unfold zx
  have hm := zexec_m zX2 zMT d
  refine (zexec_eq mt_164 _ rfl (LAY, σ) 0).trans ?_
  show zrunL zX2 (zexec zX2 zMT d) K_X12_isOf U_X12_isOf 0 [some (.inl (some 57)), some (.inr (.inl x1)), some (.inr (.inl x2))] [] (LAY, σ) = _
  refine (zq_iln hm (pc' := 1) rfl rfl rfl rfl).trans ?_
  refine (zq_ic hm (pc' := 2) rfl rfl rfl rfl).trans ?_
  refine (zq_ic hm (pc' := 3) rfl rfl rfl rfl).trans ?_
  refine (zq_s1 hm (pc' := 6) rfl rfl rfl rfl rfl rfl).trans (zCI_c rfl (fun r2 s1 => ?_))
  refine (zJ_n rfl).trans ?_
  refine (zq_zeq hm (pc' := 9) rfl rfl).trans (zite ?_ ?_)
  · refine (zJ_n rfl).trans ?_
    refine (zq_iln hm (pc' := 18) rfl rfl rfl rfl).trans ?_
    refine (zq_ic hm (pc' := 19) rfl rfl rfl rfl).trans ?_
    refine (zq_ic hm (pc' := 20) rfl rfl rfl rfl).trans ?_
    refine (zq_s1 hm (pc' := 23) rfl rfl rfl rfl rfl rfl).trans (zCI_c rfl (fun r4 s3 => ?_))
    refine (zJ_n rfl).trans ?_
    refine (zq_zeq hm (pc' := 26) rfl rfl).trans (zite ?_ ?_)
    · refine (zJ_n rfl).trans ?_
      refine (zq_ic hm (pc' := 39) rfl rfl rfl rfl).trans ?_
      exact (zq_rb hm rfl rfl).trans (zif1 (by decide))
    · refine (zJ_n rfl).trans ?_
      refine (zq_aln hm (pc' := 27) rfl rfl rfl rfl).trans ?_
      refine (zq_iln hm (pc' := 28) rfl rfl rfl rfl).trans ?_
      refine (zq_v1 hm (pc' := 31) rfl rfl rfl (cls_57_12) rfl rfl).trans (zCI_c rfl (fun r6 s5 => ?_))
      refine (zJ_n rfl).trans ?_
      refine (zq_zeq hm (pc' := 34) rfl rfl).trans (zite ?_ ?_)
      · refine (zJ_n rfl).trans ?_
        refine (zq_ic hm (pc' := 39) rfl rfl rfl rfl).trans ?_
        exact (zq_rb hm rfl rfl).trans (zif1 (by decide))
      · refine (zJ_n rfl).trans ?_
        refine (zq_ic hm (pc' := 35) rfl rfl rfl rfl).trans ?_
        refine (zq_goto hm rfl rfl).trans ?_
        exact (zq_rb hm rfl rfl).trans (zif1 (by decide))
  · refine (zJ_n rfl).trans ?_
    refine (zq_aln hm (pc' := 10) rfl rfl rfl rfl).trans ?_
    refine (zq_iln hm (pc' := 11) rfl rfl rfl rfl).trans ?_
    refine (zq_v1 hm (pc' := 14) rfl rfl rfl (cls_57_12) rfl rfl).trans (zCI_c rfl (fun r8 s7 => ?_))
    refine (zJ_n rfl).trans ?_
    refine (zq_goto hm rfl rfl).trans ?_
    exact zq_rb hm rfl rfl
set_option maxRecDepth 100000 in
set_option maxHeartbeats 4000000 in
theorem e_X12_isFit (d : Nat) (x1 : Int) (x2 : Int) (x3 : Int) (σ : zF) : zx (d + 1) 165 [.inl (some 57), .inr (.inl x1), .inr (.inl x2), .inr (.inl x3)] σ = (
if x2 = 0 then (
zCI LAY (zx d 153 [.inr (.inl x3), .inr (.inl 1), .inr (.inl 99)] σ) fun r4 s3 =>
if r4 = 0 ∨ r4 = 1 then (
zri r4 s3) else (
none)) else (
if x2 = 1 then (
zCI LAY (zx d 153 [.inr (.inl x3), .inr (.inl (-9)), .inr (.inl 9)] σ) fun r6 s5 =>
if r6 = 0 ∨ r6 = 1 then (
zri r6 s5) else (
none)) else (
if x2 = 2 then (
if x3 = (-1) then (
zri 1 σ) else (
zCI LAY (zx d 154 [.inl (some 57), .inr (.inl x3)] σ) fun r8 s7 =>
if r8 = 0 then (
zri 0 s7) else (
if x3 = x1 then (
zri 0 s7) else (
zri 1 s7)))) else (
if x2 = 3 then (
zCI LAY (zx d 153 [.inr (.inl x3), .inr (.inl 0), .inr (.inl 1)] σ) fun r10 s9 =>
if r10 = 0 ∨ r10 = 1 then (
zri r10 s9) else (
none)) else (
if x2 = 4 then (
zCI LAY (zx d 156 [.inr (.inl x3)] σ) fun r12 s11 =>
if r12 = 0 ∨ r12 = 1 then (
zri r12 s11) else (
none)) else (
zCI LAY (zx d 153 [.inr (.inl x3), .inr (.inl 0), .inr (.inl 12)] σ) fun r2 s1 =>
if r2 = 0 ∨ r2 = 1 then (
zri r2 s1) else (
none))))))) := by
  unfold zx
  have hm := zexec_m zX2 zMT d
  refine (zexec_eq mt_165 _ rfl (LAY, σ) 0).trans ?_
  show zrunL zX2 (zexec zX2 zMT d) K_X12_isFit U_X12_isFit 0 [some (.inl (some 57)), some (.inr (.inl x1)), some (.inr (.inl x2)), some (.inr (.inl x3))] [] (LAY, σ) = _
  refine (zq_iln hm (pc' := 1) rfl rfl rfl rfl).trans ?_
  refine (zq_ts hm rfl).trans (zsw_c (k' := fun _ => none) ?_ (zsw_c (k' := fun _ => none) ?_ (zsw_c (k' := fun _ => none) ?_ (zsw_c (k' := fun _ => none) ?_ (zsw_c (k' := fun _ => none) ?_ (zsw_n ?_))))))
  · refine (zJ_n rfl).trans ?_
    refine (zq_iln hm (pc' := 37) rfl rfl rfl rfl).trans ?_
    refine (zq_ic hm (pc' := 38) rfl rfl rfl rfl).trans ?_
    refine (zq_bi hm (pc' := 40) rfl rfl rfl rfl).trans ?_
    refine (zq_s1 hm (pc' := 43) rfl rfl rfl rfl rfl rfl).trans (zCI_c rfl (fun r4 s3 => ?_))
    refine (zJ_n rfl).trans ?_
    exact zq_rb hm rfl rfl
  · refine (zJ_n rfl).trans ?_
    refine (zq_iln hm (pc' := 45) rfl rfl rfl rfl).trans ?_
    refine (zq_bi hm (pc' := 47) rfl rfl rfl rfl).trans ?_
    refine (zq_bi hm (pc' := 49) rfl rfl rfl rfl).trans ?_
    refine (zq_s1 hm (pc' := 52) rfl rfl rfl rfl rfl rfl).trans (zCI_c rfl (fun r6 s5 => ?_))
    refine (zJ_n rfl).trans ?_
    exact zq_rb hm rfl rfl
  · refine (zJ_n rfl).trans ?_
    refine (zq_iln hm (pc' := 54) rfl rfl rfl rfl).trans ?_
    refine (zq_ic hm (pc' := 55) rfl rfl rfl rfl).trans ?_
    refine (zq_ieq hm (pc' := 58) rfl rfl).trans (zite ?_ ?_)
    · refine (zJ_n rfl).trans ?_
      refine (zq_ic hm (pc' := 72) rfl rfl rfl rfl).trans ?_
      refine (zq_goto hm rfl rfl).trans ?_
      exact (zq_rb hm rfl rfl).trans (zif1 (by decide))
    · refine (zJ_n rfl).trans ?_
      refine (zq_aln hm (pc' := 59) rfl rfl rfl rfl).trans ?_
      refine (zq_iln hm (pc' := 60) rfl rfl rfl rfl).trans ?_
      refine (zq_v1 hm (pc' := 63) rfl rfl rfl (cls_57_12) rfl rfl).trans (zCI_c rfl (fun r8 s7 => ?_))
      refine (zJ_n rfl).trans ?_
      refine (zq_zeq hm (pc' := 66) rfl rfl).trans (zite ?_ ?_)
      · refine (zJ_n rfl).trans ?_
        refine (zq_ic hm (pc' := 76) rfl rfl rfl rfl).trans ?_
        exact (zq_rb hm rfl rfl).trans (zif1 (by decide))
      · refine (zJ_n rfl).trans ?_
        refine (zq_iln hm (pc' := 67) rfl rfl rfl rfl).trans ?_
        refine (zq_iln hm (pc' := 68) rfl rfl rfl rfl).trans ?_
        refine (zq_ieq hm (pc' := 71) rfl rfl).trans (zite ?_ ?_)
        · refine (zJ_n rfl).trans ?_
          refine (zq_ic hm (pc' := 76) rfl rfl rfl rfl).trans ?_
          exact (zq_rb hm rfl rfl).trans (zif1 (by decide))
        · refine (zJ_n rfl).trans ?_
          refine (zq_ic hm (pc' := 72) rfl rfl rfl rfl).trans ?_
          refine (zq_goto hm rfl rfl).trans ?_
          exact (zq_rb hm rfl rfl).trans (zif1 (by decide))
  · refine (zJ_n rfl).trans ?_
    refine (zq_iln hm (pc' := 78) rfl rfl rfl rfl).trans ?_
    refine (zq_ic hm (pc' := 79) rfl rfl rfl rfl).trans ?_
    refine (zq_ic hm (pc' := 80) rfl rfl rfl rfl).trans ?_
    refine (zq_s1 hm (pc' := 83) rfl rfl rfl rfl rfl rfl).trans (zCI_c rfl (fun r10 s9 => ?_))
    refine (zJ_n rfl).trans ?_
    exact zq_rb hm rfl rfl
  · refine (zJ_n rfl).trans ?_
    refine (zq_iln hm (pc' := 85) rfl rfl rfl rfl).trans ?_
    refine (zq_s1 hm (pc' := 88) rfl rfl rfl rfl rfl rfl).trans (zCI_c rfl (fun r12 s11 => ?_))
    refine (zJ_n rfl).trans ?_
    exact zq_rb hm rfl rfl
  · refine (zJ_n rfl).trans ?_
    refine (zq_iln hm (pc' := 90) rfl rfl rfl rfl).trans ?_
    refine (zq_ic hm (pc' := 91) rfl rfl rfl rfl).trans ?_
    refine (zq_bi hm (pc' := 93) rfl rfl rfl rfl).trans ?_
    refine (zq_s1 hm (pc' := 96) rfl rfl rfl rfl rfl rfl).trans (zCI_c rfl (fun r2 s1 => ?_))
    refine (zJ_n rfl).trans ?_
    exact zq_rb hm rfl rfl
set_option maxRecDepth 100000 in
set_option maxHeartbeats 4000000 in
theorem e_X12_get (d : Nat) (x1 : Int) (x2 : Int) (σ : zF) : zx (d + 1) 166 [.inl (some 57), .inr (.inl x1), .inr (.inl x2)] σ = (
if x2 < 4 then (
if 0 ≤ zw ((zw (12 * x2)) + x1) ∧ zw ((zw (12 * x2)) + x1) < 48 then (
zri (σ 60 (zw ((zw (12 * x2)) + x1))) σ) else (
none)) else (
if x2 = 4 then (
if 0 ≤ x1 ∧ x1 < 4 then (
zri (σ 61 x1) σ) else (
none)) else (
if 0 ≤ x1 ∧ x1 < 4 then (
zri (σ 62 x1) σ) else (
none)))) := by
  unfold zx
  have hm := zexec_m zX2 zMT d
  refine (zexec_eq mt_166 _ rfl (LAY, σ) 0).trans ?_
  show zrunL zX2 (zexec zX2 zMT d) K_X12_get U_X12_get 0 [some (.inl (some 57)), some (.inr (.inl x1)), some (.inr (.inl x2))] [] (LAY, σ) = _
  refine (zq_iln hm (pc' := 1) rfl rfl rfl rfl).trans ?_
  refine (zq_ic hm (pc' := 2) rfl rfl rfl rfl).trans ?_
  refine (zq_ige hm (pc' := 5) rfl rfl).trans (zite ?_ ?_)
  · refine (zJ_n rfl).trans ?_
    refine (zq_aln hm (pc' := 6) rfl rfl rfl rfl).trans ?_
    refine (zq_gr hm (pc' := 9) rfl lay_57 rfl rfl).trans ?_
    refine (zJ_n rfl).trans ?_
    refine (zq_bi hm (pc' := 11) rfl rfl rfl rfl).trans ?_
    refine (zq_iln hm (pc' := 12) rfl rfl rfl rfl).trans ?_
    refine (zq_imul hm (pc' := 13) rfl rfl rfl).trans ?_
    refine (zq_iln hm (pc' := 14) rfl rfl rfl rfl).trans ?_
    refine (zq_iadd hm (pc' := 15) rfl rfl rfl).trans ?_
    refine (zq_ia hm (v := (σ 60 (zw ((zw (12 * x2)) + x1)))) (pc' := 16) rfl lay_60 rfl rfl).trans (zite ?_ rfl)
    refine (zJ_n rfl).trans ?_
    refine (zq_goto hm rfl rfl).trans ?_
    exact zq_ri hm rfl rfl
  · refine (zJ_n rfl).trans ?_
    refine (zq_iln hm (pc' := 20) rfl rfl rfl rfl).trans ?_
    refine (zq_ic hm (pc' := 21) rfl rfl rfl rfl).trans ?_
    refine (zq_ine hm (pc' := 24) rfl rfl).trans (zite ?_ ?_)
    · refine (zJ_n rfl).trans ?_
      refine (zq_aln hm (pc' := 25) rfl rfl rfl rfl).trans ?_
      refine (zq_gr hm (pc' := 28) rfl lay_57 rfl rfl).trans ?_
      refine (zJ_n rfl).trans ?_
      refine (zq_iln hm (pc' := 29) rfl rfl rfl rfl).trans ?_
      refine (zq_ia hm (v := (σ 61 x1)) (pc' := 30) rfl lay_61 rfl rfl).trans (zite ?_ rfl)
      refine (zJ_n rfl).trans ?_
      refine (zq_goto hm rfl rfl).trans ?_
      exact zq_ri hm rfl rfl
    · refine (zJ_n rfl).trans ?_
      refine (zq_aln hm (pc' := 34) rfl rfl rfl rfl).trans ?_
      refine (zq_gr hm (pc' := 37) rfl lay_57 rfl rfl).trans ?_
      refine (zJ_n rfl).trans ?_
      refine (zq_iln hm (pc' := 38) rfl rfl rfl rfl).trans ?_
      refine (zq_ia hm (v := (σ 62 x1)) (pc' := 39) rfl lay_62 rfl rfl).trans (zite ?_ rfl)
      refine (zJ_n rfl).trans ?_
      exact zq_ri hm rfl rfl
set_option maxRecDepth 100000 in
set_option maxHeartbeats 4000000 in
theorem e_X12_becomes (d : Nat) (x1 : Int) (x2 : Int) (x3 : Int) (σ : zF) : zx (d + 1) 167 [.inl (some 57), .inr (.inl x1), .inr (.inl x2), .inr (.inl x3)] σ = (
if x2 < 4 then (
if 0 ≤ zw ((zw (12 * x2)) + x1) ∧ zw ((zw (12 * x2)) + x1) < 48 then (
zrv (zset σ 60 (zw ((zw (12 * x2)) + x1)) x3)) else (
none)) else (
if x2 = 4 then (
if 0 ≤ x1 ∧ x1 < 4 then (
zrv (zset σ 61 x1 x3)) else (
none)) else (
if 0 ≤ x1 ∧ x1 < 4 then (
zrv (zset σ 62 x1 x3)) else (
none)))) := by
  unfold zx
  have hm := zexec_m zX2 zMT d
  refine (zexec_eq mt_167 _ rfl (LAY, σ) 0).trans ?_
  show zrunL zX2 (zexec zX2 zMT d) K_X12_becomes U_X12_becomes 0 [some (.inl (some 57)), some (.inr (.inl x1)), some (.inr (.inl x2)), some (.inr (.inl x3))] [] (LAY, σ) = _
  refine (zq_iln hm (pc' := 1) rfl rfl rfl rfl).trans ?_
  refine (zq_ic hm (pc' := 2) rfl rfl rfl rfl).trans ?_
  refine (zq_ige hm (pc' := 5) rfl rfl).trans (zite ?_ ?_)
  · refine (zJ_n rfl).trans ?_
    refine (zq_aln hm (pc' := 6) rfl rfl rfl rfl).trans ?_
    refine (zq_gr hm (pc' := 9) rfl lay_57 rfl rfl).trans ?_
    refine (zJ_n rfl).trans ?_
    refine (zq_bi hm (pc' := 11) rfl rfl rfl rfl).trans ?_
    refine (zq_iln hm (pc' := 12) rfl rfl rfl rfl).trans ?_
    refine (zq_imul hm (pc' := 13) rfl rfl rfl).trans ?_
    refine (zq_iln hm (pc' := 14) rfl rfl rfl rfl).trans ?_
    refine (zq_iadd hm (pc' := 15) rfl rfl rfl).trans ?_
    refine (zq_iln hm (pc' := 16) rfl rfl rfl rfl).trans ?_
    refine (zq_ist hm (pc' := 17) rfl lay_60 rfl).trans (zite ?_ rfl)
    refine (zJ_n rfl).trans ?_
    refine (zq_goto hm rfl rfl).trans ?_
    exact zq_rv hm rfl
  · refine (zJ_n rfl).trans ?_
    refine (zq_iln hm (pc' := 21) rfl rfl rfl rfl).trans ?_
    refine (zq_ic hm (pc' := 22) rfl rfl rfl rfl).trans ?_
    refine (zq_ine hm (pc' := 25) rfl rfl).trans (zite ?_ ?_)
    · refine (zJ_n rfl).trans ?_
      refine (zq_aln hm (pc' := 26) rfl rfl rfl rfl).trans ?_
      refine (zq_gr hm (pc' := 29) rfl lay_57 rfl rfl).trans ?_
      refine (zJ_n rfl).trans ?_
      refine (zq_iln hm (pc' := 30) rfl rfl rfl rfl).trans ?_
      refine (zq_iln hm (pc' := 31) rfl rfl rfl rfl).trans ?_
      refine (zq_ist hm (pc' := 32) rfl lay_61 rfl).trans (zite ?_ rfl)
      refine (zJ_n rfl).trans ?_
      refine (zq_goto hm rfl rfl).trans ?_
      exact zq_rv hm rfl
    · refine (zJ_n rfl).trans ?_
      refine (zq_aln hm (pc' := 36) rfl rfl rfl rfl).trans ?_
      refine (zq_gr hm (pc' := 39) rfl lay_57 rfl rfl).trans ?_
      refine (zJ_n rfl).trans ?_
      refine (zq_iln hm (pc' := 40) rfl rfl rfl rfl).trans ?_
      refine (zq_iln hm (pc' := 41) rfl rfl rfl rfl).trans ?_
      refine (zq_ist hm (pc' := 42) rfl lay_62 rfl).trans (zite ?_ rfl)
      refine (zJ_n rfl).trans ?_
      exact zq_rv hm rfl
noncomputable def P_X12_mend_58 (d : Nat) (y1 : Int) (y2 : Int) (y3 : Int) (y4 : Int) (y5 : Int) (σ : zF) : Option zR := zrunL zX2 (zexec zX2 zMT d) K_X12_mend U_X12_mend 58 [some (.inl (some 57)), some (.inr (.inl y1)), some (.inr (.inl y2)), some (.inr (.inl y3)), some (.inr (.inl y4)), some (.inr (.inl y5))] [] (LAY, σ)
set_option maxRecDepth 100000 in
set_option maxHeartbeats 4000000 in
theorem e_X12_mend (d : Nat) (x1 : Int) (x2 : Int) (x3 : Int) (σ : zF) : zx (d + 1) 168 [.inl (some 57), .inr (.inl x1), .inr (.inl x2), .inr (.inl x3)] σ = (
zCI LAY (zx d 164 [.inl (some 57), .inr (.inl x1), .inr (.inl x2)] σ) fun r2 s1 =>
if r2 = 0 then (
zri (-2000000000) s1) else (
zCI LAY (zx d 165 [.inl (some 57), .inr (.inl x1), .inr (.inl x2), .inr (.inl x3)] s1) fun r4 s3 =>
if r4 = 0 then (
zri (-2000000000) s3) else (
zCI LAY (zx d 166 [.inl (some 57), .inr (.inl x1), .inr (.inl x2)] s3) fun r6 s5 =>
if r6 = x3 then (
zri r6 s5) else (
zCV LAY (zx d 167 [.inl (some 57), .inr (.inl x1), .inr (.inl x2), .inr (.inl x3)] s5) fun s7 =>
if (s7 57 33) = 40 then (
P_X12_mend_58 d x1 x2 x3 r6 0 s7) else (
if 0 ≤ zw (4 * (s7 57 33)) ∧ zw (4 * (s7 57 33)) < 160 then (
if 0 ≤ zw ((zw (4 * (s7 57 33))) + 1) ∧ zw ((zw (4 * (s7 57 33))) + 1) < 160 then (
if 0 ≤ zw ((zw (4 * (s7 57 33))) + 2) ∧ zw ((zw (4 * (s7 57 33))) + 2) < 160 then (
if 0 ≤ zw ((zw (4 * (s7 57 33))) + 3) ∧ zw ((zw (4 * (s7 57 33))) + 3) < 160 then (
zri r6 (zset (zset (zset (zset (zset (zset s7 78 (zw (4 * (s7 57 33))) x1) 78 (zw ((zw (4 * (s7 57 33))) + 1)) x2) 78 (zw ((zw (4 * (s7 57 33))) + 2)) r6) 78 (zw ((zw (4 * (s7 57 33))) + 3)) x3) 57 33 (zw ((s7 57 33) + 1))) 57 32 (zw ((s7 57 33) + 1)))) else (
none)) else (
none)) else (
none)) else (
none)))))) := by
  unfold zx
  have hm := zexec_m zX2 zMT d
  refine (zexec_eq mt_168 _ rfl (LAY, σ) 0).trans ?_
  show zrunL zX2 (zexec zX2 zMT d) K_X12_mend U_X12_mend 0 [some (.inl (some 57)), some (.inr (.inl x1)), some (.inr (.inl x2)), some (.inr (.inl x3)), none, none] [] (LAY, σ) = _
  refine (zq_aln hm (pc' := 1) rfl rfl rfl rfl).trans ?_
  refine (zq_iln hm (pc' := 2) rfl rfl rfl rfl).trans ?_
  refine (zq_iln hm (pc' := 3) rfl rfl rfl rfl).trans ?_
  refine (zq_v1 hm (pc' := 6) rfl rfl rfl (cls_57_12) rfl rfl).trans (zCI_c rfl (fun r2 s1 => ?_))
  refine (zJ_n rfl).trans ?_
  refine (zq_zeq hm (pc' := 9) rfl rfl).trans (zite ?_ ?_)
  · refine (zJ_n rfl).trans ?_
    refine (zq_ld hm (pc' := 21) rfl rfl rfl rfl).trans ?_
    exact zq_ri hm rfl rfl
  · refine (zJ_n rfl).trans ?_
    refine (zq_aln hm (pc' := 10) rfl rfl rfl rfl).trans ?_
    refine (zq_iln hm (pc' := 11) rfl rfl rfl rfl).trans ?_
    refine (zq_iln hm (pc' := 12) rfl rfl rfl rfl).trans ?_
    refine (zq_iln hm (pc' := 13) rfl rfl rfl rfl).trans ?_
    refine (zq_v1 hm (pc' := 16) rfl rfl rfl (cls_57_12) rfl rfl).trans (zCI_c rfl (fun r4 s3 => ?_))
    refine (zJ_n rfl).trans ?_
    refine (zq_zne hm (pc' := 19) rfl rfl).trans (zite ?_ ?_)
    · refine (zJ_n rfl).trans ?_
      refine (zq_ld hm (pc' := 21) rfl rfl rfl rfl).trans ?_
      exact zq_ri hm rfl rfl
    · refine (zJ_n rfl).trans ?_
      refine (zq_aln hm (pc' := 23) rfl rfl rfl rfl).trans ?_
      refine (zq_iln hm (pc' := 24) rfl rfl rfl rfl).trans ?_
      refine (zq_iln hm (pc' := 25) rfl rfl rfl rfl).trans ?_
      refine (zq_v1 hm (pc' := 28) rfl rfl rfl (cls_57_12) rfl rfl).trans (zCI_c rfl (fun r6 s5 => ?_))
      refine (zJ_n rfl).trans ?_
      refine (zq_is hm (ls' := [some (.inl (some 57)), some (.inr (.inl x1)), some (.inr (.inl x2)), some (.inr (.inl x3)), some (.inr (.inl r6)), none]) (pc' := 30) rfl rfl rfl rfl).trans ?_
      refine (zq_il hm (pc' := 32) rfl rfl rfl rfl).trans ?_
      refine (zq_iln hm (pc' := 33) rfl rfl rfl rfl).trans ?_
      refine (zq_ine hm (pc' := 36) rfl rfl).trans (zite ?_ ?_)
      · refine (zJ_n rfl).trans ?_
        refine (zq_il hm (pc' := 38) rfl rfl rfl rfl).trans ?_
        exact zq_ri hm rfl rfl
      · refine (zJ_n rfl).trans ?_
        refine (zq_aln hm (pc' := 40) rfl rfl rfl rfl).trans ?_
        refine (zq_iln hm (pc' := 41) rfl rfl rfl rfl).trans ?_
        refine (zq_iln hm (pc' := 42) rfl rfl rfl rfl).trans ?_
        refine (zq_iln hm (pc' := 43) rfl rfl rfl rfl).trans ?_
        refine (zq_v0 hm (pc' := 46) rfl rfl rfl (cls_57_12) rfl rfl).trans (zCV_c rfl (fun s7 => ?_))
        refine (zJ_n rfl).trans ?_
        refine (zq_aln hm (pc' := 47) rfl rfl rfl rfl).trans ?_
        refine (zq_gf hm (v := (s7 57 33)) (pc' := 50) rfl lay_57 rfl rfl rfl).trans ?_
        refine (zJ_n rfl).trans ?_
        refine (zq_bi hm (pc' := 52) rfl rfl rfl rfl).trans ?_
        refine (zq_ine hm (pc' := 55) rfl rfl).trans (zite ?_ ?_)
        · refine (zJ_n rfl).trans ?_
          refine (zq_ic hm (pc' := 56) rfl rfl rfl rfl).trans ?_
          exact (zc_is hm (ls' := [some (.inl (some 57)), some (.inr (.inl x1)), some (.inr (.inl x2)), some (.inr (.inl x3)), some (.inr (.inl r6)), some (.inr (.inl 0))]) (pc' := 58) rfl rfl rfl rfl).trans rfl
        · refine (zJ_n rfl).trans ?_
          refine (zq_aln hm (pc' := 99) rfl rfl rfl rfl).trans ?_
          refine (zq_gr hm (pc' := 102) rfl lay_57 rfl rfl).trans ?_
          refine (zJ_n rfl).trans ?_
          refine (zq_ic hm (pc' := 103) rfl rfl rfl rfl).trans ?_
          refine (zq_aln hm (pc' := 104) rfl rfl rfl rfl).trans ?_
          refine (zq_gf hm (v := (s7 57 33)) (pc' := 107) rfl lay_57 rfl rfl rfl).trans ?_
          refine (zJ_n rfl).trans ?_
          refine (zq_imul hm (pc' := 108) rfl rfl rfl).trans ?_
          refine (zq_iln hm (pc' := 109) rfl rfl rfl rfl).trans ?_
          refine (zq_ist hm (pc' := 110) rfl lay_78 rfl).trans (zite ?_ rfl)
          refine (zJ_n rfl).trans ?_
          refine (zq_aln hm (pc' := 111) rfl rfl rfl rfl).trans ?_
          refine (zq_gr hm (pc' := 114) rfl lay_57 rfl rfl).trans ?_
          refine (zJ_n rfl).trans ?_
          refine (zq_ic hm (pc' := 115) rfl rfl rfl rfl).trans ?_
          refine (zq_aln hm (pc' := 116) rfl rfl rfl rfl).trans ?_
          refine (zq_gf hm (v := (s7 57 33)) (pc' := 119) rfl lay_57 rfl (zsn rfl) rfl).trans ?_
          refine (zJ_n rfl).trans ?_
          refine (zq_imul hm (pc' := 120) rfl rfl rfl).trans ?_
          refine (zq_ic hm (pc' := 121) rfl rfl rfl rfl).trans ?_
          refine (zq_iadd hm (pc' := 122) rfl rfl rfl).trans ?_
          refine (zq_iln hm (pc' := 123) rfl rfl rfl rfl).trans ?_
          refine (zq_ist hm (pc' := 124) rfl lay_78 rfl).trans (zite ?_ rfl)
          refine (zJ_n rfl).trans ?_
          refine (zq_aln hm (pc' := 125) rfl rfl rfl rfl).trans ?_
          refine (zq_gr hm (pc' := 128) rfl lay_57 rfl rfl).trans ?_
          refine (zJ_n rfl).trans ?_
          refine (zq_ic hm (pc' := 129) rfl rfl rfl rfl).trans ?_
          refine (zq_aln hm (pc' := 130) rfl rfl rfl rfl).trans ?_
          refine (zq_gf hm (v := (s7 57 33)) (pc' := 133) rfl lay_57 rfl ((zsn rfl).trans (zsn rfl)) rfl).trans ?_
          refine (zJ_n rfl).trans ?_
          refine (zq_imul hm (pc' := 134) rfl rfl rfl).trans ?_
          refine (zq_ic hm (pc' := 135) rfl rfl rfl rfl).trans ?_
          refine (zq_iadd hm (pc' := 136) rfl rfl rfl).trans ?_
          refine (zq_il hm (pc' := 138) rfl rfl rfl rfl).trans ?_
          refine (zq_ist hm (pc' := 139) rfl lay_78 rfl).trans (zite ?_ rfl)
          refine (zJ_n rfl).trans ?_
          refine (zq_aln hm (pc' := 140) rfl rfl rfl rfl).trans ?_
          refine (zq_gr hm (pc' := 143) rfl lay_57 rfl rfl).trans ?_
          refine (zJ_n rfl).trans ?_
          refine (zq_ic hm (pc' := 144) rfl rfl rfl rfl).trans ?_
          refine (zq_aln hm (pc' := 145) rfl rfl rfl rfl).trans ?_
          refine (zq_gf hm (v := (s7 57 33)) (pc' := 148) rfl lay_57 rfl ((zsn rfl).trans ((zsn rfl).trans (zsn rfl))) rfl).trans ?_
          refine (zJ_n rfl).trans ?_
          refine (zq_imul hm (pc' := 149) rfl rfl rfl).trans ?_
          refine (zq_ic hm (pc' := 150) rfl rfl rfl rfl).trans ?_
          refine (zq_iadd hm (pc' := 151) rfl rfl rfl).trans ?_
          refine (zq_iln hm (pc' := 152) rfl rfl rfl rfl).trans ?_
          refine (zq_ist hm (pc' := 153) rfl lay_78 rfl).trans (zite ?_ rfl)
          refine (zJ_n rfl).trans ?_
          refine (zq_aln hm (pc' := 154) rfl rfl rfl rfl).trans ?_
          refine (zq_dup hm (pc' := 155) rfl rfl rfl rfl).trans ?_
          refine (zq_gf hm (v := (s7 57 33)) (pc' := 158) rfl lay_57 rfl ((zsn rfl).trans ((zsn rfl).trans ((zsn rfl).trans (zsn rfl)))) rfl).trans ?_
          refine (zJ_n rfl).trans ?_
          refine (zq_ic hm (pc' := 159) rfl rfl rfl rfl).trans ?_
          refine (zq_iadd hm (pc' := 160) rfl rfl rfl).trans ?_
          refine (zq_pf hm (pc' := 163) rfl lay_57 rfl rfl rfl).trans ?_
          refine (zJ_n rfl).trans ?_
          refine (zq_aln hm (pc' := 164) rfl rfl rfl rfl).trans ?_
          refine (zq_aln hm (pc' := 165) rfl rfl rfl rfl).trans ?_
          refine (zq_gf hm (v := zw ((s7 57 33) + 1)) (pc' := 168) rfl lay_57 rfl zsh rfl).trans ?_
          refine (zJ_n rfl).trans ?_
          refine (zq_pf hm (pc' := 171) rfl lay_57 rfl rfl rfl).trans ?_
          refine (zJ_n rfl).trans ?_
          refine (zq_il hm (pc' := 173) rfl rfl rfl rfl).trans ?_
          exact zq_ri hm rfl rfl
set_option maxRecDepth 100000 in
set_option maxHeartbeats 4000000 in
theorem e_X12_mend_58 (d : Nat) (y1 : Int) (y2 : Int) (y3 : Int) (y4 : Int) (y5 : Int) (σ : zF) : P_X12_mend_58 d y1 y2 y3 y4 y5 σ = (
if y5 < 156 then (
if 0 ≤ zw (y5 + 4) ∧ zw (y5 + 4) < 160 then (
if 0 ≤ y5 ∧ y5 < 160 then (
P_X12_mend_58 d y1 y2 y3 y4 (zw (y5 + 1)) (zset σ 78 y5 (σ 78 (zw (y5 + 4))))) else (
none)) else (
none)) else (
if 0 ≤ zw (4 * (zw ((σ 57 33) - 1))) ∧ zw (4 * (zw ((σ 57 33) - 1))) < 160 then (
if 0 ≤ zw ((zw (4 * (zw ((σ 57 33) - 1)))) + 1) ∧ zw ((zw (4 * (zw ((σ 57 33) - 1)))) + 1) < 160 then (
if 0 ≤ zw ((zw (4 * (zw ((σ 57 33) - 1)))) + 2) ∧ zw ((zw (4 * (zw ((σ 57 33) - 1)))) + 2) < 160 then (
if 0 ≤ zw ((zw (4 * (zw ((σ 57 33) - 1)))) + 3) ∧ zw ((zw (4 * (zw ((σ 57 33) - 1)))) + 3) < 160 then (
zri y4 (zset (zset (zset (zset (zset (zset (zset σ 57 33 (zw ((σ 57 33) - 1))) 78 (zw (4 * (zw ((σ 57 33) - 1)))) y1) 78 (zw ((zw (4 * (zw ((σ 57 33) - 1)))) + 1)) y2) 78 (zw ((zw (4 * (zw ((σ 57 33) - 1)))) + 2)) y4) 78 (zw ((zw (4 * (zw ((σ 57 33) - 1)))) + 3)) y3) 57 33 (zw ((zw ((σ 57 33) - 1)) + 1))) 57 32 (zw ((zw ((σ 57 33) - 1)) + 1)))) else (
none)) else (
none)) else (
none)) else (
none))) := by
  have hm := zexec_m zX2 zMT d
  show zrunL zX2 (zexec zX2 zMT d) K_X12_mend U_X12_mend 58 [some (.inl (some 57)), some (.inr (.inl y1)), some (.inr (.inl y2)), some (.inr (.inl y3)), some (.inr (.inl y4)), some (.inr (.inl y5))] [] (LAY, σ) = _
  refine (zq_il hm (pc' := 60) rfl rfl rfl rfl).trans ?_
  refine (zq_si hm (pc' := 63) rfl rfl rfl rfl).trans ?_
  refine (zq_ige hm (pc' := 66) rfl rfl).trans (zite ?_ ?_)
  · refine (zJ_n rfl).trans ?_
    refine (zq_aln hm (pc' := 67) rfl rfl rfl rfl).trans ?_
    refine (zq_gr hm (pc' := 70) rfl lay_57 rfl rfl).trans ?_
    refine (zJ_n rfl).trans ?_
    refine (zq_il hm (pc' := 72) rfl rfl rfl rfl).trans ?_
    refine (zq_aln hm (pc' := 73) rfl rfl rfl rfl).trans ?_
    refine (zq_gr hm (pc' := 76) rfl lay_57 rfl rfl).trans ?_
    refine (zJ_n rfl).trans ?_
    refine (zq_il hm (pc' := 78) rfl rfl rfl rfl).trans ?_
    refine (zq_ic hm (pc' := 79) rfl rfl rfl rfl).trans ?_
    refine (zq_iadd hm (pc' := 80) rfl rfl rfl).trans ?_
    refine (zq_ia hm (v := (σ 78 (zw (y5 + 4)))) (pc' := 81) rfl lay_78 rfl rfl).trans (zite ?_ rfl)
    refine (zJ_n rfl).trans ?_
    refine (zq_ist hm (pc' := 82) rfl lay_78 rfl).trans (zite ?_ rfl)
    refine (zJ_n rfl).trans ?_
    refine (zq_iinc hm (ls' := [some (.inl (some 57)), some (.inr (.inl y1)), some (.inr (.inl y2)), some (.inr (.inl y3)), some (.inr (.inl y4)), some (.inr (.inl (zw (y5 + 1))))]) (pc' := 85) rfl rfl rfl rfl rfl rfl).trans ?_
    exact (zc_goto hm rfl rfl).trans rfl
  · refine (zJ_n rfl).trans ?_
    refine (zq_aln hm (pc' := 89) rfl rfl rfl rfl).trans ?_
    refine (zq_dup hm (pc' := 90) rfl rfl rfl rfl).trans ?_
    refine (zq_gf hm (v := (σ 57 33)) (pc' := 93) rfl lay_57 rfl rfl rfl).trans ?_
    refine (zJ_n rfl).trans ?_
    refine (zq_ic hm (pc' := 94) rfl rfl rfl rfl).trans ?_
    refine (zq_isub hm (pc' := 95) rfl rfl rfl).trans ?_
    refine (zq_pf hm (pc' := 98) rfl lay_57 rfl rfl rfl).trans ?_
    refine (zJ_n rfl).trans ?_
    refine (zq_aln hm (pc' := 99) rfl rfl rfl rfl).trans ?_
    refine (zq_gr hm (pc' := 102) rfl lay_57 rfl rfl).trans ?_
    refine (zJ_n rfl).trans ?_
    refine (zq_ic hm (pc' := 103) rfl rfl rfl rfl).trans ?_
    refine (zq_aln hm (pc' := 104) rfl rfl rfl rfl).trans ?_
    refine (zq_gf hm (v := zw ((σ 57 33) - 1)) (pc' := 107) rfl lay_57 rfl zsh rfl).trans ?_
    refine (zJ_n rfl).trans ?_
    refine (zq_imul hm (pc' := 108) rfl rfl rfl).trans ?_
    refine (zq_iln hm (pc' := 109) rfl rfl rfl rfl).trans ?_
    refine (zq_ist hm (pc' := 110) rfl lay_78 rfl).trans (zite ?_ rfl)
    refine (zJ_n rfl).trans ?_
    refine (zq_aln hm (pc' := 111) rfl rfl rfl rfl).trans ?_
    refine (zq_gr hm (pc' := 114) rfl lay_57 rfl rfl).trans ?_
    refine (zJ_n rfl).trans ?_
    refine (zq_ic hm (pc' := 115) rfl rfl rfl rfl).trans ?_
    refine (zq_aln hm (pc' := 116) rfl rfl rfl rfl).trans ?_
    refine (zq_gf hm (v := zw ((σ 57 33) - 1)) (pc' := 119) rfl lay_57 rfl ((zsn rfl).trans zsh) rfl).trans ?_
    refine (zJ_n rfl).trans ?_
    refine (zq_imul hm (pc' := 120) rfl rfl rfl).trans ?_
    refine (zq_ic hm (pc' := 121) rfl rfl rfl rfl).trans ?_
    refine (zq_iadd hm (pc' := 122) rfl rfl rfl).trans ?_
    refine (zq_iln hm (pc' := 123) rfl rfl rfl rfl).trans ?_
    refine (zq_ist hm (pc' := 124) rfl lay_78 rfl).trans (zite ?_ rfl)
    refine (zJ_n rfl).trans ?_
    refine (zq_aln hm (pc' := 125) rfl rfl rfl rfl).trans ?_
    refine (zq_gr hm (pc' := 128) rfl lay_57 rfl rfl).trans ?_
    refine (zJ_n rfl).trans ?_
    refine (zq_ic hm (pc' := 129) rfl rfl rfl rfl).trans ?_
    refine (zq_aln hm (pc' := 130) rfl rfl rfl rfl).trans ?_
    refine (zq_gf hm (v := zw ((σ 57 33) - 1)) (pc' := 133) rfl lay_57 rfl ((zsn rfl).trans ((zsn rfl).trans zsh)) rfl).trans ?_
    refine (zJ_n rfl).trans ?_
    refine (zq_imul hm (pc' := 134) rfl rfl rfl).trans ?_
    refine (zq_ic hm (pc' := 135) rfl rfl rfl rfl).trans ?_
    refine (zq_iadd hm (pc' := 136) rfl rfl rfl).trans ?_
    refine (zq_il hm (pc' := 138) rfl rfl rfl rfl).trans ?_
    refine (zq_ist hm (pc' := 139) rfl lay_78 rfl).trans (zite ?_ rfl)
    refine (zJ_n rfl).trans ?_
    refine (zq_aln hm (pc' := 140) rfl rfl rfl rfl).trans ?_
    refine (zq_gr hm (pc' := 143) rfl lay_57 rfl rfl).trans ?_
    refine (zJ_n rfl).trans ?_
    refine (zq_ic hm (pc' := 144) rfl rfl rfl rfl).trans ?_
    refine (zq_aln hm (pc' := 145) rfl rfl rfl rfl).trans ?_
    refine (zq_gf hm (v := zw ((σ 57 33) - 1)) (pc' := 148) rfl lay_57 rfl ((zsn rfl).trans ((zsn rfl).trans ((zsn rfl).trans zsh))) rfl).trans ?_
    refine (zJ_n rfl).trans ?_
    refine (zq_imul hm (pc' := 149) rfl rfl rfl).trans ?_
    refine (zq_ic hm (pc' := 150) rfl rfl rfl rfl).trans ?_
    refine (zq_iadd hm (pc' := 151) rfl rfl rfl).trans ?_
    refine (zq_iln hm (pc' := 152) rfl rfl rfl rfl).trans ?_
    refine (zq_ist hm (pc' := 153) rfl lay_78 rfl).trans (zite ?_ rfl)
    refine (zJ_n rfl).trans ?_
    refine (zq_aln hm (pc' := 154) rfl rfl rfl rfl).trans ?_
    refine (zq_dup hm (pc' := 155) rfl rfl rfl rfl).trans ?_
    refine (zq_gf hm (v := zw ((σ 57 33) - 1)) (pc' := 158) rfl lay_57 rfl ((zsn rfl).trans ((zsn rfl).trans ((zsn rfl).trans ((zsn rfl).trans zsh)))) rfl).trans ?_
    refine (zJ_n rfl).trans ?_
    refine (zq_ic hm (pc' := 159) rfl rfl rfl rfl).trans ?_
    refine (zq_iadd hm (pc' := 160) rfl rfl rfl).trans ?_
    refine (zq_pf hm (pc' := 163) rfl lay_57 rfl rfl rfl).trans ?_
    refine (zJ_n rfl).trans ?_
    refine (zq_aln hm (pc' := 164) rfl rfl rfl rfl).trans ?_
    refine (zq_aln hm (pc' := 165) rfl rfl rfl rfl).trans ?_
    refine (zq_gf hm (v := zw ((zw ((σ 57 33) - 1)) + 1)) (pc' := 168) rfl lay_57 rfl zsh rfl).trans ?_
    refine (zJ_n rfl).trans ?_
    refine (zq_pf hm (pc' := 171) rfl lay_57 rfl rfl rfl).trans ?_
    refine (zJ_n rfl).trans ?_
    refine (zq_il hm (pc' := 173) rfl rfl rfl rfl).trans ?_
    exact zq_ri hm rfl rfl
set_option maxRecDepth 100000 in
set_option maxHeartbeats 4000000 in
theorem e_X12_of (d : Nat) (x1 : Int) (x2 : Int) (σ : zF) : zx (d + 1) 169 [.inl (some 57), .inr (.inl x1), .inr (.inl x2)] σ = (
zCI LAY (zx d 153 [.inr (.inl x2), .inr (.inl 6), .inr (.inl 7)] σ) fun r2 s1 =>
if r2 = 0 then (
zCI LAY (zx d 164 [.inl (some 57), .inr (.inl x1), .inr (.inl x2)] s1) fun r4 s3 =>
if r4 = 0 then (
zri (-2000000000) s3) else (
zCI LAY (zx d 166 [.inl (some 57), .inr (.inl x1), .inr (.inl x2)] s3) fun r6 s5 =>
zri r6 s5)) else (
zCI LAY (zx d 154 [.inl (some 57), .inr (.inl x1)] s1) fun r8 s7 =>
if r8 = 0 then (
zri (-2000000000) s7) else (
if x2 = 6 then (
if 0 ≤ x1 ∧ x1 < 12 then (
zri (s7 58 x1) s7) else (
none)) else (
if 0 ≤ x1 ∧ x1 < 12 then (
zri (s7 59 x1) s7) else (
none))))) := by
  unfold zx
  have hm := zexec_m zX2 zMT d
  refine (zexec_eq mt_169 _ rfl (LAY, σ) 0).trans ?_
  show zrunL zX2 (zexec zX2 zMT d) K_X12_of U_X12_of 0 [some (.inl (some 57)), some (.inr (.inl x1)), some (.inr (.inl x2))] [] (LAY, σ) = _
  refine (zq_iln hm (pc' := 1) rfl rfl rfl rfl).trans ?_
  refine (zq_bi hm (pc' := 3) rfl rfl rfl rfl).trans ?_
  refine (zq_bi hm (pc' := 5) rfl rfl rfl rfl).trans ?_
  refine (zq_s1 hm (pc' := 8) rfl rfl rfl rfl rfl rfl).trans (zCI_c rfl (fun r2 s1 => ?_))
  refine (zJ_n rfl).trans ?_
  refine (zq_zeq hm (pc' := 11) rfl rfl).trans (zite ?_ ?_)
  · refine (zJ_n rfl).trans ?_
    refine (zq_aln hm (pc' := 47) rfl rfl rfl rfl).trans ?_
    refine (zq_iln hm (pc' := 48) rfl rfl rfl rfl).trans ?_
    refine (zq_iln hm (pc' := 49) rfl rfl rfl rfl).trans ?_
    refine (zq_v1 hm (pc' := 52) rfl rfl rfl (cls_57_12) rfl rfl).trans (zCI_c rfl (fun r4 s3 => ?_))
    refine (zJ_n rfl).trans ?_
    refine (zq_zeq hm (pc' := 55) rfl rfl).trans (zite ?_ ?_)
    · refine (zJ_n rfl).trans ?_
      refine (zq_ld hm (pc' := 66) rfl rfl rfl rfl).trans ?_
      exact zq_ri hm rfl rfl
    · refine (zJ_n rfl).trans ?_
      refine (zq_aln hm (pc' := 56) rfl rfl rfl rfl).trans ?_
      refine (zq_iln hm (pc' := 57) rfl rfl rfl rfl).trans ?_
      refine (zq_iln hm (pc' := 58) rfl rfl rfl rfl).trans ?_
      refine (zq_v1 hm (pc' := 61) rfl rfl rfl (cls_57_12) rfl rfl).trans (zCI_c rfl (fun r6 s5 => ?_))
      refine (zJ_n rfl).trans ?_
      refine (zq_goto hm rfl rfl).trans ?_
      exact zq_ri hm rfl rfl
  · refine (zJ_n rfl).trans ?_
    refine (zq_aln hm (pc' := 12) rfl rfl rfl rfl).trans ?_
    refine (zq_iln hm (pc' := 13) rfl rfl rfl rfl).trans ?_
    refine (zq_v1 hm (pc' := 16) rfl rfl rfl (cls_57_12) rfl rfl).trans (zCI_c rfl (fun r8 s7 => ?_))
    refine (zJ_n rfl).trans ?_
    refine (zq_zeq hm (pc' := 19) rfl rfl).trans (zite ?_ ?_)
    · refine (zJ_n rfl).trans ?_
      refine (zq_ld hm (pc' := 45) rfl rfl rfl rfl).trans ?_
      exact zq_ri hm rfl rfl
    · refine (zJ_n rfl).trans ?_
      refine (zq_iln hm (pc' := 20) rfl rfl rfl rfl).trans ?_
      refine (zq_bi hm (pc' := 22) rfl rfl rfl rfl).trans ?_
      refine (zq_ine hm (pc' := 25) rfl rfl).trans (zite ?_ ?_)
      · refine (zJ_n rfl).trans ?_
        refine (zq_aln hm (pc' := 26) rfl rfl rfl rfl).trans ?_
        refine (zq_gr hm (pc' := 29) rfl lay_57 rfl rfl).trans ?_
        refine (zJ_n rfl).trans ?_
        refine (zq_iln hm (pc' := 30) rfl rfl rfl rfl).trans ?_
        refine (zq_ia hm (v := (s7 58 x1)) (pc' := 31) rfl lay_58 rfl rfl).trans (zite ?_ rfl)
        refine (zJ_n rfl).trans ?_
        refine (zq_goto hm rfl rfl).trans ?_
        exact zq_ri hm rfl rfl
      · refine (zJ_n rfl).trans ?_
        refine (zq_aln hm (pc' := 35) rfl rfl rfl rfl).trans ?_
        refine (zq_gr hm (pc' := 38) rfl lay_57 rfl rfl).trans ?_
        refine (zJ_n rfl).trans ?_
        refine (zq_iln hm (pc' := 39) rfl rfl rfl rfl).trans ?_
        refine (zq_ia hm (v := (s7 59 x1)) (pc' := 40) rfl lay_59 rfl rfl).trans (zite ?_ rfl)
        refine (zJ_n rfl).trans ?_
        refine (zq_goto hm rfl rfl).trans ?_
        exact zq_ri hm rfl rfl
set_option maxRecDepth 100000 in
set_option maxHeartbeats 4000000 in
theorem e_X12_undo (d : Nat) (σ : zF) : zx (d + 1) 170 [.inl (some 57)] σ = (
if (σ 57 33) = 0 then (
zri (-5) σ) else (
if 0 ≤ zw (4 * (zw ((σ 57 33) - 1))) ∧ zw (4 * (zw ((σ 57 33) - 1))) < 160 then (
if 0 ≤ zw ((zw (4 * (zw ((σ 57 33) - 1)))) + 1) ∧ zw ((zw (4 * (zw ((σ 57 33) - 1)))) + 1) < 160 then (
if 0 ≤ zw ((zw (4 * (zw ((σ 57 33) - 1)))) + 2) ∧ zw ((zw (4 * (zw ((σ 57 33) - 1)))) + 2) < 160 then (
zCV LAY (zx d 167 [.inl (some 57), .inr (.inl (σ 78 (zw (4 * (zw ((σ 57 33) - 1)))))), .inr (.inl (σ 78 (zw ((zw (4 * (zw ((σ 57 33) - 1)))) + 1)))), .inr (.inl (σ 78 (zw ((zw (4 * (zw ((σ 57 33) - 1)))) + 2))))] (zset σ 57 33 (zw ((σ 57 33) - 1)))) fun s1 =>
zri (s1 57 33) s1) else (
none)) else (
none)) else (
none))) := by
  unfold zx
  have hm := zexec_m zX2 zMT d
  refine (zexec_eq mt_170 _ rfl (LAY, σ) 0).trans ?_
  show zrunL zX2 (zexec zX2 zMT d) K_X12_undo U_X12_undo 0 [some (.inl (some 57))] [] (LAY, σ) = _
  refine (zq_aln hm (pc' := 1) rfl rfl rfl rfl).trans ?_
  refine (zq_gf hm (v := (σ 57 33)) (pc' := 4) rfl lay_57 rfl rfl rfl).trans ?_
  refine (zJ_n rfl).trans ?_
  refine (zq_zne hm (pc' := 7) rfl rfl).trans (zite ?_ ?_)
  · refine (zJ_n rfl).trans ?_
    refine (zq_bi hm (pc' := 9) rfl rfl rfl rfl).trans ?_
    exact zq_ri hm rfl rfl
  · refine (zJ_n rfl).trans ?_
    refine (zq_aln hm (pc' := 11) rfl rfl rfl rfl).trans ?_
    refine (zq_dup hm (pc' := 12) rfl rfl rfl rfl).trans ?_
    refine (zq_gf hm (v := (σ 57 33)) (pc' := 15) rfl lay_57 rfl rfl rfl).trans ?_
    refine (zJ_n rfl).trans ?_
    refine (zq_ic hm (pc' := 16) rfl rfl rfl rfl).trans ?_
    refine (zq_isub hm (pc' := 17) rfl rfl rfl).trans ?_
    refine (zq_pf hm (pc' := 20) rfl lay_57 rfl rfl rfl).trans ?_
    refine (zJ_n rfl).trans ?_
    refine (zq_aln hm (pc' := 21) rfl rfl rfl rfl).trans ?_
    refine (zq_aln hm (pc' := 22) rfl rfl rfl rfl).trans ?_
    refine (zq_gr hm (pc' := 25) rfl lay_57 rfl rfl).trans ?_
    refine (zJ_n rfl).trans ?_
    refine (zq_ic hm (pc' := 26) rfl rfl rfl rfl).trans ?_
    refine (zq_aln hm (pc' := 27) rfl rfl rfl rfl).trans ?_
    refine (zq_gf hm (v := zw ((σ 57 33) - 1)) (pc' := 30) rfl lay_57 rfl zsh rfl).trans ?_
    refine (zJ_n rfl).trans ?_
    refine (zq_imul hm (pc' := 31) rfl rfl rfl).trans ?_
    refine (zq_ia hm (v := (σ 78 (zw (4 * (zw ((σ 57 33) - 1)))))) (pc' := 32) rfl lay_78 (zsn rfl) rfl).trans (zite ?_ rfl)
    refine (zJ_n rfl).trans ?_
    refine (zq_aln hm (pc' := 33) rfl rfl rfl rfl).trans ?_
    refine (zq_gr hm (pc' := 36) rfl lay_57 rfl rfl).trans ?_
    refine (zJ_n rfl).trans ?_
    refine (zq_ic hm (pc' := 37) rfl rfl rfl rfl).trans ?_
    refine (zq_aln hm (pc' := 38) rfl rfl rfl rfl).trans ?_
    refine (zq_gf hm (v := zw ((σ 57 33) - 1)) (pc' := 41) rfl lay_57 rfl zsh rfl).trans ?_
    refine (zJ_n rfl).trans ?_
    refine (zq_imul hm (pc' := 42) rfl rfl rfl).trans ?_
    refine (zq_ic hm (pc' := 43) rfl rfl rfl rfl).trans ?_
    refine (zq_iadd hm (pc' := 44) rfl rfl rfl).trans ?_
    refine (zq_ia hm (v := (σ 78 (zw ((zw (4 * (zw ((σ 57 33) - 1)))) + 1)))) (pc' := 45) rfl lay_78 (zsn rfl) rfl).trans (zite ?_ rfl)
    refine (zJ_n rfl).trans ?_
    refine (zq_aln hm (pc' := 46) rfl rfl rfl rfl).trans ?_
    refine (zq_gr hm (pc' := 49) rfl lay_57 rfl rfl).trans ?_
    refine (zJ_n rfl).trans ?_
    refine (zq_ic hm (pc' := 50) rfl rfl rfl rfl).trans ?_
    refine (zq_aln hm (pc' := 51) rfl rfl rfl rfl).trans ?_
    refine (zq_gf hm (v := zw ((σ 57 33) - 1)) (pc' := 54) rfl lay_57 rfl zsh rfl).trans ?_
    refine (zJ_n rfl).trans ?_
    refine (zq_imul hm (pc' := 55) rfl rfl rfl).trans ?_
    refine (zq_ic hm (pc' := 56) rfl rfl rfl rfl).trans ?_
    refine (zq_iadd hm (pc' := 57) rfl rfl rfl).trans ?_
    refine (zq_ia hm (v := (σ 78 (zw ((zw (4 * (zw ((σ 57 33) - 1)))) + 2)))) (pc' := 58) rfl lay_78 (zsn rfl) rfl).trans (zite ?_ rfl)
    refine (zJ_n rfl).trans ?_
    refine (zq_v0 hm (pc' := 61) rfl rfl rfl (cls_57_12) rfl rfl).trans (zCV_c rfl (fun s1 => ?_))
    refine (zJ_n rfl).trans ?_
    refine (zq_aln hm (pc' := 62) rfl rfl rfl rfl).trans ?_
    refine (zq_gf hm (v := (s1 57 33)) (pc' := 65) rfl lay_57 rfl rfl rfl).trans ?_
    refine (zJ_n rfl).trans ?_
    exact zq_ri hm rfl rfl
set_option maxRecDepth 100000 in
set_option maxHeartbeats 4000000 in
theorem e_X12_redo (d : Nat) (σ : zF) : zx (d + 1) 171 [.inl (some 57)] σ = (
if (σ 57 33) = (σ 57 32) then (
zri (-5) σ) else (
if 0 ≤ zw (4 * (σ 57 33)) ∧ zw (4 * (σ 57 33)) < 160 then (
if 0 ≤ zw ((zw (4 * (σ 57 33))) + 1) ∧ zw ((zw (4 * (σ 57 33))) + 1) < 160 then (
if 0 ≤ zw ((zw (4 * (σ 57 33))) + 3) ∧ zw ((zw (4 * (σ 57 33))) + 3) < 160 then (
zCV LAY (zx d 167 [.inl (some 57), .inr (.inl (σ 78 (zw (4 * (σ 57 33))))), .inr (.inl (σ 78 (zw ((zw (4 * (σ 57 33))) + 1)))), .inr (.inl (σ 78 (zw ((zw (4 * (σ 57 33))) + 3))))] σ) fun s1 =>
zri (zw ((s1 57 32) - (zw ((s1 57 33) + 1)))) (zset s1 57 33 (zw ((s1 57 33) + 1)))) else (
none)) else (
none)) else (
none))) := by
  unfold zx
  have hm := zexec_m zX2 zMT d
  refine (zexec_eq mt_171 _ rfl (LAY, σ) 0).trans ?_
  show zrunL zX2 (zexec zX2 zMT d) K_X12_redo U_X12_redo 0 [some (.inl (some 57))] [] (LAY, σ) = _
  refine (zq_aln hm (pc' := 1) rfl rfl rfl rfl).trans ?_
  refine (zq_gf hm (v := (σ 57 33)) (pc' := 4) rfl lay_57 rfl rfl rfl).trans ?_
  refine (zJ_n rfl).trans ?_
  refine (zq_aln hm (pc' := 5) rfl rfl rfl rfl).trans ?_
  refine (zq_gf hm (v := (σ 57 32)) (pc' := 8) rfl lay_57 rfl rfl rfl).trans ?_
  refine (zJ_n rfl).trans ?_
  refine (zq_ine hm (pc' := 11) rfl rfl).trans (zite ?_ ?_)
  · refine (zJ_n rfl).trans ?_
    refine (zq_bi hm (pc' := 13) rfl rfl rfl rfl).trans ?_
    exact zq_ri hm rfl rfl
  · refine (zJ_n rfl).trans ?_
    refine (zq_aln hm (pc' := 15) rfl rfl rfl rfl).trans ?_
    refine (zq_aln hm (pc' := 16) rfl rfl rfl rfl).trans ?_
    refine (zq_gr hm (pc' := 19) rfl lay_57 rfl rfl).trans ?_
    refine (zJ_n rfl).trans ?_
    refine (zq_ic hm (pc' := 20) rfl rfl rfl rfl).trans ?_
    refine (zq_aln hm (pc' := 21) rfl rfl rfl rfl).trans ?_
    refine (zq_gf hm (v := (σ 57 33)) (pc' := 24) rfl lay_57 rfl rfl rfl).trans ?_
    refine (zJ_n rfl).trans ?_
    refine (zq_imul hm (pc' := 25) rfl rfl rfl).trans ?_
    refine (zq_ia hm (v := (σ 78 (zw (4 * (σ 57 33))))) (pc' := 26) rfl lay_78 rfl rfl).trans (zite ?_ rfl)
    refine (zJ_n rfl).trans ?_
    refine (zq_aln hm (pc' := 27) rfl rfl rfl rfl).trans ?_
    refine (zq_gr hm (pc' := 30) rfl lay_57 rfl rfl).trans ?_
    refine (zJ_n rfl).trans ?_
    refine (zq_ic hm (pc' := 31) rfl rfl rfl rfl).trans ?_
    refine (zq_aln hm (pc' := 32) rfl rfl rfl rfl).trans ?_
    refine (zq_gf hm (v := (σ 57 33)) (pc' := 35) rfl lay_57 rfl rfl rfl).trans ?_
    refine (zJ_n rfl).trans ?_
    refine (zq_imul hm (pc' := 36) rfl rfl rfl).trans ?_
    refine (zq_ic hm (pc' := 37) rfl rfl rfl rfl).trans ?_
    refine (zq_iadd hm (pc' := 38) rfl rfl rfl).trans ?_
    refine (zq_ia hm (v := (σ 78 (zw ((zw (4 * (σ 57 33))) + 1)))) (pc' := 39) rfl lay_78 rfl rfl).trans (zite ?_ rfl)
    refine (zJ_n rfl).trans ?_
    refine (zq_aln hm (pc' := 40) rfl rfl rfl rfl).trans ?_
    refine (zq_gr hm (pc' := 43) rfl lay_57 rfl rfl).trans ?_
    refine (zJ_n rfl).trans ?_
    refine (zq_ic hm (pc' := 44) rfl rfl rfl rfl).trans ?_
    refine (zq_aln hm (pc' := 45) rfl rfl rfl rfl).trans ?_
    refine (zq_gf hm (v := (σ 57 33)) (pc' := 48) rfl lay_57 rfl rfl rfl).trans ?_
    refine (zJ_n rfl).trans ?_
    refine (zq_imul hm (pc' := 49) rfl rfl rfl).trans ?_
    refine (zq_ic hm (pc' := 50) rfl rfl rfl rfl).trans ?_
    refine (zq_iadd hm (pc' := 51) rfl rfl rfl).trans ?_
    refine (zq_ia hm (v := (σ 78 (zw ((zw (4 * (σ 57 33))) + 3)))) (pc' := 52) rfl lay_78 rfl rfl).trans (zite ?_ rfl)
    refine (zJ_n rfl).trans ?_
    refine (zq_v0 hm (pc' := 55) rfl rfl rfl (cls_57_12) rfl rfl).trans (zCV_c rfl (fun s1 => ?_))
    refine (zJ_n rfl).trans ?_
    refine (zq_aln hm (pc' := 56) rfl rfl rfl rfl).trans ?_
    refine (zq_dup hm (pc' := 57) rfl rfl rfl rfl).trans ?_
    refine (zq_gf hm (v := (s1 57 33)) (pc' := 60) rfl lay_57 rfl rfl rfl).trans ?_
    refine (zJ_n rfl).trans ?_
    refine (zq_ic hm (pc' := 61) rfl rfl rfl rfl).trans ?_
    refine (zq_iadd hm (pc' := 62) rfl rfl rfl).trans ?_
    refine (zq_pf hm (pc' := 65) rfl lay_57 rfl rfl rfl).trans ?_
    refine (zJ_n rfl).trans ?_
    refine (zq_aln hm (pc' := 66) rfl rfl rfl rfl).trans ?_
    refine (zq_gf hm (v := (s1 57 32)) (pc' := 69) rfl lay_57 rfl (zsi (by decide)) rfl).trans ?_
    refine (zJ_n rfl).trans ?_
    refine (zq_aln hm (pc' := 70) rfl rfl rfl rfl).trans ?_
    refine (zq_gf hm (v := zw ((s1 57 33) + 1)) (pc' := 73) rfl lay_57 rfl zsh rfl).trans ?_
    refine (zJ_n rfl).trans ?_
    refine (zq_isub hm (pc' := 74) rfl rfl rfl).trans ?_
    exact zq_ri hm rfl rfl
set_option maxRecDepth 100000 in
set_option maxHeartbeats 4000000 in
theorem e_X12_feed (d : Nat) (x1 : Int) (σ : zF) : zx (d + 1) 172 [.inl (some 57), .inr (.inl x1)] σ = (
zCI LAY (zx d 153 [.inr (.inl x1), .inr (.inl 0), .inr (.inl 255)] σ) fun r2 s1 =>
if r2 = 0 then (
zri (-1) s1) else (
if (s1 57 7) = 120 then (
zri (-3) s1) else (
if 0 ≤ (s1 57 7) ∧ (s1 57 7) < 120 then (
zri (zw ((s1 57 7) + 1)) (zset (zset s1 57 7 (zw ((s1 57 7) + 1))) 63 (s1 57 7) x1)) else (
none)))) := by
  unfold zx
  have hm := zexec_m zX2 zMT d
  refine (zexec_eq mt_172 _ rfl (LAY, σ) 0).trans ?_
  show zrunL zX2 (zexec zX2 zMT d) K_X12_feed U_X12_feed 0 [some (.inl (some 57)), some (.inr (.inl x1))] [] (LAY, σ) = _
  refine (zq_iln hm (pc' := 1) rfl rfl rfl rfl).trans ?_
  refine (zq_ic hm (pc' := 2) rfl rfl rfl rfl).trans ?_
  refine (zq_si hm (pc' := 5) rfl rfl rfl rfl).trans ?_
  refine (zq_s1 hm (pc' := 8) rfl rfl rfl rfl rfl rfl).trans (zCI_c rfl (fun r2 s1 => ?_))
  refine (zJ_n rfl).trans ?_
  refine (zq_zne hm (pc' := 11) rfl rfl).trans (zite ?_ ?_)
  · refine (zJ_n rfl).trans ?_
    refine (zq_ic hm (pc' := 12) rfl rfl rfl rfl).trans ?_
    exact zq_ri hm rfl rfl
  · refine (zJ_n rfl).trans ?_
    refine (zq_aln hm (pc' := 14) rfl rfl rfl rfl).trans ?_
    refine (zq_gf hm (v := (s1 57 7)) (pc' := 17) rfl lay_57 rfl rfl rfl).trans ?_
    refine (zJ_n rfl).trans ?_
    refine (zq_bi hm (pc' := 19) rfl rfl rfl rfl).trans ?_
    refine (zq_ine hm (pc' := 22) rfl rfl).trans (zite ?_ ?_)
    · refine (zJ_n rfl).trans ?_
      refine (zq_bi hm (pc' := 24) rfl rfl rfl rfl).trans ?_
      exact zq_ri hm rfl rfl
    · refine (zJ_n rfl).trans ?_
      refine (zq_aln hm (pc' := 26) rfl rfl rfl rfl).trans ?_
      refine (zq_gr hm (pc' := 29) rfl lay_57 rfl rfl).trans ?_
      refine (zJ_n rfl).trans ?_
      refine (zq_aln hm (pc' := 30) rfl rfl rfl rfl).trans ?_
      refine (zq_dup hm (pc' := 31) rfl rfl rfl rfl).trans ?_
      refine (zq_gf hm (v := (s1 57 7)) (pc' := 34) rfl lay_57 rfl rfl rfl).trans ?_
      refine (zJ_n rfl).trans ?_
      refine (zq_dupx hm (pc' := 35) rfl rfl rfl rfl rfl).trans ?_
      refine (zq_ic hm (pc' := 36) rfl rfl rfl rfl).trans ?_
      refine (zq_iadd hm (pc' := 37) rfl rfl rfl).trans ?_
      refine (zq_pf hm (pc' := 40) rfl lay_57 rfl rfl rfl).trans ?_
      refine (zJ_n rfl).trans ?_
      refine (zq_iln hm (pc' := 41) rfl rfl rfl rfl).trans ?_
      refine (zq_ist hm (pc' := 42) rfl lay_63 rfl).trans (zite ?_ rfl)
      refine (zJ_n rfl).trans ?_
      refine (zq_aln hm (pc' := 43) rfl rfl rfl rfl).trans ?_
      refine (zq_gf hm (v := zw ((s1 57 7) + 1)) (pc' := 46) rfl lay_57 rfl ((zsn rfl).trans zsh) rfl).trans ?_
      refine (zJ_n rfl).trans ?_
      exact zq_ri hm rfl rfl
set_option maxRecDepth 100000 in
set_option maxHeartbeats 4000000 in
theorem e_X12_sign (d : Nat) (σ : zF) : zx (d + 1) 173 [.inl (some 57)] σ = (
if (σ 57 15) < (σ 57 7) then (
if 0 ≤ (σ 57 15) ∧ (σ 57 15) < 120 then (
zri (σ 63 (σ 57 15)) σ) else (
none)) else (
zri (-1) σ)) := by
  unfold zx
  have hm := zexec_m zX2 zMT d
  refine (zexec_eq mt_173 _ rfl (LAY, σ) 0).trans ?_
  show zrunL zX2 (zexec zX2 zMT d) K_X12_sign U_X12_sign 0 [some (.inl (some 57))] [] (LAY, σ) = _
  refine (zq_aln hm (pc' := 1) rfl rfl rfl rfl).trans ?_
  refine (zq_gf hm (v := (σ 57 15)) (pc' := 4) rfl lay_57 rfl rfl rfl).trans ?_
  refine (zJ_n rfl).trans ?_
  refine (zq_aln hm (pc' := 5) rfl rfl rfl rfl).trans ?_
  refine (zq_gf hm (v := (σ 57 7)) (pc' := 8) rfl lay_57 rfl rfl rfl).trans ?_
  refine (zJ_n rfl).trans ?_
  refine (zq_ige hm (pc' := 11) rfl rfl).trans (zite ?_ ?_)
  · refine (zJ_n rfl).trans ?_
    refine (zq_aln hm (pc' := 12) rfl rfl rfl rfl).trans ?_
    refine (zq_gr hm (pc' := 15) rfl lay_57 rfl rfl).trans ?_
    refine (zJ_n rfl).trans ?_
    refine (zq_aln hm (pc' := 16) rfl rfl rfl rfl).trans ?_
    refine (zq_gf hm (v := (σ 57 15)) (pc' := 19) rfl lay_57 rfl rfl rfl).trans ?_
    refine (zJ_n rfl).trans ?_
    refine (zq_ia hm (v := (σ 63 (σ 57 15))) (pc' := 20) rfl lay_63 rfl rfl).trans (zite ?_ rfl)
    refine (zJ_n rfl).trans ?_
    refine (zq_goto hm rfl rfl).trans ?_
    exact zq_ri hm rfl rfl
  · refine (zJ_n rfl).trans ?_
    refine (zq_ic hm (pc' := 24) rfl rfl rfl rfl).trans ?_
    exact zq_ri hm rfl rfl
set_option maxRecDepth 100000 in
set_option maxHeartbeats 4000000 in
theorem e_X12_is (d : Nat) (x1 : Int) (σ : zF) : zx (d + 1) 174 [.inl (some 57), .inr (.inl x1)] σ = (
zCI LAY (zx d 173 [.inl (some 57)] σ) fun r2 s1 =>
if r2 = x1 then (
zri 1 (zset s1 57 15 (zw ((s1 57 15) + 1)))) else (
zri 0 s1)) := by
  unfold zx
  have hm := zexec_m zX2 zMT d
  refine (zexec_eq mt_174 _ rfl (LAY, σ) 0).trans ?_
  show zrunL zX2 (zexec zX2 zMT d) K_X12_is U_X12_is 0 [some (.inl (some 57)), some (.inr (.inl x1))] [] (LAY, σ) = _
  refine (zq_aln hm (pc' := 1) rfl rfl rfl rfl).trans ?_
  refine (zq_v1 hm (pc' := 4) rfl rfl rfl (cls_57_12) rfl rfl).trans (zCI_c rfl (fun r2 s1 => ?_))
  refine (zJ_n rfl).trans ?_
  refine (zq_iln hm (pc' := 5) rfl rfl rfl rfl).trans ?_
  refine (zq_ieq hm (pc' := 8) rfl rfl).trans (zite ?_ ?_)
  · refine (zJ_n rfl).trans ?_
    refine (zq_aln hm (pc' := 11) rfl rfl rfl rfl).trans ?_
    refine (zq_dup hm (pc' := 12) rfl rfl rfl rfl).trans ?_
    refine (zq_gf hm (v := (s1 57 15)) (pc' := 15) rfl lay_57 rfl rfl rfl).trans ?_
    refine (zJ_n rfl).trans ?_
    refine (zq_ic hm (pc' := 16) rfl rfl rfl rfl).trans ?_
    refine (zq_iadd hm (pc' := 17) rfl rfl rfl).trans ?_
    refine (zq_pf hm (pc' := 20) rfl lay_57 rfl rfl rfl).trans ?_
    refine (zJ_n rfl).trans ?_
    refine (zq_ic hm (pc' := 21) rfl rfl rfl rfl).trans ?_
    exact (zq_rb hm rfl rfl).trans (zif1 (by decide))
  · refine (zJ_n rfl).trans ?_
    refine (zq_ic hm (pc' := 9) rfl rfl rfl rfl).trans ?_
    exact (zq_rb hm rfl rfl).trans (zif1 (by decide))
set_option maxRecDepth 100000 in
set_option maxHeartbeats 4000000 in
theorem e_X12_codes (d : Nat) (x1 : Int) (σ : zF) : zx (d + 1) 175 [.inl (some 57), .inr (.inl x1)] σ = (
if 0 ≤ (σ 57 17) ∧ (σ 57 17) < 200 then (
zri 1 (zset (zset σ 57 17 (zw ((σ 57 17) + 1))) 71 (σ 57 17) x1)) else (
none)) := by
  unfold zx
  have hm := zexec_m zX2 zMT d
  refine (zexec_eq mt_175 _ rfl (LAY, σ) 0).trans ?_
  show zrunL zX2 (zexec zX2 zMT d) K_X12_codes U_X12_codes 0 [some (.inl (some 57)), some (.inr (.inl x1))] [] (LAY, σ) = _
  refine (zq_aln hm (pc' := 1) rfl rfl rfl rfl).trans ?_
  refine (zq_gr hm (pc' := 4) rfl lay_57 rfl rfl).trans ?_
  refine (zJ_n rfl).trans ?_
  refine (zq_aln hm (pc' := 5) rfl rfl rfl rfl).trans ?_
  refine (zq_dup hm (pc' := 6) rfl rfl rfl rfl).trans ?_
  refine (zq_gf hm (v := (σ 57 17)) (pc' := 9) rfl lay_57 rfl rfl rfl).trans ?_
  refine (zJ_n rfl).trans ?_
  refine (zq_dupx hm (pc' := 10) rfl rfl rfl rfl rfl).trans ?_
  refine (zq_ic hm (pc' := 11) rfl rfl rfl rfl).trans ?_
  refine (zq_iadd hm (pc' := 12) rfl rfl rfl).trans ?_
  refine (zq_pf hm (pc' := 15) rfl lay_57 rfl rfl rfl).trans ?_
  refine (zJ_n rfl).trans ?_
  refine (zq_iln hm (pc' := 16) rfl rfl rfl rfl).trans ?_
  refine (zq_ist hm (pc' := 17) rfl lay_71 rfl).trans (zite ?_ rfl)
  refine (zJ_n rfl).trans ?_
  refine (zq_ic hm (pc' := 18) rfl rfl rfl rfl).trans ?_
  exact (zq_rb hm rfl rfl).trans (zif1 (by decide))
set_option maxRecDepth 100000 in
set_option maxHeartbeats 4000000 in
theorem e_X12_isDigit (d : Nat) (σ : zF) : zx (d + 1) 176 [.inl (some 57)] σ = (
zCI LAY (zx d 173 [.inl (some 57)] σ) fun r2 s1 =>
if r2 < 48 then (
zri 0 s1) else (
zCI LAY (zx d 173 [.inl (some 57)] s1) fun r4 s3 =>
if (57 : Int) < r4 then (
zri 0 s3) else (
zri 1 s3))) := by
  unfold zx
  have hm := zexec_m zX2 zMT d
  refine (zexec_eq mt_176 _ rfl (LAY, σ) 0).trans ?_
  show zrunL zX2 (zexec zX2 zMT d) K_X12_isDigit U_X12_isDigit 0 [some (.inl (some 57))] [] (LAY, σ) = _
  refine (zq_aln hm (pc' := 1) rfl rfl rfl rfl).trans ?_
  refine (zq_v1 hm (pc' := 4) rfl rfl rfl (cls_57_12) rfl rfl).trans (zCI_c rfl (fun r2 s1 => ?_))
  refine (zJ_n rfl).trans ?_
  refine (zq_bi hm (pc' := 6) rfl rfl rfl rfl).trans ?_
  refine (zq_ilt hm (pc' := 9) rfl rfl).trans (zite ?_ ?_)
  · refine (zJ_n rfl).trans ?_
    refine (zq_ic hm (pc' := 23) rfl rfl rfl rfl).trans ?_
    exact (zq_rb hm rfl rfl).trans (zif1 (by decide))
  · refine (zJ_n rfl).trans ?_
    refine (zq_aln hm (pc' := 10) rfl rfl rfl rfl).trans ?_
    refine (zq_v1 hm (pc' := 13) rfl rfl rfl (cls_57_12) rfl rfl).trans (zCI_c rfl (fun r4 s3 => ?_))
    refine (zJ_n rfl).trans ?_
    refine (zq_bi hm (pc' := 15) rfl rfl rfl rfl).trans ?_
    refine (zq_igt hm (pc' := 18) rfl rfl).trans (zite ?_ ?_)
    · refine (zJ_n rfl).trans ?_
      refine (zq_ic hm (pc' := 23) rfl rfl rfl rfl).trans ?_
      exact (zq_rb hm rfl rfl).trans (zif1 (by decide))
    · refine (zJ_n rfl).trans ?_
      refine (zq_ic hm (pc' := 19) rfl rfl rfl rfl).trans ?_
      refine (zq_goto hm rfl rfl).trans ?_
      exact (zq_rb hm rfl rfl).trans (zif1 (by decide))
set_option maxRecDepth 100000 in
set_option maxHeartbeats 4000000 in
theorem e_X12_nameOf (d : Nat) (x0 : Int) (σ : zF) : zx (d + 1) 177 [.inr (.inl x0)] σ = (
if x0 = 106 then (
zri 2 σ) else (
if x0 = 107 then (
zri 5 σ) else (
if x0 = 108 then (
zri 0 σ) else (
if x0 = 109 then (
zri 1 σ) else (
if x0 = 110 then (
zri 3 σ) else (
if x0 = 111 then (
zri (-1) σ) else (
if x0 = 112 then (
zri (-1) σ) else (
if x0 = 113 then (
zri (-1) σ) else (
if x0 = 114 then (
zri 4 σ) else (
zri (-1) σ)))))))))) := by
  unfold zx
  have hm := zexec_m zX2 zMT d
  refine (zexec_eq mt_177 _ rfl (LAY, σ) 0).trans ?_
  show zrunL zX2 (zexec zX2 zMT d) K_X12_nameOf U_X12_nameOf 0 [some (.inr (.inl x0))] [] (LAY, σ) = _
  refine (zq_iln hm (pc' := 1) rfl rfl rfl rfl).trans ?_
  refine (zq_ts hm rfl).trans (zsw_c (k' := fun _ => none) ?_ (zsw_c (k' := fun _ => none) ?_ (zsw_c (k' := fun _ => none) ?_ (zsw_c (k' := fun _ => none) ?_ (zsw_c (k' := fun _ => none) ?_ (zsw_c (k' := fun _ => none) ?_ (zsw_c (k' := fun _ => none) ?_ (zsw_c (k' := fun _ => none) ?_ (zsw_c (k' := fun _ => none) ?_ (zsw_n ?_))))))))))
  · refine (zJ_n rfl).trans ?_
    refine (zq_ic hm (pc' := 57) rfl rfl rfl rfl).trans ?_
    exact zq_ri hm rfl rfl
  · refine (zJ_n rfl).trans ?_
    refine (zq_ic hm (pc' := 63) rfl rfl rfl rfl).trans ?_
    exact zq_ri hm rfl rfl
  · refine (zJ_n rfl).trans ?_
    refine (zq_ic hm (pc' := 53) rfl rfl rfl rfl).trans ?_
    exact zq_ri hm rfl rfl
  · refine (zJ_n rfl).trans ?_
    refine (zq_ic hm (pc' := 55) rfl rfl rfl rfl).trans ?_
    exact zq_ri hm rfl rfl
  · refine (zJ_n rfl).trans ?_
    refine (zq_ic hm (pc' := 59) rfl rfl rfl rfl).trans ?_
    exact zq_ri hm rfl rfl
  · refine (zJ_n rfl).trans ?_
    refine (zq_ic hm (pc' := 65) rfl rfl rfl rfl).trans ?_
    exact zq_ri hm rfl rfl
  · refine (zJ_n rfl).trans ?_
    refine (zq_ic hm (pc' := 65) rfl rfl rfl rfl).trans ?_
    exact zq_ri hm rfl rfl
  · refine (zJ_n rfl).trans ?_
    refine (zq_ic hm (pc' := 65) rfl rfl rfl rfl).trans ?_
    exact zq_ri hm rfl rfl
  · refine (zJ_n rfl).trans ?_
    refine (zq_ic hm (pc' := 61) rfl rfl rfl rfl).trans ?_
    exact zq_ri hm rfl rfl
  · refine (zJ_n rfl).trans ?_
    refine (zq_ic hm (pc' := 65) rfl rfl rfl rfl).trans ?_
    exact zq_ri hm rfl rfl
noncomputable def P_X12_isO_11 (d : Nat) (y1 : Int) (y2 : Int) (σ : zF) : Option zR := zrunL zX2 (zexec zX2 zMT d) K_X12_isO U_X12_isO 11 [some (.inl (some 57)), some (.inr (.inl y1)), some (.inr (.inl y2))] [] (LAY, σ)
set_option maxRecDepth 100000 in
set_option maxHeartbeats 4000000 in
theorem e_X12_isO (d : Nat) (σ : zF) : zx (d + 1) 178 [.inl (some 57)] σ = (
zCI LAY (zx d 176 [.inl (some 57)] σ) fun r2 s1 =>
if r2 = 0 then (
zCI LAY (zx d 173 [.inl (some 57)] s1) fun r4 s3 =>
zCI LAY (zx d 177 [.inr (.inl r4)] s3) fun r6 s5 =>
if r6 < 0 then (
if (s5 57 16) = 6 then (
zri 0 s5) else (
zCI LAY (zx d 174 [.inl (some 57), .inr (.inl 33)] (zset s5 57 16 (zw ((s5 57 16) + 1)))) fun r8 s7 =>
if r8 = 0 then (
zCI LAY (zx d 174 [.inl (some 57), .inr (.inl 45)] s7) fun r10 s9 =>
if r10 = 0 then (
zCI LAY (zx d 174 [.inl (some 57), .inr (.inl 40)] s9) fun r12 s11 =>
if r12 = 0 then (
zri 0 (zset s11 57 16 (zw ((s11 57 16) - 1)))) else (
zCI LAY (zx d 183 [.inl (some 57)] s11) fun r14 s13 =>
if r14 = 0 then (
zri 0 (zset s13 57 16 (zw ((s13 57 16) - 1)))) else (
zCI LAY (zx d 174 [.inl (some 57), .inr (.inl 41)] s13) fun r16 s15 =>
if r16 = 0 then (
zri 0 (zset s15 57 16 (zw ((s15 57 16) - 1)))) else (
zri 1 (zset s15 57 16 (zw ((s15 57 16) - 1))))))) else (
zCI LAY (zx d 178 [.inl (some 57)] s9) fun r18 s17 =>
if r18 = 0 then (
zri 0 (zset s17 57 16 (zw ((s17 57 16) - 1)))) else (
zCI LAY (zx d 175 [.inl (some 57), .inr (.inl 17)] s17) fun r20 s19 =>
if r20 = 0 then (
zri 0 (zset s19 57 16 (zw ((s19 57 16) - 1)))) else (
zri 1 (zset s19 57 16 (zw ((s19 57 16) - 1))))))) else (
zCI LAY (zx d 178 [.inl (some 57)] s7) fun r22 s21 =>
if r22 = 0 then (
zri 0 (zset s21 57 16 (zw ((s21 57 16) - 1)))) else (
zCI LAY (zx d 175 [.inl (some 57), .inr (.inl 16)] s21) fun r24 s23 =>
if r24 = 0 then (
zri 0 (zset s23 57 16 (zw ((s23 57 16) - 1)))) else (
zri 1 (zset s23 57 16 (zw ((s23 57 16) - 1)))))))) else (
zCI LAY (zx d 175 [.inl (some 57), .inr (.inl r6)] (zset s5 57 15 (zw ((s5 57 15) + 1)))) fun r26 s25 =>
if r26 = 0 ∨ r26 = 1 then (
zri r26 s25) else (
none))) else (
P_X12_isO_11 d 0 0 s1)) := by
  unfold zx
  have hm := zexec_m zX2 zMT d
  refine (zexec_eq mt_178 _ rfl (LAY, σ) 0).trans ?_
  show zrunL zX2 (zexec zX2 zMT d) K_X12_isO U_X12_isO 0 [some (.inl (some 57)), none, none] [] (LAY, σ) = _
  refine (zq_aln hm (pc' := 1) rfl rfl rfl rfl).trans ?_
  refine (zq_v1 hm (pc' := 4) rfl rfl rfl (cls_57_12) rfl rfl).trans (zCI_c rfl (fun r2 s1 => ?_))
  refine (zJ_n rfl).trans ?_
  refine (zq_zeq hm (pc' := 7) rfl rfl).trans (zite ?_ ?_)
  · refine (zJ_n rfl).trans ?_
    refine (zq_aln hm (pc' := 67) rfl rfl rfl rfl).trans ?_
    refine (zq_v1 hm (pc' := 70) rfl rfl rfl (cls_57_12) rfl rfl).trans (zCI_c rfl (fun r4 s3 => ?_))
    refine (zJ_n rfl).trans ?_
    refine (zq_s1 hm (pc' := 73) rfl rfl rfl rfl rfl rfl).trans (zCI_c rfl (fun r6 s5 => ?_))
    refine (zJ_n rfl).trans ?_
    refine (zq_isn hm (ls' := [some (.inl (some 57)), some (.inr (.inl r6)), none]) (pc' := 74) rfl rfl rfl rfl).trans ?_
    refine (zq_iln hm (pc' := 75) rfl rfl rfl rfl).trans ?_
    refine (zq_zlt hm (pc' := 78) rfl rfl).trans (zite ?_ ?_)
    · refine (zJ_n rfl).trans ?_
      refine (zq_aln hm (pc' := 95) rfl rfl rfl rfl).trans ?_
      refine (zq_gf hm (v := (s5 57 16)) (pc' := 98) rfl lay_57 rfl rfl rfl).trans ?_
      refine (zJ_n rfl).trans ?_
      refine (zq_bi hm (pc' := 100) rfl rfl rfl rfl).trans ?_
      refine (zq_ine hm (pc' := 103) rfl rfl).trans (zite ?_ ?_)
      · refine (zJ_n rfl).trans ?_
        refine (zq_ic hm (pc' := 104) rfl rfl rfl rfl).trans ?_
        exact (zq_rb hm rfl rfl).trans (zif1 (by decide))
      · refine (zJ_n rfl).trans ?_
        refine (zq_aln hm (pc' := 106) rfl rfl rfl rfl).trans ?_
        refine (zq_dup hm (pc' := 107) rfl rfl rfl rfl).trans ?_
        refine (zq_gf hm (v := (s5 57 16)) (pc' := 110) rfl lay_57 rfl rfl rfl).trans ?_
        refine (zJ_n rfl).trans ?_
        refine (zq_ic hm (pc' := 111) rfl rfl rfl rfl).trans ?_
        refine (zq_iadd hm (pc' := 112) rfl rfl rfl).trans ?_
        refine (zq_pf hm (pc' := 115) rfl lay_57 rfl rfl rfl).trans ?_
        refine (zJ_n rfl).trans ?_
        refine (zq_aln hm (pc' := 116) rfl rfl rfl rfl).trans ?_
        refine (zq_bi hm (pc' := 118) rfl rfl rfl rfl).trans ?_
        refine (zq_v1 hm (pc' := 121) rfl rfl rfl (cls_57_12) rfl rfl).trans (zCI_c rfl (fun r8 s7 => ?_))
        refine (zJ_n rfl).trans ?_
        refine (zq_zeq hm (pc' := 124) rfl rfl).trans (zite ?_ ?_)
        · refine (zJ_n rfl).trans ?_
          refine (zq_aln hm (pc' := 150) rfl rfl rfl rfl).trans ?_
          refine (zq_bi hm (pc' := 152) rfl rfl rfl rfl).trans ?_
          refine (zq_v1 hm (pc' := 155) rfl rfl rfl (cls_57_12) rfl rfl).trans (zCI_c rfl (fun r10 s9 => ?_))
          refine (zJ_n rfl).trans ?_
          refine (zq_zeq hm (pc' := 158) rfl rfl).trans (zite ?_ ?_)
          · refine (zJ_n rfl).trans ?_
            refine (zq_aln hm (pc' := 184) rfl rfl rfl rfl).trans ?_
            refine (zq_bi hm (pc' := 186) rfl rfl rfl rfl).trans ?_
            refine (zq_v1 hm (pc' := 189) rfl rfl rfl (cls_57_12) rfl rfl).trans (zCI_c rfl (fun r12 s11 => ?_))
            refine (zJ_n rfl).trans ?_
            refine (zq_zeq hm (pc' := 192) rfl rfl).trans (zite ?_ ?_)
            · refine (zJ_n rfl).trans ?_
              refine (zq_ic hm (pc' := 213) rfl rfl rfl rfl).trans ?_
              refine (zq_isn hm (ls' := [some (.inl (some 57)), some (.inr (.inl r6)), some (.inr (.inl 0))]) (pc' := 214) rfl rfl rfl rfl).trans ?_
              refine (zq_aln hm (pc' := 215) rfl rfl rfl rfl).trans ?_
              refine (zq_dup hm (pc' := 216) rfl rfl rfl rfl).trans ?_
              refine (zq_gf hm (v := (s11 57 16)) (pc' := 219) rfl lay_57 rfl rfl rfl).trans ?_
              refine (zJ_n rfl).trans ?_
              refine (zq_ic hm (pc' := 220) rfl rfl rfl rfl).trans ?_
              refine (zq_isub hm (pc' := 221) rfl rfl rfl).trans ?_
              refine (zq_pf hm (pc' := 224) rfl lay_57 rfl rfl rfl).trans ?_
              refine (zJ_n rfl).trans ?_
              refine (zq_iln hm (pc' := 225) rfl rfl rfl rfl).trans ?_
              exact (zq_rb hm rfl rfl).trans (zif1 (by decide))
            · refine (zJ_n rfl).trans ?_
              refine (zq_aln hm (pc' := 193) rfl rfl rfl rfl).trans ?_
              refine (zq_v1 hm (pc' := 196) rfl rfl rfl (cls_57_12) rfl rfl).trans (zCI_c rfl (fun r14 s13 => ?_))
              refine (zJ_n rfl).trans ?_
              refine (zq_zeq hm (pc' := 199) rfl rfl).trans (zite ?_ ?_)
              · refine (zJ_n rfl).trans ?_
                refine (zq_ic hm (pc' := 213) rfl rfl rfl rfl).trans ?_
                refine (zq_isn hm (ls' := [some (.inl (some 57)), some (.inr (.inl r6)), some (.inr (.inl 0))]) (pc' := 214) rfl rfl rfl rfl).trans ?_
                refine (zq_aln hm (pc' := 215) rfl rfl rfl rfl).trans ?_
                refine (zq_dup hm (pc' := 216) rfl rfl rfl rfl).trans ?_
                refine (zq_gf hm (v := (s13 57 16)) (pc' := 219) rfl lay_57 rfl rfl rfl).trans ?_
                refine (zJ_n rfl).trans ?_
                refine (zq_ic hm (pc' := 220) rfl rfl rfl rfl).trans ?_
                refine (zq_isub hm (pc' := 221) rfl rfl rfl).trans ?_
                refine (zq_pf hm (pc' := 224) rfl lay_57 rfl rfl rfl).trans ?_
                refine (zJ_n rfl).trans ?_
                refine (zq_iln hm (pc' := 225) rfl rfl rfl rfl).trans ?_
                exact (zq_rb hm rfl rfl).trans (zif1 (by decide))
              · refine (zJ_n rfl).trans ?_
                refine (zq_aln hm (pc' := 200) rfl rfl rfl rfl).trans ?_
                refine (zq_bi hm (pc' := 202) rfl rfl rfl rfl).trans ?_
                refine (zq_v1 hm (pc' := 205) rfl rfl rfl (cls_57_12) rfl rfl).trans (zCI_c rfl (fun r16 s15 => ?_))
                refine (zJ_n rfl).trans ?_
                refine (zq_zeq hm (pc' := 208) rfl rfl).trans (zite ?_ ?_)
                · refine (zJ_n rfl).trans ?_
                  refine (zq_ic hm (pc' := 213) rfl rfl rfl rfl).trans ?_
                  refine (zq_isn hm (ls' := [some (.inl (some 57)), some (.inr (.inl r6)), some (.inr (.inl 0))]) (pc' := 214) rfl rfl rfl rfl).trans ?_
                  refine (zq_aln hm (pc' := 215) rfl rfl rfl rfl).trans ?_
                  refine (zq_dup hm (pc' := 216) rfl rfl rfl rfl).trans ?_
                  refine (zq_gf hm (v := (s15 57 16)) (pc' := 219) rfl lay_57 rfl rfl rfl).trans ?_
                  refine (zJ_n rfl).trans ?_
                  refine (zq_ic hm (pc' := 220) rfl rfl rfl rfl).trans ?_
                  refine (zq_isub hm (pc' := 221) rfl rfl rfl).trans ?_
                  refine (zq_pf hm (pc' := 224) rfl lay_57 rfl rfl rfl).trans ?_
                  refine (zJ_n rfl).trans ?_
                  refine (zq_iln hm (pc' := 225) rfl rfl rfl rfl).trans ?_
                  exact (zq_rb hm rfl rfl).trans (zif1 (by decide))
                · refine (zJ_n rfl).trans ?_
                  refine (zq_ic hm (pc' := 209) rfl rfl rfl rfl).trans ?_
                  refine (zq_goto hm rfl rfl).trans ?_
                  refine (zq_isn hm (ls' := [some (.inl (some 57)), some (.inr (.inl r6)), some (.inr (.inl 1))]) (pc' := 214) rfl rfl rfl rfl).trans ?_
                  refine (zq_aln hm (pc' := 215) rfl rfl rfl rfl).trans ?_
                  refine (zq_dup hm (pc' := 216) rfl rfl rfl rfl).trans ?_
                  refine (zq_gf hm (v := (s15 57 16)) (pc' := 219) rfl lay_57 rfl rfl rfl).trans ?_
                  refine (zJ_n rfl).trans ?_
                  refine (zq_ic hm (pc' := 220) rfl rfl rfl rfl).trans ?_
                  refine (zq_isub hm (pc' := 221) rfl rfl rfl).trans ?_
                  refine (zq_pf hm (pc' := 224) rfl lay_57 rfl rfl rfl).trans ?_
                  refine (zJ_n rfl).trans ?_
                  refine (zq_iln hm (pc' := 225) rfl rfl rfl rfl).trans ?_
                  exact (zq_rb hm rfl rfl).trans (zif1 (by decide))
          · refine (zJ_n rfl).trans ?_
            refine (zq_aln hm (pc' := 159) rfl rfl rfl rfl).trans ?_
            refine (zq_v1 hm (pc' := 162) rfl rfl rfl (cls_57_12) rfl rfl).trans (zCI_c rfl (fun r18 s17 => ?_))
            refine (zJ_n rfl).trans ?_
            refine (zq_zeq hm (pc' := 165) rfl rfl).trans (zite ?_ ?_)
            · refine (zJ_n rfl).trans ?_
              refine (zq_ic hm (pc' := 179) rfl rfl rfl rfl).trans ?_
              refine (zq_isn hm (ls' := [some (.inl (some 57)), some (.inr (.inl r6)), some (.inr (.inl 0))]) (pc' := 180) rfl rfl rfl rfl).trans ?_
              refine (zq_goto hm rfl rfl).trans ?_
              refine (zq_aln hm (pc' := 215) rfl rfl rfl rfl).trans ?_
              refine (zq_dup hm (pc' := 216) rfl rfl rfl rfl).trans ?_
              refine (zq_gf hm (v := (s17 57 16)) (pc' := 219) rfl lay_57 rfl rfl rfl).trans ?_
              refine (zJ_n rfl).trans ?_
              refine (zq_ic hm (pc' := 220) rfl rfl rfl rfl).trans ?_
              refine (zq_isub hm (pc' := 221) rfl rfl rfl).trans ?_
              refine (zq_pf hm (pc' := 224) rfl lay_57 rfl rfl rfl).trans ?_
              refine (zJ_n rfl).trans ?_
              refine (zq_iln hm (pc' := 225) rfl rfl rfl rfl).trans ?_
              exact (zq_rb hm rfl rfl).trans (zif1 (by decide))
            · refine (zJ_n rfl).trans ?_
              refine (zq_aln hm (pc' := 166) rfl rfl rfl rfl).trans ?_
              refine (zq_bi hm (pc' := 168) rfl rfl rfl rfl).trans ?_
              refine (zq_v1 hm (pc' := 171) rfl rfl rfl (cls_57_12) rfl rfl).trans (zCI_c rfl (fun r20 s19 => ?_))
              refine (zJ_n rfl).trans ?_
              refine (zq_zeq hm (pc' := 174) rfl rfl).trans (zite ?_ ?_)
              · refine (zJ_n rfl).trans ?_
                refine (zq_ic hm (pc' := 179) rfl rfl rfl rfl).trans ?_
                refine (zq_isn hm (ls' := [some (.inl (some 57)), some (.inr (.inl r6)), some (.inr (.inl 0))]) (pc' := 180) rfl rfl rfl rfl).trans ?_
                refine (zq_goto hm rfl rfl).trans ?_
                refine (zq_aln hm (pc' := 215) rfl rfl rfl rfl).trans ?_
                refine (zq_dup hm (pc' := 216) rfl rfl rfl rfl).trans ?_
                refine (zq_gf hm (v := (s19 57 16)) (pc' := 219) rfl lay_57 rfl rfl rfl).trans ?_
                refine (zJ_n rfl).trans ?_
                refine (zq_ic hm (pc' := 220) rfl rfl rfl rfl).trans ?_
                refine (zq_isub hm (pc' := 221) rfl rfl rfl).trans ?_
                refine (zq_pf hm (pc' := 224) rfl lay_57 rfl rfl rfl).trans ?_
                refine (zJ_n rfl).trans ?_
                refine (zq_iln hm (pc' := 225) rfl rfl rfl rfl).trans ?_
                exact (zq_rb hm rfl rfl).trans (zif1 (by decide))
              · refine (zJ_n rfl).trans ?_
                refine (zq_ic hm (pc' := 175) rfl rfl rfl rfl).trans ?_
                refine (zq_goto hm rfl rfl).trans ?_
                refine (zq_isn hm (ls' := [some (.inl (some 57)), some (.inr (.inl r6)), some (.inr (.inl 1))]) (pc' := 180) rfl rfl rfl rfl).trans ?_
                refine (zq_goto hm rfl rfl).trans ?_
                refine (zq_aln hm (pc' := 215) rfl rfl rfl rfl).trans ?_
                refine (zq_dup hm (pc' := 216) rfl rfl rfl rfl).trans ?_
                refine (zq_gf hm (v := (s19 57 16)) (pc' := 219) rfl lay_57 rfl rfl rfl).trans ?_
                refine (zJ_n rfl).trans ?_
                refine (zq_ic hm (pc' := 220) rfl rfl rfl rfl).trans ?_
                refine (zq_isub hm (pc' := 221) rfl rfl rfl).trans ?_
                refine (zq_pf hm (pc' := 224) rfl lay_57 rfl rfl rfl).trans ?_
                refine (zJ_n rfl).trans ?_
                refine (zq_iln hm (pc' := 225) rfl rfl rfl rfl).trans ?_
                exact (zq_rb hm rfl rfl).trans (zif1 (by decide))
        · refine (zJ_n rfl).trans ?_
          refine (zq_aln hm (pc' := 125) rfl rfl rfl rfl).trans ?_
          refine (zq_v1 hm (pc' := 128) rfl rfl rfl (cls_57_12) rfl rfl).trans (zCI_c rfl (fun r22 s21 => ?_))
          refine (zJ_n rfl).trans ?_
          refine (zq_zeq hm (pc' := 131) rfl rfl).trans (zite ?_ ?_)
          · refine (zJ_n rfl).trans ?_
            refine (zq_ic hm (pc' := 145) rfl rfl rfl rfl).trans ?_
            refine (zq_isn hm (ls' := [some (.inl (some 57)), some (.inr (.inl r6)), some (.inr (.inl 0))]) (pc' := 146) rfl rfl rfl rfl).trans ?_
            refine (zq_goto hm rfl rfl).trans ?_
            refine (zq_aln hm (pc' := 215) rfl rfl rfl rfl).trans ?_
            refine (zq_dup hm (pc' := 216) rfl rfl rfl rfl).trans ?_
            refine (zq_gf hm (v := (s21 57 16)) (pc' := 219) rfl lay_57 rfl rfl rfl).trans ?_
            refine (zJ_n rfl).trans ?_
            refine (zq_ic hm (pc' := 220) rfl rfl rfl rfl).trans ?_
            refine (zq_isub hm (pc' := 221) rfl rfl rfl).trans ?_
            refine (zq_pf hm (pc' := 224) rfl lay_57 rfl rfl rfl).trans ?_
            refine (zJ_n rfl).trans ?_
            refine (zq_iln hm (pc' := 225) rfl rfl rfl rfl).trans ?_
            exact (zq_rb hm rfl rfl).trans (zif1 (by decide))
          · refine (zJ_n rfl).trans ?_
            refine (zq_aln hm (pc' := 132) rfl rfl rfl rfl).trans ?_
            refine (zq_bi hm (pc' := 134) rfl rfl rfl rfl).trans ?_
            refine (zq_v1 hm (pc' := 137) rfl rfl rfl (cls_57_12) rfl rfl).trans (zCI_c rfl (fun r24 s23 => ?_))
            refine (zJ_n rfl).trans ?_
            refine (zq_zeq hm (pc' := 140) rfl rfl).trans (zite ?_ ?_)
            · refine (zJ_n rfl).trans ?_
              refine (zq_ic hm (pc' := 145) rfl rfl rfl rfl).trans ?_
              refine (zq_isn hm (ls' := [some (.inl (some 57)), some (.inr (.inl r6)), some (.inr (.inl 0))]) (pc' := 146) rfl rfl rfl rfl).trans ?_
              refine (zq_goto hm rfl rfl).trans ?_
              refine (zq_aln hm (pc' := 215) rfl rfl rfl rfl).trans ?_
              refine (zq_dup hm (pc' := 216) rfl rfl rfl rfl).trans ?_
              refine (zq_gf hm (v := (s23 57 16)) (pc' := 219) rfl lay_57 rfl rfl rfl).trans ?_
              refine (zJ_n rfl).trans ?_
              refine (zq_ic hm (pc' := 220) rfl rfl rfl rfl).trans ?_
              refine (zq_isub hm (pc' := 221) rfl rfl rfl).trans ?_
              refine (zq_pf hm (pc' := 224) rfl lay_57 rfl rfl rfl).trans ?_
              refine (zJ_n rfl).trans ?_
              refine (zq_iln hm (pc' := 225) rfl rfl rfl rfl).trans ?_
              exact (zq_rb hm rfl rfl).trans (zif1 (by decide))
            · refine (zJ_n rfl).trans ?_
              refine (zq_ic hm (pc' := 141) rfl rfl rfl rfl).trans ?_
              refine (zq_goto hm rfl rfl).trans ?_
              refine (zq_isn hm (ls' := [some (.inl (some 57)), some (.inr (.inl r6)), some (.inr (.inl 1))]) (pc' := 146) rfl rfl rfl rfl).trans ?_
              refine (zq_goto hm rfl rfl).trans ?_
              refine (zq_aln hm (pc' := 215) rfl rfl rfl rfl).trans ?_
              refine (zq_dup hm (pc' := 216) rfl rfl rfl rfl).trans ?_
              refine (zq_gf hm (v := (s23 57 16)) (pc' := 219) rfl lay_57 rfl rfl rfl).trans ?_
              refine (zJ_n rfl).trans ?_
              refine (zq_ic hm (pc' := 220) rfl rfl rfl rfl).trans ?_
              refine (zq_isub hm (pc' := 221) rfl rfl rfl).trans ?_
              refine (zq_pf hm (pc' := 224) rfl lay_57 rfl rfl rfl).trans ?_
              refine (zJ_n rfl).trans ?_
              refine (zq_iln hm (pc' := 225) rfl rfl rfl rfl).trans ?_
              exact (zq_rb hm rfl rfl).trans (zif1 (by decide))
    · refine (zJ_n rfl).trans ?_
      refine (zq_aln hm (pc' := 79) rfl rfl rfl rfl).trans ?_
      refine (zq_dup hm (pc' := 80) rfl rfl rfl rfl).trans ?_
      refine (zq_gf hm (v := (s5 57 15)) (pc' := 83) rfl lay_57 rfl rfl rfl).trans ?_
      refine (zJ_n rfl).trans ?_
      refine (zq_ic hm (pc' := 84) rfl rfl rfl rfl).trans ?_
      refine (zq_iadd hm (pc' := 85) rfl rfl rfl).trans ?_
      refine (zq_pf hm (pc' := 88) rfl lay_57 rfl rfl rfl).trans ?_
      refine (zJ_n rfl).trans ?_
      refine (zq_aln hm (pc' := 89) rfl rfl rfl rfl).trans ?_
      refine (zq_iln hm (pc' := 90) rfl rfl rfl rfl).trans ?_
      refine (zq_v1 hm (pc' := 93) rfl rfl rfl (cls_57_12) rfl rfl).trans (zCI_c rfl (fun r26 s25 => ?_))
      refine (zJ_n rfl).trans ?_
      exact zq_rb hm rfl rfl
  · refine (zJ_n rfl).trans ?_
    refine (zq_ic hm (pc' := 8) rfl rfl rfl rfl).trans ?_
    refine (zq_isn hm (ls' := [some (.inl (some 57)), some (.inr (.inl 0)), none]) (pc' := 9) rfl rfl rfl rfl).trans ?_
    refine (zq_ic hm (pc' := 10) rfl rfl rfl rfl).trans ?_
    exact (zc_isn hm (ls' := [some (.inl (some 57)), some (.inr (.inl 0)), some (.inr (.inl 0))]) (pc' := 11) rfl rfl rfl rfl).trans rfl
set_option maxRecDepth 100000 in
set_option maxHeartbeats 4000000 in
theorem e_X12_isO_11 (d : Nat) (y1 : Int) (y2 : Int) (σ : zF) : P_X12_isO_11 d y1 y2 σ = (
if y2 < 4 then (
zCI LAY (zx d 176 [.inl (some 57)] σ) fun r104 s103 =>
if r104 = 0 then (
zCI LAY (zx d 175 [.inl (some 57), .inr (.inl (zw (18 + y1)))] s103) fun r106 s105 =>
if r106 = 0 ∨ r106 = 1 then (
zri r106 s105) else (
none)) else (
if 0 ≤ (s103 57 15) ∧ (s103 57 15) < 120 then (
P_X12_isO_11 d (zw ((zw ((zw (10 * y1)) + (s103 63 (s103 57 15)))) - 48)) (zw (y2 + 1)) (zset s103 57 15 (zw ((s103 57 15) + 1)))) else (
none))) else (
zCI LAY (zx d 175 [.inl (some 57), .inr (.inl (zw (18 + y1)))] σ) fun r102 s101 =>
if r102 = 0 ∨ r102 = 1 then (
zri r102 s101) else (
none))) := by
  have hm := zexec_m zX2 zMT d
  show zrunL zX2 (zexec zX2 zMT d) K_X12_isO U_X12_isO 11 [some (.inl (some 57)), some (.inr (.inl y1)), some (.inr (.inl y2))] [] (LAY, σ) = _
  refine (zq_iln hm (pc' := 12) rfl rfl rfl rfl).trans ?_
  refine (zq_ic hm (pc' := 13) rfl rfl rfl rfl).trans ?_
  refine (zq_ige hm (pc' := 16) rfl rfl).trans (zite ?_ ?_)
  · refine (zJ_n rfl).trans ?_
    refine (zq_aln hm (pc' := 17) rfl rfl rfl rfl).trans ?_
    refine (zq_v1 hm (pc' := 20) rfl rfl rfl (cls_57_12) rfl rfl).trans (zCI_c rfl (fun r104 s103 => ?_))
    refine (zJ_n rfl).trans ?_
    refine (zq_zeq hm (pc' := 23) rfl rfl).trans (zite ?_ ?_)
    · refine (zJ_n rfl).trans ?_
      refine (zq_aln hm (pc' := 58) rfl rfl rfl rfl).trans ?_
      refine (zq_bi hm (pc' := 60) rfl rfl rfl rfl).trans ?_
      refine (zq_iln hm (pc' := 61) rfl rfl rfl rfl).trans ?_
      refine (zq_iadd hm (pc' := 62) rfl rfl rfl).trans ?_
      refine (zq_v1 hm (pc' := 65) rfl rfl rfl (cls_57_12) rfl rfl).trans (zCI_c rfl (fun r106 s105 => ?_))
      refine (zJ_n rfl).trans ?_
      exact zq_rb hm rfl rfl
    · refine (zJ_n rfl).trans ?_
      refine (zq_bi hm (pc' := 25) rfl rfl rfl rfl).trans ?_
      refine (zq_iln hm (pc' := 26) rfl rfl rfl rfl).trans ?_
      refine (zq_imul hm (pc' := 27) rfl rfl rfl).trans ?_
      refine (zq_aln hm (pc' := 28) rfl rfl rfl rfl).trans ?_
      refine (zq_gr hm (pc' := 31) rfl lay_57 rfl rfl).trans ?_
      refine (zJ_n rfl).trans ?_
      refine (zq_aln hm (pc' := 32) rfl rfl rfl rfl).trans ?_
      refine (zq_gf hm (v := (s103 57 15)) (pc' := 35) rfl lay_57 rfl rfl rfl).trans ?_
      refine (zJ_n rfl).trans ?_
      refine (zq_ia hm (v := (s103 63 (s103 57 15))) (pc' := 36) rfl lay_63 rfl rfl).trans (zite ?_ rfl)
      refine (zJ_n rfl).trans ?_
      refine (zq_iadd hm (pc' := 37) rfl rfl rfl).trans ?_
      refine (zq_bi hm (pc' := 39) rfl rfl rfl rfl).trans ?_
      refine (zq_isub hm (pc' := 40) rfl rfl rfl).trans ?_
      refine (zq_isn hm (ls' := [some (.inl (some 57)), some (.inr (.inl (zw ((zw ((zw (10 * y1)) + (s103 63 (s103 57 15)))) - 48)))), some (.inr (.inl y2))]) (pc' := 41) rfl rfl rfl rfl).trans ?_
      refine (zq_aln hm (pc' := 42) rfl rfl rfl rfl).trans ?_
      refine (zq_dup hm (pc' := 43) rfl rfl rfl rfl).trans ?_
      refine (zq_gf hm (v := (s103 57 15)) (pc' := 46) rfl lay_57 rfl rfl rfl).trans ?_
      refine (zJ_n rfl).trans ?_
      refine (zq_ic hm (pc' := 47) rfl rfl rfl rfl).trans ?_
      refine (zq_iadd hm (pc' := 48) rfl rfl rfl).trans ?_
      refine (zq_pf hm (pc' := 51) rfl lay_57 rfl rfl rfl).trans ?_
      refine (zJ_n rfl).trans ?_
      refine (zq_iinc hm (ls' := [some (.inl (some 57)), some (.inr (.inl (zw ((zw ((zw (10 * y1)) + (s103 63 (s103 57 15)))) - 48)))), some (.inr (.inl (zw (y2 + 1))))]) (pc' := 54) rfl rfl rfl rfl rfl rfl).trans ?_
      exact (zc_goto hm rfl rfl).trans rfl
  · refine (zJ_n rfl).trans ?_
    refine (zq_aln hm (pc' := 58) rfl rfl rfl rfl).trans ?_
    refine (zq_bi hm (pc' := 60) rfl rfl rfl rfl).trans ?_
    refine (zq_iln hm (pc' := 61) rfl rfl rfl rfl).trans ?_
    refine (zq_iadd hm (pc' := 62) rfl rfl rfl).trans ?_
    refine (zq_v1 hm (pc' := 65) rfl rfl rfl (cls_57_12) rfl rfl).trans (zCI_c rfl (fun r102 s101 => ?_))
    refine (zJ_n rfl).trans ?_
    exact zq_rb hm rfl rfl
noncomputable def P_X12_isP_9 (d : Nat) (σ : zF) : Option zR := zrunL zX2 (zexec zX2 zMT d) K_X12_isP U_X12_isP 9 [some (.inl (some 57)), none] [] (LAY, σ)
noncomputable def P_X12_isP_52 (d : Nat) (y1 : Int) (σ : zF) : Option zR := zrunL zX2 (zexec zX2 zMT d) K_X12_isP U_X12_isP 52 [some (.inl (some 57)), none] [.inr (.inl y1)] (LAY, σ)
set_option maxRecDepth 100000 in
set_option maxHeartbeats 4000000 in
theorem e_X12_isP (d : Nat) (σ : zF) : zx (d + 1) 179 [.inl (some 57)] σ = (
zCI LAY (zx d 178 [.inl (some 57)] σ) fun r2 s1 =>
if r2 = 0 then (
zri 0 s1) else (
P_X12_isP_9 d s1)) := by
  unfold zx
  have hm := zexec_m zX2 zMT d
  refine (zexec_eq mt_179 _ rfl (LAY, σ) 0).trans ?_
  show zrunL zX2 (zexec zX2 zMT d) K_X12_isP U_X12_isP 0 [some (.inl (some 57)), none] [] (LAY, σ) = _
  refine (zq_aln hm (pc' := 1) rfl rfl rfl rfl).trans ?_
  refine (zq_v1 hm (pc' := 4) rfl rfl rfl (cls_57_12) rfl rfl).trans (zCI_c rfl (fun r2 s1 => ?_))
  refine (zJ_n rfl).trans ?_
  refine (zq_zne hm (pc' := 7) rfl rfl).trans (zite ?_ ?_)
  · refine (zJ_n rfl).trans ?_
    refine (zq_ic hm (pc' := 8) rfl rfl rfl rfl).trans ?_
    exact (zq_rb hm rfl rfl).trans (zif1 (by decide))
  · exact (zJ_c rfl).trans rfl
set_option maxRecDepth 100000 in
set_option maxHeartbeats 4000000 in
theorem e_X12_isP_9 (d : Nat) (σ : zF) : P_X12_isP_9 d σ = (
zCI LAY (zx d 173 [.inl (some 57)] σ) fun r102 s101 =>
if r102 = 42 then (
P_X12_isP_52 d 13 s101) else (
zCI LAY (zx d 173 [.inl (some 57)] s101) fun r104 s103 =>
if r104 = 47 then (
P_X12_isP_52 d 14 s103) else (
zCI LAY (zx d 173 [.inl (some 57)] s103) fun r106 s105 =>
if r106 = 37 then (
P_X12_isP_52 d 15 s105) else (
P_X12_isP_52 d (-1) s105)))) := by
  have hm := zexec_m zX2 zMT d
  show zrunL zX2 (zexec zX2 zMT d) K_X12_isP U_X12_isP 9 [some (.inl (some 57)), none] [] (LAY, σ) = _
  refine (zq_aln hm (pc' := 10) rfl rfl rfl rfl).trans ?_
  refine (zq_v1 hm (pc' := 13) rfl rfl rfl (cls_57_12) rfl rfl).trans (zCI_c rfl (fun r102 s101 => ?_))
  refine (zJ_n rfl).trans ?_
  refine (zq_bi hm (pc' := 15) rfl rfl rfl rfl).trans ?_
  refine (zq_ine hm (pc' := 18) rfl rfl).trans (zite ?_ ?_)
  · refine (zJ_n rfl).trans ?_
    refine (zq_bi hm (pc' := 20) rfl rfl rfl rfl).trans ?_
    exact (zc_goto hm rfl rfl).trans rfl
  · refine (zJ_n rfl).trans ?_
    refine (zq_aln hm (pc' := 24) rfl rfl rfl rfl).trans ?_
    refine (zq_v1 hm (pc' := 27) rfl rfl rfl (cls_57_12) rfl rfl).trans (zCI_c rfl (fun r104 s103 => ?_))
    refine (zJ_n rfl).trans ?_
    refine (zq_bi hm (pc' := 29) rfl rfl rfl rfl).trans ?_
    refine (zq_ine hm (pc' := 32) rfl rfl).trans (zite ?_ ?_)
    · refine (zJ_n rfl).trans ?_
      refine (zq_bi hm (pc' := 34) rfl rfl rfl rfl).trans ?_
      exact (zc_goto hm rfl rfl).trans rfl
    · refine (zJ_n rfl).trans ?_
      refine (zq_aln hm (pc' := 38) rfl rfl rfl rfl).trans ?_
      refine (zq_v1 hm (pc' := 41) rfl rfl rfl (cls_57_12) rfl rfl).trans (zCI_c rfl (fun r106 s105 => ?_))
      refine (zJ_n rfl).trans ?_
      refine (zq_bi hm (pc' := 43) rfl rfl rfl rfl).trans ?_
      refine (zq_ine hm (pc' := 46) rfl rfl).trans (zite ?_ ?_)
      · refine (zJ_n rfl).trans ?_
        refine (zq_bi hm (pc' := 48) rfl rfl rfl rfl).trans ?_
        exact (zc_goto hm rfl rfl).trans rfl
      · refine (zJ_n rfl).trans ?_
        exact (zc_ic hm (pc' := 52) rfl rfl rfl rfl).trans rfl
set_option maxRecDepth 100000 in
set_option maxHeartbeats 4000000 in
theorem e_X12_isP_52 (d : Nat) (y1 : Int) (σ : zF) : P_X12_isP_52 d y1 σ = (
if y1 < 0 then (
zri 1 σ) else (
zCI LAY (zx d 178 [.inl (some 57)] (zset σ 57 15 (zw ((σ 57 15) + 1)))) fun r102 s101 =>
if r102 = 0 then (
zri 0 s101) else (
zCI LAY (zx d 175 [.inl (some 57), .inr (.inl y1)] s101) fun r104 s103 =>
P_X12_isP_9 d s103))) := by
  have hm := zexec_m zX2 zMT d
  show zrunL zX2 (zexec zX2 zMT d) K_X12_isP U_X12_isP 52 [some (.inl (some 57)), none] [.inr (.inl y1)] (LAY, σ) = _
  refine (zq_isn hm (ls' := [some (.inl (some 57)), some (.inr (.inl y1))]) (pc' := 53) rfl rfl rfl rfl).trans ?_
  refine (zq_iln hm (pc' := 54) rfl rfl rfl rfl).trans ?_
  refine (zq_zge hm (pc' := 57) rfl rfl).trans (zite ?_ ?_)
  · refine (zJ_n rfl).trans ?_
    refine (zq_ic hm (pc' := 58) rfl rfl rfl rfl).trans ?_
    exact (zq_rb hm rfl rfl).trans (zif1 (by decide))
  · refine (zJ_n rfl).trans ?_
    refine (zq_aln hm (pc' := 60) rfl rfl rfl rfl).trans ?_
    refine (zq_dup hm (pc' := 61) rfl rfl rfl rfl).trans ?_
    refine (zq_gf hm (v := (σ 57 15)) (pc' := 64) rfl lay_57 rfl rfl rfl).trans ?_
    refine (zJ_n rfl).trans ?_
    refine (zq_ic hm (pc' := 65) rfl rfl rfl rfl).trans ?_
    refine (zq_iadd hm (pc' := 66) rfl rfl rfl).trans ?_
    refine (zq_pf hm (pc' := 69) rfl lay_57 rfl rfl rfl).trans ?_
    refine (zJ_n rfl).trans ?_
    refine (zq_aln hm (pc' := 70) rfl rfl rfl rfl).trans ?_
    refine (zq_v1 hm (pc' := 73) rfl rfl rfl (cls_57_12) rfl rfl).trans (zCI_c rfl (fun r102 s101 => ?_))
    refine (zJ_n rfl).trans ?_
    refine (zq_zne hm (pc' := 76) rfl rfl).trans (zite ?_ ?_)
    · refine (zJ_n rfl).trans ?_
      refine (zq_ic hm (pc' := 77) rfl rfl rfl rfl).trans ?_
      exact (zq_rb hm rfl rfl).trans (zif1 (by decide))
    · refine (zJ_n rfl).trans ?_
      refine (zq_aln hm (pc' := 79) rfl rfl rfl rfl).trans ?_
      refine (zq_iln hm (pc' := 80) rfl rfl rfl rfl).trans ?_
      refine (zq_v1 hm (pc' := 83) rfl rfl rfl (cls_57_12) rfl rfl).trans (zCI_c rfl (fun r104 s103 => ?_))
      refine (zJ_n rfl).trans ?_
      refine (zq_pop hm (pc' := 84) rfl rfl rfl rfl).trans ?_
      exact (zc_goto hm rfl rfl).trans rfl
noncomputable def P_X12_isS_9 (d : Nat) (σ : zF) : Option zR := zrunL zX2 (zexec zX2 zMT d) K_X12_isS U_X12_isS 9 [some (.inl (some 57)), none] [] (LAY, σ)
set_option maxRecDepth 100000 in
set_option maxHeartbeats 4000000 in
theorem e_X12_isS (d : Nat) (σ : zF) : zx (d + 1) 180 [.inl (some 57)] σ = (
zCI LAY (zx d 179 [.inl (some 57)] σ) fun r2 s1 =>
if r2 = 0 then (
zri 0 s1) else (
P_X12_isS_9 d s1)) := by
  unfold zx
  have hm := zexec_m zX2 zMT d
  refine (zexec_eq mt_180 _ rfl (LAY, σ) 0).trans ?_
  show zrunL zX2 (zexec zX2 zMT d) K_X12_isS U_X12_isS 0 [some (.inl (some 57)), none] [] (LAY, σ) = _
  refine (zq_aln hm (pc' := 1) rfl rfl rfl rfl).trans ?_
  refine (zq_v1 hm (pc' := 4) rfl rfl rfl (cls_57_12) rfl rfl).trans (zCI_c rfl (fun r2 s1 => ?_))
  refine (zJ_n rfl).trans ?_
  refine (zq_zne hm (pc' := 7) rfl rfl).trans (zite ?_ ?_)
  · refine (zJ_n rfl).trans ?_
    refine (zq_ic hm (pc' := 8) rfl rfl rfl rfl).trans ?_
    exact (zq_rb hm rfl rfl).trans (zif1 (by decide))
  · exact (zJ_c rfl).trans rfl
set_option maxRecDepth 100000 in
set_option maxHeartbeats 4000000 in
theorem e_X12_isS_9 (d : Nat) (σ : zF) : P_X12_isS_9 d σ = (
zCI LAY (zx d 173 [.inl (some 57)] σ) fun r102 s101 =>
if r102 = 43 then (
if (11 : Int) < 0 then (
zri 1 s101) else (
zCI LAY (zx d 179 [.inl (some 57)] (zset s101 57 15 (zw ((s101 57 15) + 1)))) fun r114 s113 =>
if r114 = 0 then (
zri 0 s113) else (
zCI LAY (zx d 175 [.inl (some 57), .inr (.inl 11)] s113) fun r116 s115 =>
P_X12_isS_9 d s115))) else (
zCI LAY (zx d 173 [.inl (some 57)] s101) fun r104 s103 =>
if r104 = 45 then (
if (12 : Int) < 0 then (
zri 1 s103) else (
zCI LAY (zx d 179 [.inl (some 57)] (zset s103 57 15 (zw ((s103 57 15) + 1)))) fun r110 s109 =>
if r110 = 0 then (
zri 0 s109) else (
zCI LAY (zx d 175 [.inl (some 57), .inr (.inl 12)] s109) fun r112 s111 =>
P_X12_isS_9 d s111))) else (
if ((-1) : Int) < 0 then (
zri 1 s103) else (
zCI LAY (zx d 179 [.inl (some 57)] (zset s103 57 15 (zw ((s103 57 15) + 1)))) fun r106 s105 =>
if r106 = 0 then (
zri 0 s105) else (
zCI LAY (zx d 175 [.inl (some 57), .inr (.inl (-1))] s105) fun r108 s107 =>
P_X12_isS_9 d s107))))) := by
  have hm := zexec_m zX2 zMT d
  show zrunL zX2 (zexec zX2 zMT d) K_X12_isS U_X12_isS 9 [some (.inl (some 57)), none] [] (LAY, σ) = _
  refine (zq_aln hm (pc' := 10) rfl rfl rfl rfl).trans ?_
  refine (zq_v1 hm (pc' := 13) rfl rfl rfl (cls_57_12) rfl rfl).trans (zCI_c rfl (fun r102 s101 => ?_))
  refine (zJ_n rfl).trans ?_
  refine (zq_bi hm (pc' := 15) rfl rfl rfl rfl).trans ?_
  refine (zq_ine hm (pc' := 18) rfl rfl).trans (zite ?_ ?_)
  · refine (zJ_n rfl).trans ?_
    refine (zq_bi hm (pc' := 20) rfl rfl rfl rfl).trans ?_
    refine (zq_goto hm rfl rfl).trans ?_
    refine (zq_isn hm (ls' := [some (.inl (some 57)), some (.inr (.inl 11))]) (pc' := 39) rfl rfl rfl rfl).trans ?_
    refine (zq_iln hm (pc' := 40) rfl rfl rfl rfl).trans ?_
    refine (zq_zge hm (pc' := 43) rfl rfl).trans (zite ?_ ?_)
    · refine (zJ_n rfl).trans ?_
      refine (zq_ic hm (pc' := 44) rfl rfl rfl rfl).trans ?_
      exact (zq_rb hm rfl rfl).trans (zif1 (by decide))
    · refine (zJ_n rfl).trans ?_
      refine (zq_aln hm (pc' := 46) rfl rfl rfl rfl).trans ?_
      refine (zq_dup hm (pc' := 47) rfl rfl rfl rfl).trans ?_
      refine (zq_gf hm (v := (s101 57 15)) (pc' := 50) rfl lay_57 rfl rfl rfl).trans ?_
      refine (zJ_n rfl).trans ?_
      refine (zq_ic hm (pc' := 51) rfl rfl rfl rfl).trans ?_
      refine (zq_iadd hm (pc' := 52) rfl rfl rfl).trans ?_
      refine (zq_pf hm (pc' := 55) rfl lay_57 rfl rfl rfl).trans ?_
      refine (zJ_n rfl).trans ?_
      refine (zq_aln hm (pc' := 56) rfl rfl rfl rfl).trans ?_
      refine (zq_v1 hm (pc' := 59) rfl rfl rfl (cls_57_12) rfl rfl).trans (zCI_c rfl (fun r114 s113 => ?_))
      refine (zJ_n rfl).trans ?_
      refine (zq_zne hm (pc' := 62) rfl rfl).trans (zite ?_ ?_)
      · refine (zJ_n rfl).trans ?_
        refine (zq_ic hm (pc' := 63) rfl rfl rfl rfl).trans ?_
        exact (zq_rb hm rfl rfl).trans (zif1 (by decide))
      · refine (zJ_n rfl).trans ?_
        refine (zq_aln hm (pc' := 65) rfl rfl rfl rfl).trans ?_
        refine (zq_iln hm (pc' := 66) rfl rfl rfl rfl).trans ?_
        refine (zq_v1 hm (pc' := 69) rfl rfl rfl (cls_57_12) rfl rfl).trans (zCI_c rfl (fun r116 s115 => ?_))
        refine (zJ_n rfl).trans ?_
        refine (zq_pop hm (pc' := 70) rfl rfl rfl rfl).trans ?_
        exact (zc_goto hm rfl rfl).trans rfl
  · refine (zJ_n rfl).trans ?_
    refine (zq_aln hm (pc' := 24) rfl rfl rfl rfl).trans ?_
    refine (zq_v1 hm (pc' := 27) rfl rfl rfl (cls_57_12) rfl rfl).trans (zCI_c rfl (fun r104 s103 => ?_))
    refine (zJ_n rfl).trans ?_
    refine (zq_bi hm (pc' := 29) rfl rfl rfl rfl).trans ?_
    refine (zq_ine hm (pc' := 32) rfl rfl).trans (zite ?_ ?_)
    · refine (zJ_n rfl).trans ?_
      refine (zq_bi hm (pc' := 34) rfl rfl rfl rfl).trans ?_
      refine (zq_goto hm rfl rfl).trans ?_
      refine (zq_isn hm (ls' := [some (.inl (some 57)), some (.inr (.inl 12))]) (pc' := 39) rfl rfl rfl rfl).trans ?_
      refine (zq_iln hm (pc' := 40) rfl rfl rfl rfl).trans ?_
      refine (zq_zge hm (pc' := 43) rfl rfl).trans (zite ?_ ?_)
      · refine (zJ_n rfl).trans ?_
        refine (zq_ic hm (pc' := 44) rfl rfl rfl rfl).trans ?_
        exact (zq_rb hm rfl rfl).trans (zif1 (by decide))
      · refine (zJ_n rfl).trans ?_
        refine (zq_aln hm (pc' := 46) rfl rfl rfl rfl).trans ?_
        refine (zq_dup hm (pc' := 47) rfl rfl rfl rfl).trans ?_
        refine (zq_gf hm (v := (s103 57 15)) (pc' := 50) rfl lay_57 rfl rfl rfl).trans ?_
        refine (zJ_n rfl).trans ?_
        refine (zq_ic hm (pc' := 51) rfl rfl rfl rfl).trans ?_
        refine (zq_iadd hm (pc' := 52) rfl rfl rfl).trans ?_
        refine (zq_pf hm (pc' := 55) rfl lay_57 rfl rfl rfl).trans ?_
        refine (zJ_n rfl).trans ?_
        refine (zq_aln hm (pc' := 56) rfl rfl rfl rfl).trans ?_
        refine (zq_v1 hm (pc' := 59) rfl rfl rfl (cls_57_12) rfl rfl).trans (zCI_c rfl (fun r110 s109 => ?_))
        refine (zJ_n rfl).trans ?_
        refine (zq_zne hm (pc' := 62) rfl rfl).trans (zite ?_ ?_)
        · refine (zJ_n rfl).trans ?_
          refine (zq_ic hm (pc' := 63) rfl rfl rfl rfl).trans ?_
          exact (zq_rb hm rfl rfl).trans (zif1 (by decide))
        · refine (zJ_n rfl).trans ?_
          refine (zq_aln hm (pc' := 65) rfl rfl rfl rfl).trans ?_
          refine (zq_iln hm (pc' := 66) rfl rfl rfl rfl).trans ?_
          refine (zq_v1 hm (pc' := 69) rfl rfl rfl (cls_57_12) rfl rfl).trans (zCI_c rfl (fun r112 s111 => ?_))
          refine (zJ_n rfl).trans ?_
          refine (zq_pop hm (pc' := 70) rfl rfl rfl rfl).trans ?_
          exact (zc_goto hm rfl rfl).trans rfl
    · refine (zJ_n rfl).trans ?_
      refine (zq_ic hm (pc' := 38) rfl rfl rfl rfl).trans ?_
      refine (zq_isn hm (ls' := [some (.inl (some 57)), some (.inr (.inl (-1)))]) (pc' := 39) rfl rfl rfl rfl).trans ?_
      refine (zq_iln hm (pc' := 40) rfl rfl rfl rfl).trans ?_
      refine (zq_zge hm (pc' := 43) rfl rfl).trans (zite ?_ ?_)
      · refine (zJ_n rfl).trans ?_
        refine (zq_ic hm (pc' := 44) rfl rfl rfl rfl).trans ?_
        exact (zq_rb hm rfl rfl).trans (zif1 (by decide))
      · refine (zJ_n rfl).trans ?_
        refine (zq_aln hm (pc' := 46) rfl rfl rfl rfl).trans ?_
        refine (zq_dup hm (pc' := 47) rfl rfl rfl rfl).trans ?_
        refine (zq_gf hm (v := (s103 57 15)) (pc' := 50) rfl lay_57 rfl rfl rfl).trans ?_
        refine (zJ_n rfl).trans ?_
        refine (zq_ic hm (pc' := 51) rfl rfl rfl rfl).trans ?_
        refine (zq_iadd hm (pc' := 52) rfl rfl rfl).trans ?_
        refine (zq_pf hm (pc' := 55) rfl lay_57 rfl rfl rfl).trans ?_
        refine (zJ_n rfl).trans ?_
        refine (zq_aln hm (pc' := 56) rfl rfl rfl rfl).trans ?_
        refine (zq_v1 hm (pc' := 59) rfl rfl rfl (cls_57_12) rfl rfl).trans (zCI_c rfl (fun r106 s105 => ?_))
        refine (zJ_n rfl).trans ?_
        refine (zq_zne hm (pc' := 62) rfl rfl).trans (zite ?_ ?_)
        · refine (zJ_n rfl).trans ?_
          refine (zq_ic hm (pc' := 63) rfl rfl rfl rfl).trans ?_
          exact (zq_rb hm rfl rfl).trans (zif1 (by decide))
        · refine (zJ_n rfl).trans ?_
          refine (zq_aln hm (pc' := 65) rfl rfl rfl rfl).trans ?_
          refine (zq_iln hm (pc' := 66) rfl rfl rfl rfl).trans ?_
          refine (zq_v1 hm (pc' := 69) rfl rfl rfl (cls_57_12) rfl rfl).trans (zCI_c rfl (fun r108 s107 => ?_))
          refine (zJ_n rfl).trans ?_
          refine (zq_pop hm (pc' := 70) rfl rfl rfl rfl).trans ?_
          exact (zc_goto hm rfl rfl).trans rfl
noncomputable def P_X12_isB_52 (d : Nat) (y1 : Int) (σ : zF) : Option zR := zrunL zX2 (zexec zX2 zMT d) K_X12_isB U_X12_isB 52 [some (.inl (some 57)), none] [.inr (.inl y1)] (LAY, σ)
set_option maxRecDepth 100000 in
set_option maxHeartbeats 4000000 in
theorem e_X12_isB (d : Nat) (σ : zF) : zx (d + 1) 181 [.inl (some 57)] σ = (
zCI LAY (zx d 180 [.inl (some 57)] σ) fun r2 s1 =>
if r2 = 0 then (
zri 0 s1) else (
zCI LAY (zx d 173 [.inl (some 57)] s1) fun r4 s3 =>
if r4 = 60 then (
P_X12_isB_52 d 8 s3) else (
zCI LAY (zx d 173 [.inl (some 57)] s3) fun r6 s5 =>
if r6 = 61 then (
P_X12_isB_52 d 9 s5) else (
zCI LAY (zx d 173 [.inl (some 57)] s5) fun r8 s7 =>
if r8 = 62 then (
P_X12_isB_52 d 10 s7) else (
P_X12_isB_52 d (-1) s7))))) := by
  unfold zx
  have hm := zexec_m zX2 zMT d
  refine (zexec_eq mt_181 _ rfl (LAY, σ) 0).trans ?_
  show zrunL zX2 (zexec zX2 zMT d) K_X12_isB U_X12_isB 0 [some (.inl (some 57)), none] [] (LAY, σ) = _
  refine (zq_aln hm (pc' := 1) rfl rfl rfl rfl).trans ?_
  refine (zq_v1 hm (pc' := 4) rfl rfl rfl (cls_57_12) rfl rfl).trans (zCI_c rfl (fun r2 s1 => ?_))
  refine (zJ_n rfl).trans ?_
  refine (zq_zne hm (pc' := 7) rfl rfl).trans (zite ?_ ?_)
  · refine (zJ_n rfl).trans ?_
    refine (zq_ic hm (pc' := 8) rfl rfl rfl rfl).trans ?_
    exact (zq_rb hm rfl rfl).trans (zif1 (by decide))
  · refine (zJ_n rfl).trans ?_
    refine (zq_aln hm (pc' := 10) rfl rfl rfl rfl).trans ?_
    refine (zq_v1 hm (pc' := 13) rfl rfl rfl (cls_57_12) rfl rfl).trans (zCI_c rfl (fun r4 s3 => ?_))
    refine (zJ_n rfl).trans ?_
    refine (zq_bi hm (pc' := 15) rfl rfl rfl rfl).trans ?_
    refine (zq_ine hm (pc' := 18) rfl rfl).trans (zite ?_ ?_)
    · refine (zJ_n rfl).trans ?_
      refine (zq_bi hm (pc' := 20) rfl rfl rfl rfl).trans ?_
      exact (zc_goto hm rfl rfl).trans rfl
    · refine (zJ_n rfl).trans ?_
      refine (zq_aln hm (pc' := 24) rfl rfl rfl rfl).trans ?_
      refine (zq_v1 hm (pc' := 27) rfl rfl rfl (cls_57_12) rfl rfl).trans (zCI_c rfl (fun r6 s5 => ?_))
      refine (zJ_n rfl).trans ?_
      refine (zq_bi hm (pc' := 29) rfl rfl rfl rfl).trans ?_
      refine (zq_ine hm (pc' := 32) rfl rfl).trans (zite ?_ ?_)
      · refine (zJ_n rfl).trans ?_
        refine (zq_bi hm (pc' := 34) rfl rfl rfl rfl).trans ?_
        exact (zc_goto hm rfl rfl).trans rfl
      · refine (zJ_n rfl).trans ?_
        refine (zq_aln hm (pc' := 38) rfl rfl rfl rfl).trans ?_
        refine (zq_v1 hm (pc' := 41) rfl rfl rfl (cls_57_12) rfl rfl).trans (zCI_c rfl (fun r8 s7 => ?_))
        refine (zJ_n rfl).trans ?_
        refine (zq_bi hm (pc' := 43) rfl rfl rfl rfl).trans ?_
        refine (zq_ine hm (pc' := 46) rfl rfl).trans (zite ?_ ?_)
        · refine (zJ_n rfl).trans ?_
          refine (zq_bi hm (pc' := 48) rfl rfl rfl rfl).trans ?_
          exact (zc_goto hm rfl rfl).trans rfl
        · refine (zJ_n rfl).trans ?_
          exact (zc_ic hm (pc' := 52) rfl rfl rfl rfl).trans rfl
set_option maxRecDepth 100000 in
set_option maxHeartbeats 4000000 in
theorem e_X12_isB_52 (d : Nat) (y1 : Int) (σ : zF) : P_X12_isB_52 d y1 σ = (
if y1 < 0 then (
zri 1 σ) else (
zCI LAY (zx d 180 [.inl (some 57)] (zset σ 57 15 (zw ((σ 57 15) + 1)))) fun r102 s101 =>
if r102 = 0 then (
zri 0 s101) else (
zCI LAY (zx d 175 [.inl (some 57), .inr (.inl y1)] s101) fun r104 s103 =>
if r104 = 0 then (
zri 0 s103) else (
zri 1 s103)))) := by
  have hm := zexec_m zX2 zMT d
  show zrunL zX2 (zexec zX2 zMT d) K_X12_isB U_X12_isB 52 [some (.inl (some 57)), none] [.inr (.inl y1)] (LAY, σ) = _
  refine (zq_isn hm (ls' := [some (.inl (some 57)), some (.inr (.inl y1))]) (pc' := 53) rfl rfl rfl rfl).trans ?_
  refine (zq_iln hm (pc' := 54) rfl rfl rfl rfl).trans ?_
  refine (zq_zge hm (pc' := 57) rfl rfl).trans (zite ?_ ?_)
  · refine (zJ_n rfl).trans ?_
    refine (zq_ic hm (pc' := 58) rfl rfl rfl rfl).trans ?_
    exact (zq_rb hm rfl rfl).trans (zif1 (by decide))
  · refine (zJ_n rfl).trans ?_
    refine (zq_aln hm (pc' := 60) rfl rfl rfl rfl).trans ?_
    refine (zq_dup hm (pc' := 61) rfl rfl rfl rfl).trans ?_
    refine (zq_gf hm (v := (σ 57 15)) (pc' := 64) rfl lay_57 rfl rfl rfl).trans ?_
    refine (zJ_n rfl).trans ?_
    refine (zq_ic hm (pc' := 65) rfl rfl rfl rfl).trans ?_
    refine (zq_iadd hm (pc' := 66) rfl rfl rfl).trans ?_
    refine (zq_pf hm (pc' := 69) rfl lay_57 rfl rfl rfl).trans ?_
    refine (zJ_n rfl).trans ?_
    refine (zq_aln hm (pc' := 70) rfl rfl rfl rfl).trans ?_
    refine (zq_v1 hm (pc' := 73) rfl rfl rfl (cls_57_12) rfl rfl).trans (zCI_c rfl (fun r102 s101 => ?_))
    refine (zJ_n rfl).trans ?_
    refine (zq_zeq hm (pc' := 76) rfl rfl).trans (zite ?_ ?_)
    · refine (zJ_n rfl).trans ?_
      refine (zq_ic hm (pc' := 89) rfl rfl rfl rfl).trans ?_
      exact (zq_rb hm rfl rfl).trans (zif1 (by decide))
    · refine (zJ_n rfl).trans ?_
      refine (zq_aln hm (pc' := 77) rfl rfl rfl rfl).trans ?_
      refine (zq_iln hm (pc' := 78) rfl rfl rfl rfl).trans ?_
      refine (zq_v1 hm (pc' := 81) rfl rfl rfl (cls_57_12) rfl rfl).trans (zCI_c rfl (fun r104 s103 => ?_))
      refine (zJ_n rfl).trans ?_
      refine (zq_zeq hm (pc' := 84) rfl rfl).trans (zite ?_ ?_)
      · refine (zJ_n rfl).trans ?_
        refine (zq_ic hm (pc' := 89) rfl rfl rfl rfl).trans ?_
        exact (zq_rb hm rfl rfl).trans (zif1 (by decide))
      · refine (zJ_n rfl).trans ?_
        refine (zq_ic hm (pc' := 85) rfl rfl rfl rfl).trans ?_
        refine (zq_goto hm rfl rfl).trans ?_
        exact (zq_rb hm rfl rfl).trans (zif1 (by decide))
noncomputable def P_X12_isA_9 (d : Nat) (σ : zF) : Option zR := zrunL zX2 (zexec zX2 zMT d) K_X12_isA U_X12_isA 9 [some (.inl (some 57))] [] (LAY, σ)
set_option maxRecDepth 100000 in
set_option maxHeartbeats 4000000 in
theorem e_X12_isA (d : Nat) (σ : zF) : zx (d + 1) 182 [.inl (some 57)] σ = (
zCI LAY (zx d 181 [.inl (some 57)] σ) fun r2 s1 =>
if r2 = 0 then (
zri 0 s1) else (
P_X12_isA_9 d s1)) := by
  unfold zx
  have hm := zexec_m zX2 zMT d
  refine (zexec_eq mt_182 _ rfl (LAY, σ) 0).trans ?_
  show zrunL zX2 (zexec zX2 zMT d) K_X12_isA U_X12_isA 0 [some (.inl (some 57))] [] (LAY, σ) = _
  refine (zq_aln hm (pc' := 1) rfl rfl rfl rfl).trans ?_
  refine (zq_v1 hm (pc' := 4) rfl rfl rfl (cls_57_12) rfl rfl).trans (zCI_c rfl (fun r2 s1 => ?_))
  refine (zJ_n rfl).trans ?_
  refine (zq_zne hm (pc' := 7) rfl rfl).trans (zite ?_ ?_)
  · refine (zJ_n rfl).trans ?_
    refine (zq_ic hm (pc' := 8) rfl rfl rfl rfl).trans ?_
    exact (zq_rb hm rfl rfl).trans (zif1 (by decide))
  · exact (zJ_c rfl).trans rfl
set_option maxRecDepth 100000 in
set_option maxHeartbeats 4000000 in
theorem e_X12_isA_9 (d : Nat) (σ : zF) : P_X12_isA_9 d σ = (
zCI LAY (zx d 174 [.inl (some 57), .inr (.inl 38)] σ) fun r102 s101 =>
if r102 = 0 then (
zri 1 s101) else (
zCI LAY (zx d 181 [.inl (some 57)] s101) fun r104 s103 =>
if r104 = 0 then (
zri 0 s103) else (
zCI LAY (zx d 175 [.inl (some 57), .inr (.inl 7)] s103) fun r106 s105 =>
P_X12_isA_9 d s105))) := by
  have hm := zexec_m zX2 zMT d
  show zrunL zX2 (zexec zX2 zMT d) K_X12_isA U_X12_isA 9 [some (.inl (some 57))] [] (LAY, σ) = _
  refine (zq_aln hm (pc' := 10) rfl rfl rfl rfl).trans ?_
  refine (zq_bi hm (pc' := 12) rfl rfl rfl rfl).trans ?_
  refine (zq_v1 hm (pc' := 15) rfl rfl rfl (cls_57_12) rfl rfl).trans (zCI_c rfl (fun r102 s101 => ?_))
  refine (zJ_n rfl).trans ?_
  refine (zq_zeq hm (pc' := 18) rfl rfl).trans (zite ?_ ?_)
  · refine (zJ_n rfl).trans ?_
    refine (zq_ic hm (pc' := 38) rfl rfl rfl rfl).trans ?_
    exact (zq_rb hm rfl rfl).trans (zif1 (by decide))
  · refine (zJ_n rfl).trans ?_
    refine (zq_aln hm (pc' := 19) rfl rfl rfl rfl).trans ?_
    refine (zq_v1 hm (pc' := 22) rfl rfl rfl (cls_57_12) rfl rfl).trans (zCI_c rfl (fun r104 s103 => ?_))
    refine (zJ_n rfl).trans ?_
    refine (zq_zne hm (pc' := 25) rfl rfl).trans (zite ?_ ?_)
    · refine (zJ_n rfl).trans ?_
      refine (zq_ic hm (pc' := 26) rfl rfl rfl rfl).trans ?_
      exact (zq_rb hm rfl rfl).trans (zif1 (by decide))
    · refine (zJ_n rfl).trans ?_
      refine (zq_aln hm (pc' := 28) rfl rfl rfl rfl).trans ?_
      refine (zq_bi hm (pc' := 30) rfl rfl rfl rfl).trans ?_
      refine (zq_v1 hm (pc' := 33) rfl rfl rfl (cls_57_12) rfl rfl).trans (zCI_c rfl (fun r106 s105 => ?_))
      refine (zJ_n rfl).trans ?_
      refine (zq_pop hm (pc' := 34) rfl rfl rfl rfl).trans ?_
      exact (zc_goto hm rfl rfl).trans rfl
noncomputable def P_X12_isE_9 (d : Nat) (σ : zF) : Option zR := zrunL zX2 (zexec zX2 zMT d) K_X12_isE U_X12_isE 9 [some (.inl (some 57))] [] (LAY, σ)
set_option maxRecDepth 100000 in
set_option maxHeartbeats 4000000 in
theorem e_X12_isE (d : Nat) (σ : zF) : zx (d + 1) 183 [.inl (some 57)] σ = (
zCI LAY (zx d 182 [.inl (some 57)] σ) fun r2 s1 =>
if r2 = 0 then (
zri 0 s1) else (
P_X12_isE_9 d s1)) := by
  unfold zx
  have hm := zexec_m zX2 zMT d
  refine (zexec_eq mt_183 _ rfl (LAY, σ) 0).trans ?_
  show zrunL zX2 (zexec zX2 zMT d) K_X12_isE U_X12_isE 0 [some (.inl (some 57))] [] (LAY, σ) = _
  refine (zq_aln hm (pc' := 1) rfl rfl rfl rfl).trans ?_
  refine (zq_v1 hm (pc' := 4) rfl rfl rfl (cls_57_12) rfl rfl).trans (zCI_c rfl (fun r2 s1 => ?_))
  refine (zJ_n rfl).trans ?_
  refine (zq_zne hm (pc' := 7) rfl rfl).trans (zite ?_ ?_)
  · refine (zJ_n rfl).trans ?_
    refine (zq_ic hm (pc' := 8) rfl rfl rfl rfl).trans ?_
    exact (zq_rb hm rfl rfl).trans (zif1 (by decide))
  · exact (zJ_c rfl).trans rfl
set_option maxRecDepth 100000 in
set_option maxHeartbeats 4000000 in
theorem e_X12_isE_9 (d : Nat) (σ : zF) : P_X12_isE_9 d σ = (
zCI LAY (zx d 174 [.inl (some 57), .inr (.inl 124)] σ) fun r102 s101 =>
if r102 = 0 then (
zri 1 s101) else (
zCI LAY (zx d 182 [.inl (some 57)] s101) fun r104 s103 =>
if r104 = 0 then (
zri 0 s103) else (
zCI LAY (zx d 175 [.inl (some 57), .inr (.inl 6)] s103) fun r106 s105 =>
P_X12_isE_9 d s105))) := by
  have hm := zexec_m zX2 zMT d
  show zrunL zX2 (zexec zX2 zMT d) K_X12_isE U_X12_isE 9 [some (.inl (some 57))] [] (LAY, σ) = _
  refine (zq_aln hm (pc' := 10) rfl rfl rfl rfl).trans ?_
  refine (zq_bi hm (pc' := 12) rfl rfl rfl rfl).trans ?_
  refine (zq_v1 hm (pc' := 15) rfl rfl rfl (cls_57_12) rfl rfl).trans (zCI_c rfl (fun r102 s101 => ?_))
  refine (zJ_n rfl).trans ?_
  refine (zq_zeq hm (pc' := 18) rfl rfl).trans (zite ?_ ?_)
  · refine (zJ_n rfl).trans ?_
    refine (zq_ic hm (pc' := 38) rfl rfl rfl rfl).trans ?_
    exact (zq_rb hm rfl rfl).trans (zif1 (by decide))
  · refine (zJ_n rfl).trans ?_
    refine (zq_aln hm (pc' := 19) rfl rfl rfl rfl).trans ?_
    refine (zq_v1 hm (pc' := 22) rfl rfl rfl (cls_57_12) rfl rfl).trans (zCI_c rfl (fun r104 s103 => ?_))
    refine (zJ_n rfl).trans ?_
    refine (zq_zne hm (pc' := 25) rfl rfl).trans (zite ?_ ?_)
    · refine (zJ_n rfl).trans ?_
      refine (zq_ic hm (pc' := 26) rfl rfl rfl rfl).trans ?_
      exact (zq_rb hm rfl rfl).trans (zif1 (by decide))
    · refine (zJ_n rfl).trans ?_
      refine (zq_aln hm (pc' := 28) rfl rfl rfl rfl).trans ?_
      refine (zq_bi hm (pc' := 30) rfl rfl rfl rfl).trans ?_
      refine (zq_v1 hm (pc' := 33) rfl rfl rfl (cls_57_12) rfl rfl).trans (zCI_c rfl (fun r106 s105 => ?_))
      refine (zJ_n rfl).trans ?_
      refine (zq_pop hm (pc' := 34) rfl rfl rfl rfl).trans ?_
      exact (zc_goto hm rfl rfl).trans rfl
