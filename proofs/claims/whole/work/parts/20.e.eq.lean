/-! equations, 5 -/
set_option maxRecDepth 100000 in
set_option maxHeartbeats 4000000 in
theorem e_X11_round (d : Nat) (x1 : Int) (x2 : Int) (x3 : Int) (σ : zF) : zx (d + 1) 119 [.inl (some 0), .inr (.inl x1), .inr (.inl x2), .inr (.inl x3)] σ = (
zCI LAY (zx d 146 [.inr (.inl x1)] σ) fun r2 s1 =>
if r2 = 0 then (
zri (-1) s1) else (
if x2 < 0 then (
zri (-1) s1) else (
if (255 : Int) < x2 then (
zri (-1) s1) else (
if x3 < (-1) then (
zri (-1) s1) else (
zCI LAY (zx d 253 [.inr (.inl (zand x2 (zxor (zshl 1 x1) (-1))))] s1) fun r4 s3 =>
if (5 : Int) < r4 then (
zri (-5) s3) else (
zCV LAY (zx d 87 [.inl (some 17), .inr (.inl (-1))] s3) fun s5 =>
zCV LAY (zx d 49 [.inl (some 27), .inr (.inl x1), .inr (.inl (zand x2 (zxor (zshl 1 x1) (-1))))] s5) fun s6 =>
if (s6 27 5) < 1000000 then (
if x3 < r4 then (
if x3 < 0 then (
zri (s6 27 5) s6) else (
if 0 ≤ x3 ∧ x3 < 5 then (
zri (s6 30 x3) s6) else (
none))) else (
zri (-2) s6)) else (
zri (-2) s6))))))) := by
  unfold zx
  have hm := zexec_m zX2 zMT d
  refine (zexec_eq mt_119 _ rfl (LAY, σ) 0).trans ?_
  show zrunL zX2 (zexec zX2 zMT d) K_X11_round U_X11_round 0 [some (.inl (some 0)), some (.inr (.inl x1)), some (.inr (.inl x2)), some (.inr (.inl x3)), none, none] [] (LAY, σ) = _
  refine (zq_iln hm (pc' := 1) rfl rfl rfl rfl).trans ?_
  refine (zq_s1 hm (pc' := 4) rfl rfl rfl rfl rfl rfl).trans (zCI_c rfl (fun r2 s1 => ?_))
  refine (zJ_n rfl).trans ?_
  refine (zq_zeq hm (pc' := 7) rfl rfl).trans (zite ?_ ?_)
  · refine (zJ_n rfl).trans ?_
    refine (zq_ic hm (pc' := 24) rfl rfl rfl rfl).trans ?_
    exact zq_ri hm rfl rfl
  · refine (zJ_n rfl).trans ?_
    refine (zq_iln hm (pc' := 8) rfl rfl rfl rfl).trans ?_
    refine (zq_zlt hm (pc' := 11) rfl rfl).trans (zite ?_ ?_)
    · refine (zJ_n rfl).trans ?_
      refine (zq_ic hm (pc' := 24) rfl rfl rfl rfl).trans ?_
      exact zq_ri hm rfl rfl
    · refine (zJ_n rfl).trans ?_
      refine (zq_iln hm (pc' := 12) rfl rfl rfl rfl).trans ?_
      refine (zq_si hm (pc' := 15) rfl rfl rfl rfl).trans ?_
      refine (zq_igt hm (pc' := 18) rfl rfl).trans (zite ?_ ?_)
      · refine (zJ_n rfl).trans ?_
        refine (zq_ic hm (pc' := 24) rfl rfl rfl rfl).trans ?_
        exact zq_ri hm rfl rfl
      · refine (zJ_n rfl).trans ?_
        refine (zq_iln hm (pc' := 19) rfl rfl rfl rfl).trans ?_
        refine (zq_ic hm (pc' := 20) rfl rfl rfl rfl).trans ?_
        refine (zq_ige hm (pc' := 23) rfl rfl).trans (zite ?_ ?_)
        · refine (zJ_n rfl).trans ?_
          refine (zq_ic hm (pc' := 24) rfl rfl rfl rfl).trans ?_
          exact zq_ri hm rfl rfl
        · refine (zJ_n rfl).trans ?_
          refine (zq_iln hm (pc' := 26) rfl rfl rfl rfl).trans ?_
          refine (zq_ic hm (pc' := 27) rfl rfl rfl rfl).trans ?_
          refine (zq_iln hm (pc' := 28) rfl rfl rfl rfl).trans ?_
          refine (zq_ishl hm (pc' := 29) rfl rfl rfl).trans ?_
          refine (zq_ic hm (pc' := 30) rfl rfl rfl rfl).trans ?_
          refine (zq_ixor hm (pc' := 31) rfl rfl rfl).trans ?_
          refine (zq_iand hm (pc' := 32) rfl rfl rfl).trans ?_
          refine (zq_is hm (ls' := [some (.inl (some 0)), some (.inr (.inl x1)), some (.inr (.inl x2)), some (.inr (.inl x3)), some (.inr (.inl (zand x2 (zxor (zshl 1 x1) (-1))))), none]) (pc' := 34) rfl rfl rfl rfl).trans ?_
          refine (zq_il hm (pc' := 36) rfl rfl rfl rfl).trans ?_
          refine (zq_s1 hm (pc' := 39) rfl rfl rfl rfl rfl rfl).trans (zCI_c rfl (fun r4 s3 => ?_))
          refine (zJ_n rfl).trans ?_
          refine (zq_is hm (ls' := [some (.inl (some 0)), some (.inr (.inl x1)), some (.inr (.inl x2)), some (.inr (.inl x3)), some (.inr (.inl (zand x2 (zxor (zshl 1 x1) (-1))))), some (.inr (.inl r4))]) (pc' := 41) rfl rfl rfl rfl).trans ?_
          refine (zq_il hm (pc' := 43) rfl rfl rfl rfl).trans ?_
          refine (zq_ic hm (pc' := 44) rfl rfl rfl rfl).trans ?_
          refine (zq_ile hm (pc' := 47) rfl rfl).trans (zite ?_ ?_)
          · refine (zJ_n rfl).trans ?_
            refine (zq_bi hm (pc' := 49) rfl rfl rfl rfl).trans ?_
            exact zq_ri hm rfl rfl
          · refine (zJ_n rfl).trans ?_
            refine (zq_aln hm (pc' := 51) rfl rfl rfl rfl).trans ?_
            refine (zq_gr hm (pc' := 54) rfl lay_0 rfl rfl).trans ?_
            refine (zJ_n rfl).trans ?_
            refine (zq_ic hm (pc' := 55) rfl rfl rfl rfl).trans ?_
            refine (zq_v0 hm (pc' := 58) rfl rfl rfl (cls_17_9) rfl rfl).trans (zCV_c rfl (fun s5 => ?_))
            refine (zJ_n rfl).trans ?_
            refine (zq_aln hm (pc' := 59) rfl rfl rfl rfl).trans ?_
            refine (zq_gr hm (pc' := 62) rfl lay_0 rfl rfl).trans ?_
            refine (zJ_n rfl).trans ?_
            refine (zq_iln hm (pc' := 63) rfl rfl rfl rfl).trans ?_
            refine (zq_il hm (pc' := 65) rfl rfl rfl rfl).trans ?_
            refine (zq_v0 hm (pc' := 68) rfl rfl rfl (cls_27_5) rfl rfl).trans (zCV_c rfl (fun s6 => ?_))
            refine (zJ_n rfl).trans ?_
            refine (zq_aln hm (pc' := 69) rfl rfl rfl rfl).trans ?_
            refine (zq_gr hm (pc' := 72) rfl lay_0 rfl rfl).trans ?_
            refine (zJ_n rfl).trans ?_
            refine (zq_gf hm (v := (s6 27 5)) (pc' := 75) rfl lay_27 rfl rfl rfl).trans ?_
            refine (zJ_n rfl).trans ?_
            refine (zq_ld hm (pc' := 77) rfl rfl rfl rfl).trans ?_
            refine (zq_ige hm (pc' := 80) rfl rfl).trans (zite ?_ ?_)
            · refine (zJ_n rfl).trans ?_
              refine (zq_iln hm (pc' := 81) rfl rfl rfl rfl).trans ?_
              refine (zq_il hm (pc' := 83) rfl rfl rfl rfl).trans ?_
              refine (zq_ilt hm (pc' := 86) rfl rfl).trans (zite ?_ ?_)
              · refine (zJ_n rfl).trans ?_
                refine (zq_iln hm (pc' := 90) rfl rfl rfl rfl).trans ?_
                refine (zq_zge hm (pc' := 93) rfl rfl).trans (zite ?_ ?_)
                · refine (zJ_n rfl).trans ?_
                  refine (zq_aln hm (pc' := 94) rfl rfl rfl rfl).trans ?_
                  refine (zq_gr hm (pc' := 97) rfl lay_0 rfl rfl).trans ?_
                  refine (zJ_n rfl).trans ?_
                  refine (zq_gf hm (v := (s6 27 5)) (pc' := 100) rfl lay_27 rfl rfl rfl).trans ?_
                  refine (zJ_n rfl).trans ?_
                  refine (zq_goto hm rfl rfl).trans ?_
                  exact zq_ri hm rfl rfl
                · refine (zJ_n rfl).trans ?_
                  refine (zq_aln hm (pc' := 104) rfl rfl rfl rfl).trans ?_
                  refine (zq_gr hm (pc' := 107) rfl lay_0 rfl rfl).trans ?_
                  refine (zJ_n rfl).trans ?_
                  refine (zq_gr hm (pc' := 110) rfl lay_27 rfl rfl).trans ?_
                  refine (zJ_n rfl).trans ?_
                  refine (zq_iln hm (pc' := 111) rfl rfl rfl rfl).trans ?_
                  refine (zq_ia hm (v := (s6 30 x3)) (pc' := 112) rfl lay_30 rfl rfl).trans (zite ?_ rfl)
                  refine (zJ_n rfl).trans ?_
                  exact zq_ri hm rfl rfl
              · refine (zJ_n rfl).trans ?_
                refine (zq_bi hm (pc' := 88) rfl rfl rfl rfl).trans ?_
                exact zq_ri hm rfl rfl
            · refine (zJ_n rfl).trans ?_
              refine (zq_bi hm (pc' := 88) rfl rfl rfl rfl).trans ?_
              exact zq_ri hm rfl rfl
set_option maxRecDepth 100000 in
set_option maxHeartbeats 4000000 in
theorem e_X11_least (d : Nat) (x1 : Int) (x2 : Int) (x3 : Int) (σ : zF) : zx (d + 1) 120 [.inl (some 0), .inr (.inl x1), .inr (.inl x2), .inr (.inl x3)] σ = (
zCI LAY (zx d 147 [.inr (.inl x1)] σ) fun r2 s1 =>
if r2 = 0 then (
zri (-1) s1) else (
zCI LAY (zx d 149 [.inr (.inl x2)] s1) fun r4 s3 =>
if r4 = 0 then (
zri (-1) s3) else (
if x3 < (-1) then (
zri (-1) s3) else (
if (10 : Int) = 0 then none else (
if (10 : Int) = 0 then none else (
zCI LAY (zx d 53 [.inl (some 24), .inr (.inl (zdiv x1 10)), .inr (.inl (zrem x1 10)), .inr (.inl x2)] s3) fun r6 s5 =>
if r6 = (-2) then (
zri (-2) s5) else (
if x3 < r6 then (
if x3 < 0 then (
zri r6 s5) else (
if 0 ≤ x3 ∧ x3 < 3 then (
zri (s5 25 x3) s5) else (
none))) else (
zri (-2) s5)))))))) := by
  unfold zx
  have hm := zexec_m zX2 zMT d
  refine (zexec_eq mt_120 _ rfl (LAY, σ) 0).trans ?_
  show zrunL zX2 (zexec zX2 zMT d) K_X11_least U_X11_least 0 [some (.inl (some 0)), some (.inr (.inl x1)), some (.inr (.inl x2)), some (.inr (.inl x3)), none] [] (LAY, σ) = _
  refine (zq_iln hm (pc' := 1) rfl rfl rfl rfl).trans ?_
  refine (zq_s1 hm (pc' := 4) rfl rfl rfl rfl rfl rfl).trans (zCI_c rfl (fun r2 s1 => ?_))
  refine (zJ_n rfl).trans ?_
  refine (zq_zeq hm (pc' := 7) rfl rfl).trans (zite ?_ ?_)
  · refine (zJ_n rfl).trans ?_
    refine (zq_ic hm (pc' := 20) rfl rfl rfl rfl).trans ?_
    exact zq_ri hm rfl rfl
  · refine (zJ_n rfl).trans ?_
    refine (zq_iln hm (pc' := 8) rfl rfl rfl rfl).trans ?_
    refine (zq_s1 hm (pc' := 11) rfl rfl rfl rfl rfl rfl).trans (zCI_c rfl (fun r4 s3 => ?_))
    refine (zJ_n rfl).trans ?_
    refine (zq_zeq hm (pc' := 14) rfl rfl).trans (zite ?_ ?_)
    · refine (zJ_n rfl).trans ?_
      refine (zq_ic hm (pc' := 20) rfl rfl rfl rfl).trans ?_
      exact zq_ri hm rfl rfl
    · refine (zJ_n rfl).trans ?_
      refine (zq_iln hm (pc' := 15) rfl rfl rfl rfl).trans ?_
      refine (zq_ic hm (pc' := 16) rfl rfl rfl rfl).trans ?_
      refine (zq_ige hm (pc' := 19) rfl rfl).trans (zite ?_ ?_)
      · refine (zJ_n rfl).trans ?_
        refine (zq_ic hm (pc' := 20) rfl rfl rfl rfl).trans ?_
        exact zq_ri hm rfl rfl
      · refine (zJ_n rfl).trans ?_
        refine (zq_aln hm (pc' := 22) rfl rfl rfl rfl).trans ?_
        refine (zq_gr hm (pc' := 25) rfl lay_0 rfl rfl).trans ?_
        refine (zJ_n rfl).trans ?_
        refine (zq_iln hm (pc' := 26) rfl rfl rfl rfl).trans ?_
        refine (zq_bi hm (pc' := 28) rfl rfl rfl rfl).trans ?_
        refine (zq_idiv hm (pc' := 29) rfl rfl).trans (zite rfl ?_)
        refine (zJ_n rfl).trans ?_
        refine (zq_iln hm (pc' := 30) rfl rfl rfl rfl).trans ?_
        refine (zq_bi hm (pc' := 32) rfl rfl rfl rfl).trans ?_
        refine (zq_irem hm (pc' := 33) rfl rfl).trans (zite rfl ?_)
        refine (zJ_n rfl).trans ?_
        refine (zq_iln hm (pc' := 34) rfl rfl rfl rfl).trans ?_
        refine (zq_v1 hm (pc' := 37) rfl rfl rfl (cls_24_6) rfl rfl).trans (zCI_c rfl (fun r6 s5 => ?_))
        refine (zJ_n rfl).trans ?_
        refine (zq_is hm (ls' := [some (.inl (some 0)), some (.inr (.inl x1)), some (.inr (.inl x2)), some (.inr (.inl x3)), some (.inr (.inl r6))]) (pc' := 39) rfl rfl rfl rfl).trans ?_
        refine (zq_il hm (pc' := 41) rfl rfl rfl rfl).trans ?_
        refine (zq_bi hm (pc' := 43) rfl rfl rfl rfl).trans ?_
        refine (zq_ieq hm (pc' := 46) rfl rfl).trans (zite ?_ ?_)
        · refine (zJ_n rfl).trans ?_
          refine (zq_bi hm (pc' := 54) rfl rfl rfl rfl).trans ?_
          exact zq_ri hm rfl rfl
        · refine (zJ_n rfl).trans ?_
          refine (zq_iln hm (pc' := 47) rfl rfl rfl rfl).trans ?_
          refine (zq_il hm (pc' := 49) rfl rfl rfl rfl).trans ?_
          refine (zq_ilt hm (pc' := 52) rfl rfl).trans (zite ?_ ?_)
          · refine (zJ_n rfl).trans ?_
            refine (zq_iln hm (pc' := 56) rfl rfl rfl rfl).trans ?_
            refine (zq_zge hm (pc' := 59) rfl rfl).trans (zite ?_ ?_)
            · refine (zJ_n rfl).trans ?_
              refine (zq_il hm (pc' := 61) rfl rfl rfl rfl).trans ?_
              refine (zq_goto hm rfl rfl).trans ?_
              exact zq_ri hm rfl rfl
            · refine (zJ_n rfl).trans ?_
              refine (zq_aln hm (pc' := 65) rfl rfl rfl rfl).trans ?_
              refine (zq_gr hm (pc' := 68) rfl lay_0 rfl rfl).trans ?_
              refine (zJ_n rfl).trans ?_
              refine (zq_gr hm (pc' := 71) rfl lay_24 rfl rfl).trans ?_
              refine (zJ_n rfl).trans ?_
              refine (zq_iln hm (pc' := 72) rfl rfl rfl rfl).trans ?_
              refine (zq_ia hm (v := (s5 25 x3)) (pc' := 73) rfl lay_25 rfl rfl).trans (zite ?_ rfl)
              refine (zJ_n rfl).trans ?_
              exact zq_ri hm rfl rfl
          · refine (zJ_n rfl).trans ?_
            refine (zq_bi hm (pc' := 54) rfl rfl rfl rfl).trans ?_
            exact zq_ri hm rfl rfl
set_option maxRecDepth 100000 in
set_option maxHeartbeats 4000000 in
theorem e_X11_best (d : Nat) (x1 : Int) (σ : zF) : zx (d + 1) 121 [.inl (some 0), .inr (.inl x1)] σ = (
if x1 < 0 then (
zri (-1) σ) else (
if (1 : Int) < x1 then (
zri (-1) σ) else (
if (σ 1 0) = 0 then (
zri (-2) σ) else (
zCV LAY (zx d 56 [.inl (some 24)] σ) fun s1 =>
if x1 = 0 then (
zri (s1 24 5) s1) else (
zri (s1 24 4) s1))))) := by
  unfold zx
  have hm := zexec_m zX2 zMT d
  refine (zexec_eq mt_121 _ rfl (LAY, σ) 0).trans ?_
  show zrunL zX2 (zexec zX2 zMT d) K_X11_best U_X11_best 0 [some (.inl (some 0)), some (.inr (.inl x1))] [] (LAY, σ) = _
  refine (zq_iln hm (pc' := 1) rfl rfl rfl rfl).trans ?_
  refine (zq_zlt hm (pc' := 4) rfl rfl).trans (zite ?_ ?_)
  · refine (zJ_n rfl).trans ?_
    refine (zq_ic hm (pc' := 10) rfl rfl rfl rfl).trans ?_
    exact zq_ri hm rfl rfl
  · refine (zJ_n rfl).trans ?_
    refine (zq_iln hm (pc' := 5) rfl rfl rfl rfl).trans ?_
    refine (zq_ic hm (pc' := 6) rfl rfl rfl rfl).trans ?_
    refine (zq_ile hm (pc' := 9) rfl rfl).trans (zite ?_ ?_)
    · refine (zJ_n rfl).trans ?_
      refine (zq_ic hm (pc' := 10) rfl rfl rfl rfl).trans ?_
      exact zq_ri hm rfl rfl
    · refine (zJ_n rfl).trans ?_
      refine (zq_aln hm (pc' := 12) rfl rfl rfl rfl).trans ?_
      refine (zq_gr hm (pc' := 15) rfl lay_0 rfl rfl).trans ?_
      refine (zJ_n rfl).trans ?_
      refine (zq_gf hm (v := (σ 1 0)) (pc' := 18) rfl lay_1 rfl rfl rfl).trans ?_
      refine (zJ_n rfl).trans ?_
      refine (zq_zne hm (pc' := 21) rfl rfl).trans (zite ?_ ?_)
      · refine (zJ_n rfl).trans ?_
        refine (zq_bi hm (pc' := 23) rfl rfl rfl rfl).trans ?_
        exact zq_ri hm rfl rfl
      · refine (zJ_n rfl).trans ?_
        refine (zq_aln hm (pc' := 25) rfl rfl rfl rfl).trans ?_
        refine (zq_gr hm (pc' := 28) rfl lay_0 rfl rfl).trans ?_
        refine (zJ_n rfl).trans ?_
        refine (zq_v0 hm (pc' := 31) rfl rfl rfl (cls_24_6) rfl rfl).trans (zCV_c rfl (fun s1 => ?_))
        refine (zJ_n rfl).trans ?_
        refine (zq_iln hm (pc' := 32) rfl rfl rfl rfl).trans ?_
        refine (zq_zne hm (pc' := 35) rfl rfl).trans (zite ?_ ?_)
        · refine (zJ_n rfl).trans ?_
          refine (zq_aln hm (pc' := 36) rfl rfl rfl rfl).trans ?_
          refine (zq_gr hm (pc' := 39) rfl lay_0 rfl rfl).trans ?_
          refine (zJ_n rfl).trans ?_
          refine (zq_gf hm (v := (s1 24 5)) (pc' := 42) rfl lay_24 rfl rfl rfl).trans ?_
          refine (zJ_n rfl).trans ?_
          refine (zq_goto hm rfl rfl).trans ?_
          exact zq_ri hm rfl rfl
        · refine (zJ_n rfl).trans ?_
          refine (zq_aln hm (pc' := 46) rfl rfl rfl rfl).trans ?_
          refine (zq_gr hm (pc' := 49) rfl lay_0 rfl rfl).trans ?_
          refine (zJ_n rfl).trans ?_
          refine (zq_gf hm (v := (s1 24 4)) (pc' := 52) rfl lay_24 rfl rfl rfl).trans ?_
          refine (zJ_n rfl).trans ?_
          exact zq_ri hm rfl rfl
set_option maxRecDepth 100000 in
set_option maxHeartbeats 4000000 in
theorem e_X11_anger (d : Nat) (x1 : Int) (σ : zF) : zx (d + 1) 122 [.inl (some 0), .inr (.inl x1)] σ = (
zCI LAY (zx d 16 [.inl (some 1), .inr (.inl x1)] σ) fun r2 s1 =>
if r2 = 0 then (
zri (-1) s1) else (
zCI LAY (zx d 28 [.inl (some 1), .inr (.inl x1)] s1) fun r4 s3 =>
zri r4 s3)) := by
  unfold zx
  have hm := zexec_m zX2 zMT d
  refine (zexec_eq mt_122 _ rfl (LAY, σ) 0).trans ?_
  show zrunL zX2 (zexec zX2 zMT d) K_X11_anger U_X11_anger 0 [some (.inl (some 0)), some (.inr (.inl x1))] [] (LAY, σ) = _
  refine (zq_aln hm (pc' := 1) rfl rfl rfl rfl).trans ?_
  refine (zq_gr hm (pc' := 4) rfl lay_0 rfl rfl).trans ?_
  refine (zJ_n rfl).trans ?_
  refine (zq_iln hm (pc' := 5) rfl rfl rfl rfl).trans ?_
  refine (zq_v1 hm (pc' := 8) rfl rfl rfl (cls_1_3) rfl rfl).trans (zCI_c rfl (fun r2 s1 => ?_))
  refine (zJ_n rfl).trans ?_
  refine (zq_zeq hm (pc' := 11) rfl rfl).trans (zite ?_ ?_)
  · refine (zJ_n rfl).trans ?_
    refine (zq_ic hm (pc' := 23) rfl rfl rfl rfl).trans ?_
    exact zq_ri hm rfl rfl
  · refine (zJ_n rfl).trans ?_
    refine (zq_aln hm (pc' := 12) rfl rfl rfl rfl).trans ?_
    refine (zq_gr hm (pc' := 15) rfl lay_0 rfl rfl).trans ?_
    refine (zJ_n rfl).trans ?_
    refine (zq_iln hm (pc' := 16) rfl rfl rfl rfl).trans ?_
    refine (zq_v1 hm (pc' := 19) rfl rfl rfl (cls_1_3) rfl rfl).trans (zCI_c rfl (fun r4 s3 => ?_))
    refine (zJ_n rfl).trans ?_
    refine (zq_goto hm rfl rfl).trans ?_
    exact zq_ri hm rfl rfl
set_option maxRecDepth 100000 in
set_option maxHeartbeats 4000000 in
theorem e_X11_peace (d : Nat) (x1 : Int) (σ : zF) : zx (d + 1) 123 [.inl (some 0), .inr (.inl x1)] σ = (
if x1 < 0 then (
zri (-1) σ) else (
if (1 : Int) < x1 then (
zri (-1) σ) else (
zCI LAY (zx d 29 [.inl (some 1)] σ) fun r2 s1 =>
if x1 = 0 then (
zCI LAY (zx d 253 [.inr (.inl r2)] s1) fun r4 s3 =>
zri r4 s3) else (
zri r2 s1)))) := by
  unfold zx
  have hm := zexec_m zX2 zMT d
  refine (zexec_eq mt_123 _ rfl (LAY, σ) 0).trans ?_
  show zrunL zX2 (zexec zX2 zMT d) K_X11_peace U_X11_peace 0 [some (.inl (some 0)), some (.inr (.inl x1)), none] [] (LAY, σ) = _
  refine (zq_iln hm (pc' := 1) rfl rfl rfl rfl).trans ?_
  refine (zq_zlt hm (pc' := 4) rfl rfl).trans (zite ?_ ?_)
  · refine (zJ_n rfl).trans ?_
    refine (zq_ic hm (pc' := 10) rfl rfl rfl rfl).trans ?_
    exact zq_ri hm rfl rfl
  · refine (zJ_n rfl).trans ?_
    refine (zq_iln hm (pc' := 5) rfl rfl rfl rfl).trans ?_
    refine (zq_ic hm (pc' := 6) rfl rfl rfl rfl).trans ?_
    refine (zq_ile hm (pc' := 9) rfl rfl).trans (zite ?_ ?_)
    · refine (zJ_n rfl).trans ?_
      refine (zq_ic hm (pc' := 10) rfl rfl rfl rfl).trans ?_
      exact zq_ri hm rfl rfl
    · refine (zJ_n rfl).trans ?_
      refine (zq_aln hm (pc' := 12) rfl rfl rfl rfl).trans ?_
      refine (zq_gr hm (pc' := 15) rfl lay_0 rfl rfl).trans ?_
      refine (zJ_n rfl).trans ?_
      refine (zq_v1 hm (pc' := 18) rfl rfl rfl (cls_1_3) rfl rfl).trans (zCI_c rfl (fun r2 s1 => ?_))
      refine (zJ_n rfl).trans ?_
      refine (zq_isn hm (ls' := [some (.inl (some 0)), some (.inr (.inl x1)), some (.inr (.inl r2))]) (pc' := 19) rfl rfl rfl rfl).trans ?_
      refine (zq_iln hm (pc' := 20) rfl rfl rfl rfl).trans ?_
      refine (zq_zne hm (pc' := 23) rfl rfl).trans (zite ?_ ?_)
      · refine (zJ_n rfl).trans ?_
        refine (zq_iln hm (pc' := 24) rfl rfl rfl rfl).trans ?_
        refine (zq_s1 hm (pc' := 27) rfl rfl rfl rfl rfl rfl).trans (zCI_c rfl (fun r4 s3 => ?_))
        refine (zJ_n rfl).trans ?_
        refine (zq_goto hm rfl rfl).trans ?_
        exact zq_ri hm rfl rfl
      · refine (zJ_n rfl).trans ?_
        refine (zq_iln hm (pc' := 31) rfl rfl rfl rfl).trans ?_
        exact zq_ri hm rfl rfl
set_option maxRecDepth 100000 in
set_option maxHeartbeats 4000000 in
theorem e_X11_ring (d : Nat) (x1 : Int) (x2 : Int) (σ : zF) : zx (d + 1) 124 [.inl (some 0), .inr (.inl x1), .inr (.inl x2)] σ = (
zCI LAY (zx d 16 [.inl (some 1), .inr (.inl x1)] σ) fun r2 s1 =>
if r2 = 0 then (
zri (-1) s1) else (
if x2 < 0 then (
zri (-1) s1) else (
if (1 : Int) < x2 then (
zri (-1) s1) else (
if x2 = 0 then (
zCI LAY (zx d 31 [.inl (some 1), .inr (.inl x1)] s1) fun r6 s5 =>
zri r6 s5) else (
zCI LAY (zx d 32 [.inl (some 1), .inr (.inl x1)] s1) fun r4 s3 =>
zri r4 s3))))) := by
  unfold zx
  have hm := zexec_m zX2 zMT d
  refine (zexec_eq mt_124 _ rfl (LAY, σ) 0).trans ?_
  show zrunL zX2 (zexec zX2 zMT d) K_X11_ring U_X11_ring 0 [some (.inl (some 0)), some (.inr (.inl x1)), some (.inr (.inl x2))] [] (LAY, σ) = _
  refine (zq_aln hm (pc' := 1) rfl rfl rfl rfl).trans ?_
  refine (zq_gr hm (pc' := 4) rfl lay_0 rfl rfl).trans ?_
  refine (zJ_n rfl).trans ?_
  refine (zq_iln hm (pc' := 5) rfl rfl rfl rfl).trans ?_
  refine (zq_v1 hm (pc' := 8) rfl rfl rfl (cls_1_3) rfl rfl).trans (zCI_c rfl (fun r2 s1 => ?_))
  refine (zJ_n rfl).trans ?_
  refine (zq_zeq hm (pc' := 11) rfl rfl).trans (zite ?_ ?_)
  · refine (zJ_n rfl).trans ?_
    refine (zq_ic hm (pc' := 21) rfl rfl rfl rfl).trans ?_
    exact zq_ri hm rfl rfl
  · refine (zJ_n rfl).trans ?_
    refine (zq_iln hm (pc' := 12) rfl rfl rfl rfl).trans ?_
    refine (zq_zlt hm (pc' := 15) rfl rfl).trans (zite ?_ ?_)
    · refine (zJ_n rfl).trans ?_
      refine (zq_ic hm (pc' := 21) rfl rfl rfl rfl).trans ?_
      exact zq_ri hm rfl rfl
    · refine (zJ_n rfl).trans ?_
      refine (zq_iln hm (pc' := 16) rfl rfl rfl rfl).trans ?_
      refine (zq_ic hm (pc' := 17) rfl rfl rfl rfl).trans ?_
      refine (zq_ile hm (pc' := 20) rfl rfl).trans (zite ?_ ?_)
      · refine (zJ_n rfl).trans ?_
        refine (zq_ic hm (pc' := 21) rfl rfl rfl rfl).trans ?_
        exact zq_ri hm rfl rfl
      · refine (zJ_n rfl).trans ?_
        refine (zq_iln hm (pc' := 23) rfl rfl rfl rfl).trans ?_
        refine (zq_zne hm (pc' := 26) rfl rfl).trans (zite ?_ ?_)
        · refine (zJ_n rfl).trans ?_
          refine (zq_aln hm (pc' := 27) rfl rfl rfl rfl).trans ?_
          refine (zq_gr hm (pc' := 30) rfl lay_0 rfl rfl).trans ?_
          refine (zJ_n rfl).trans ?_
          refine (zq_iln hm (pc' := 31) rfl rfl rfl rfl).trans ?_
          refine (zq_v1 hm (pc' := 34) rfl rfl rfl (cls_1_3) rfl rfl).trans (zCI_c rfl (fun r6 s5 => ?_))
          refine (zJ_n rfl).trans ?_
          refine (zq_goto hm rfl rfl).trans ?_
          exact zq_ri hm rfl rfl
        · refine (zJ_n rfl).trans ?_
          refine (zq_aln hm (pc' := 38) rfl rfl rfl rfl).trans ?_
          refine (zq_gr hm (pc' := 41) rfl lay_0 rfl rfl).trans ?_
          refine (zJ_n rfl).trans ?_
          refine (zq_iln hm (pc' := 42) rfl rfl rfl rfl).trans ?_
          refine (zq_v1 hm (pc' := 45) rfl rfl rfl (cls_1_3) rfl rfl).trans (zCI_c rfl (fun r4 s3 => ?_))
          refine (zJ_n rfl).trans ?_
          exact zq_ri hm rfl rfl
set_option maxRecDepth 100000 in
set_option maxHeartbeats 4000000 in
theorem e_X11_judge (d : Nat) (x1 : Int) (σ : zF) : zx (d + 1) 125 [.inl (some 0), .inr (.inl x1)] σ = (
zCI LAY (zx d 150 [.inr (.inl x1)] σ) fun r2 s1 =>
if r2 = 0 then (
zri (-1) s1) else (
zaa LAY 44 x1 (fun t3 =>
bif zcls LAY t3 7 && true then (
zCI LAY (zx d 73 [.inl (some t3), .inr (.inl 1)] s1) fun r5 s4 =>
if r5 = 0 then (
zCV LAY (zx d 87 [.inl (some 17), .inr (.inl (-1))] s4) fun s6 =>
zaa LAY 44 x1 (fun t7 =>
zCI LAY (zx d 100 [.inl (some 17), .inl (some t7)] s6) fun r9 s8 =>
zri r9 s8)) else (
zri r5 s4)) else none))) := by
  unfold zx
  have hm := zexec_m zX2 zMT d
  refine (zexec_eq mt_125 _ rfl (LAY, σ) 0).trans ?_
  show zrunL zX2 (zexec zX2 zMT d) K_X11_judge U_X11_judge 0 [some (.inl (some 0)), some (.inr (.inl x1)), none] [] (LAY, σ) = _
  refine (zq_iln hm (pc' := 1) rfl rfl rfl rfl).trans ?_
  refine (zq_s1 hm (pc' := 4) rfl rfl rfl rfl rfl rfl).trans (zCI_c rfl (fun r2 s1 => ?_))
  refine (zJ_n rfl).trans ?_
  refine (zq_zne hm (pc' := 7) rfl rfl).trans (zite ?_ ?_)
  · refine (zJ_n rfl).trans ?_
    refine (zq_ic hm (pc' := 8) rfl rfl rfl rfl).trans ?_
    exact zq_ri hm rfl rfl
  · refine (zJ_n rfl).trans ?_
    refine (zq_aln hm (pc' := 10) rfl rfl rfl rfl).trans ?_
    refine (zq_gr hm (pc' := 13) rfl lay_0 rfl rfl).trans ?_
    refine (zJ_n rfl).trans ?_
    refine (zq_iln hm (pc' := 14) rfl rfl rfl rfl).trans ?_
    refine (zq_aa hm (pc' := 15) rfl rfl).trans (zaa_c (fun t3 => ?_))
    refine (zJ_n rfl).trans ?_
    refine (zq_ic hm (pc' := 16) rfl rfl rfl rfl).trans ?_
    refine (zq_vy1 hm (pc' := 19) rfl rfl rfl rfl rfl).trans (zbif_c (zCI_c rfl (fun r5 s4 => ?_)))
    refine (zJ_n rfl).trans ?_
    refine (zq_isn hm (ls' := [some (.inl (some 0)), some (.inr (.inl x1)), some (.inr (.inl r5))]) (pc' := 20) rfl rfl rfl rfl).trans ?_
    refine (zq_iln hm (pc' := 21) rfl rfl rfl rfl).trans ?_
    refine (zq_zeq hm (pc' := 24) rfl rfl).trans (zite ?_ ?_)
    · refine (zJ_n rfl).trans ?_
      refine (zq_aln hm (pc' := 27) rfl rfl rfl rfl).trans ?_
      refine (zq_gr hm (pc' := 30) rfl lay_0 rfl rfl).trans ?_
      refine (zJ_n rfl).trans ?_
      refine (zq_ic hm (pc' := 31) rfl rfl rfl rfl).trans ?_
      refine (zq_v0 hm (pc' := 34) rfl rfl rfl (cls_17_9) rfl rfl).trans (zCV_c rfl (fun s6 => ?_))
      refine (zJ_n rfl).trans ?_
      refine (zq_aln hm (pc' := 35) rfl rfl rfl rfl).trans ?_
      refine (zq_gr hm (pc' := 38) rfl lay_0 rfl rfl).trans ?_
      refine (zJ_n rfl).trans ?_
      refine (zq_aln hm (pc' := 39) rfl rfl rfl rfl).trans ?_
      refine (zq_gr hm (pc' := 42) rfl lay_0 rfl rfl).trans ?_
      refine (zJ_n rfl).trans ?_
      refine (zq_iln hm (pc' := 43) rfl rfl rfl rfl).trans ?_
      refine (zq_aa hm (pc' := 44) rfl rfl).trans (zaa_c (fun t7 => ?_))
      refine (zJ_n rfl).trans ?_
      refine (zq_v1 hm (pc' := 47) rfl rfl rfl (cls_17_9) rfl rfl).trans (zCI_c rfl (fun r9 s8 => ?_))
      refine (zJ_n rfl).trans ?_
      exact zq_ri hm rfl rfl
    · refine (zJ_n rfl).trans ?_
      refine (zq_iln hm (pc' := 25) rfl rfl rfl rfl).trans ?_
      exact zq_ri hm rfl rfl
set_option maxRecDepth 100000 in
set_option maxHeartbeats 4000000 in
theorem e_X11_sunday (d : Nat) (x1 : Int) (x2 : Int) (σ : zF) : zx (d + 1) 126 [.inl (some 0), .inr (.inl x1), .inr (.inl x2)] σ = (
zCI LAY (zx d 150 [.inr (.inl x1)] σ) fun r2 s1 =>
if r2 = 0 then (
zri (-1) s1) else (
if x2 < 0 then (
zri (-1) s1) else (
if (2 : Int) < x2 then (
zri (-1) s1) else (
zaa LAY 44 x1 (fun t3 =>
bif zcls LAY t3 7 && true then (
zCI LAY (zx d 73 [.inl (some t3), .inr (.inl 1)] s1) fun r5 s4 =>
if r5 = 0 then (
if x2 = 2 then (
zaa LAY 44 x1 (fun t8 =>
zCI LAY (zx d 61 [.inl (some 24), .inl (some t8)] s4) fun r10 s9 =>
zri r10 s9)) else (
zaa LAY 44 x1 (fun t6 =>
zCV LAY (zx d 60 [.inl (some 24), .inl (some t6)] s4) fun s7 =>
if x2 = 0 then (
zri (s7 24 4) s7) else (
zri (s7 24 5) s7)))) else (
zri r5 s4)) else none))))) := by
  unfold zx
  have hm := zexec_m zX2 zMT d
  refine (zexec_eq mt_126 _ rfl (LAY, σ) 0).trans ?_
  show zrunL zX2 (zexec zX2 zMT d) K_X11_sunday U_X11_sunday 0 [some (.inl (some 0)), some (.inr (.inl x1)), some (.inr (.inl x2)), none] [] (LAY, σ) = _
  refine (zq_iln hm (pc' := 1) rfl rfl rfl rfl).trans ?_
  refine (zq_s1 hm (pc' := 4) rfl rfl rfl rfl rfl rfl).trans (zCI_c rfl (fun r2 s1 => ?_))
  refine (zJ_n rfl).trans ?_
  refine (zq_zeq hm (pc' := 7) rfl rfl).trans (zite ?_ ?_)
  · refine (zJ_n rfl).trans ?_
    refine (zq_ic hm (pc' := 17) rfl rfl rfl rfl).trans ?_
    exact zq_ri hm rfl rfl
  · refine (zJ_n rfl).trans ?_
    refine (zq_iln hm (pc' := 8) rfl rfl rfl rfl).trans ?_
    refine (zq_zlt hm (pc' := 11) rfl rfl).trans (zite ?_ ?_)
    · refine (zJ_n rfl).trans ?_
      refine (zq_ic hm (pc' := 17) rfl rfl rfl rfl).trans ?_
      exact zq_ri hm rfl rfl
    · refine (zJ_n rfl).trans ?_
      refine (zq_iln hm (pc' := 12) rfl rfl rfl rfl).trans ?_
      refine (zq_ic hm (pc' := 13) rfl rfl rfl rfl).trans ?_
      refine (zq_ile hm (pc' := 16) rfl rfl).trans (zite ?_ ?_)
      · refine (zJ_n rfl).trans ?_
        refine (zq_ic hm (pc' := 17) rfl rfl rfl rfl).trans ?_
        exact zq_ri hm rfl rfl
      · refine (zJ_n rfl).trans ?_
        refine (zq_aln hm (pc' := 19) rfl rfl rfl rfl).trans ?_
        refine (zq_gr hm (pc' := 22) rfl lay_0 rfl rfl).trans ?_
        refine (zJ_n rfl).trans ?_
        refine (zq_iln hm (pc' := 23) rfl rfl rfl rfl).trans ?_
        refine (zq_aa hm (pc' := 24) rfl rfl).trans (zaa_c (fun t3 => ?_))
        refine (zJ_n rfl).trans ?_
        refine (zq_ic hm (pc' := 25) rfl rfl rfl rfl).trans ?_
        refine (zq_vy1 hm (pc' := 28) rfl rfl rfl rfl rfl).trans (zbif_c (zCI_c rfl (fun r5 s4 => ?_)))
        refine (zJ_n rfl).trans ?_
        refine (zq_isn hm (ls' := [some (.inl (some 0)), some (.inr (.inl x1)), some (.inr (.inl x2)), some (.inr (.inl r5))]) (pc' := 29) rfl rfl rfl rfl).trans ?_
        refine (zq_iln hm (pc' := 30) rfl rfl rfl rfl).trans ?_
        refine (zq_zeq hm (pc' := 33) rfl rfl).trans (zite ?_ ?_)
        · refine (zJ_n rfl).trans ?_
          refine (zq_iln hm (pc' := 36) rfl rfl rfl rfl).trans ?_
          refine (zq_ic hm (pc' := 37) rfl rfl rfl rfl).trans ?_
          refine (zq_ine hm (pc' := 40) rfl rfl).trans (zite ?_ ?_)
          · refine (zJ_n rfl).trans ?_
            refine (zq_aln hm (pc' := 41) rfl rfl rfl rfl).trans ?_
            refine (zq_gr hm (pc' := 44) rfl lay_0 rfl rfl).trans ?_
            refine (zJ_n rfl).trans ?_
            refine (zq_aln hm (pc' := 45) rfl rfl rfl rfl).trans ?_
            refine (zq_gr hm (pc' := 48) rfl lay_0 rfl rfl).trans ?_
            refine (zJ_n rfl).trans ?_
            refine (zq_iln hm (pc' := 49) rfl rfl rfl rfl).trans ?_
            refine (zq_aa hm (pc' := 50) rfl rfl).trans (zaa_c (fun t8 => ?_))
            refine (zJ_n rfl).trans ?_
            refine (zq_v1 hm (pc' := 53) rfl rfl rfl (cls_24_6) rfl rfl).trans (zCI_c rfl (fun r10 s9 => ?_))
            refine (zJ_n rfl).trans ?_
            exact zq_ri hm rfl rfl
          · refine (zJ_n rfl).trans ?_
            refine (zq_aln hm (pc' := 55) rfl rfl rfl rfl).trans ?_
            refine (zq_gr hm (pc' := 58) rfl lay_0 rfl rfl).trans ?_
            refine (zJ_n rfl).trans ?_
            refine (zq_aln hm (pc' := 59) rfl rfl rfl rfl).trans ?_
            refine (zq_gr hm (pc' := 62) rfl lay_0 rfl rfl).trans ?_
            refine (zJ_n rfl).trans ?_
            refine (zq_iln hm (pc' := 63) rfl rfl rfl rfl).trans ?_
            refine (zq_aa hm (pc' := 64) rfl rfl).trans (zaa_c (fun t6 => ?_))
            refine (zJ_n rfl).trans ?_
            refine (zq_v0 hm (pc' := 67) rfl rfl rfl (cls_24_6) rfl rfl).trans (zCV_c rfl (fun s7 => ?_))
            refine (zJ_n rfl).trans ?_
            refine (zq_iln hm (pc' := 68) rfl rfl rfl rfl).trans ?_
            refine (zq_zne hm (pc' := 71) rfl rfl).trans (zite ?_ ?_)
            · refine (zJ_n rfl).trans ?_
              refine (zq_aln hm (pc' := 72) rfl rfl rfl rfl).trans ?_
              refine (zq_gr hm (pc' := 75) rfl lay_0 rfl rfl).trans ?_
              refine (zJ_n rfl).trans ?_
              refine (zq_gf hm (v := (s7 24 4)) (pc' := 78) rfl lay_24 rfl rfl rfl).trans ?_
              refine (zJ_n rfl).trans ?_
              refine (zq_goto hm rfl rfl).trans ?_
              exact zq_ri hm rfl rfl
            · refine (zJ_n rfl).trans ?_
              refine (zq_aln hm (pc' := 82) rfl rfl rfl rfl).trans ?_
              refine (zq_gr hm (pc' := 85) rfl lay_0 rfl rfl).trans ?_
              refine (zJ_n rfl).trans ?_
              refine (zq_gf hm (v := (s7 24 5)) (pc' := 88) rfl lay_24 rfl rfl rfl).trans ?_
              refine (zJ_n rfl).trans ?_
              exact zq_ri hm rfl rfl
        · refine (zJ_n rfl).trans ?_
          refine (zq_iln hm (pc' := 34) rfl rfl rfl rfl).trans ?_
          exact zq_ri hm rfl rfl
set_option maxRecDepth 100000 in
set_option maxHeartbeats 4000000 in
theorem e_X11_byTurns (d : Nat) (x1 : Int) (x2 : Int) (x3 : Int) (σ : zF) : zx (d + 1) 127 [.inl (some 0), .inr (.inl x1), .inr (.inl x2), .inr (.inl x3)] σ = (
zCI LAY (zx d 147 [.inr (.inl x1)] σ) fun r2 s1 =>
if r2 = 0 then (
zri (-1) s1) else (
if x2 < 1 then (
zri (-1) s1) else (
if (2 : Int) < x2 then (
zri (-1) s1) else (
if x3 < 0 then (
zri (-1) s1) else (
if (1 : Int) < x3 then (
zri (-1) s1) else (
if (10 : Int) = 0 then none else (
if (10 : Int) = 0 then none else (
zCV LAY (zx d 64 [.inl (some 24), .inr (.inl (zdiv x1 10)), .inr (.inl (zrem x1 10)), .inr (.inl x2)] s1) fun s3 =>
if x3 = 0 then (
zri (s3 24 4) s3) else (
zri (s3 24 5) s3))))))))) := by
  unfold zx
  have hm := zexec_m zX2 zMT d
  refine (zexec_eq mt_127 _ rfl (LAY, σ) 0).trans ?_
  show zrunL zX2 (zexec zX2 zMT d) K_X11_byTurns U_X11_byTurns 0 [some (.inl (some 0)), some (.inr (.inl x1)), some (.inr (.inl x2)), some (.inr (.inl x3))] [] (LAY, σ) = _
  refine (zq_iln hm (pc' := 1) rfl rfl rfl rfl).trans ?_
  refine (zq_s1 hm (pc' := 4) rfl rfl rfl rfl rfl rfl).trans (zCI_c rfl (fun r2 s1 => ?_))
  refine (zJ_n rfl).trans ?_
  refine (zq_zeq hm (pc' := 7) rfl rfl).trans (zite ?_ ?_)
  · refine (zJ_n rfl).trans ?_
    refine (zq_ic hm (pc' := 27) rfl rfl rfl rfl).trans ?_
    exact zq_ri hm rfl rfl
  · refine (zJ_n rfl).trans ?_
    refine (zq_iln hm (pc' := 8) rfl rfl rfl rfl).trans ?_
    refine (zq_ic hm (pc' := 9) rfl rfl rfl rfl).trans ?_
    refine (zq_ilt hm (pc' := 12) rfl rfl).trans (zite ?_ ?_)
    · refine (zJ_n rfl).trans ?_
      refine (zq_ic hm (pc' := 27) rfl rfl rfl rfl).trans ?_
      exact zq_ri hm rfl rfl
    · refine (zJ_n rfl).trans ?_
      refine (zq_iln hm (pc' := 13) rfl rfl rfl rfl).trans ?_
      refine (zq_ic hm (pc' := 14) rfl rfl rfl rfl).trans ?_
      refine (zq_igt hm (pc' := 17) rfl rfl).trans (zite ?_ ?_)
      · refine (zJ_n rfl).trans ?_
        refine (zq_ic hm (pc' := 27) rfl rfl rfl rfl).trans ?_
        exact zq_ri hm rfl rfl
      · refine (zJ_n rfl).trans ?_
        refine (zq_iln hm (pc' := 18) rfl rfl rfl rfl).trans ?_
        refine (zq_zlt hm (pc' := 21) rfl rfl).trans (zite ?_ ?_)
        · refine (zJ_n rfl).trans ?_
          refine (zq_ic hm (pc' := 27) rfl rfl rfl rfl).trans ?_
          exact zq_ri hm rfl rfl
        · refine (zJ_n rfl).trans ?_
          refine (zq_iln hm (pc' := 22) rfl rfl rfl rfl).trans ?_
          refine (zq_ic hm (pc' := 23) rfl rfl rfl rfl).trans ?_
          refine (zq_ile hm (pc' := 26) rfl rfl).trans (zite ?_ ?_)
          · refine (zJ_n rfl).trans ?_
            refine (zq_ic hm (pc' := 27) rfl rfl rfl rfl).trans ?_
            exact zq_ri hm rfl rfl
          · refine (zJ_n rfl).trans ?_
            refine (zq_aln hm (pc' := 29) rfl rfl rfl rfl).trans ?_
            refine (zq_gr hm (pc' := 32) rfl lay_0 rfl rfl).trans ?_
            refine (zJ_n rfl).trans ?_
            refine (zq_iln hm (pc' := 33) rfl rfl rfl rfl).trans ?_
            refine (zq_bi hm (pc' := 35) rfl rfl rfl rfl).trans ?_
            refine (zq_idiv hm (pc' := 36) rfl rfl).trans (zite rfl ?_)
            refine (zJ_n rfl).trans ?_
            refine (zq_iln hm (pc' := 37) rfl rfl rfl rfl).trans ?_
            refine (zq_bi hm (pc' := 39) rfl rfl rfl rfl).trans ?_
            refine (zq_irem hm (pc' := 40) rfl rfl).trans (zite rfl ?_)
            refine (zJ_n rfl).trans ?_
            refine (zq_iln hm (pc' := 41) rfl rfl rfl rfl).trans ?_
            refine (zq_v0 hm (pc' := 44) rfl rfl rfl (cls_24_6) rfl rfl).trans (zCV_c rfl (fun s3 => ?_))
            refine (zJ_n rfl).trans ?_
            refine (zq_iln hm (pc' := 45) rfl rfl rfl rfl).trans ?_
            refine (zq_zne hm (pc' := 48) rfl rfl).trans (zite ?_ ?_)
            · refine (zJ_n rfl).trans ?_
              refine (zq_aln hm (pc' := 49) rfl rfl rfl rfl).trans ?_
              refine (zq_gr hm (pc' := 52) rfl lay_0 rfl rfl).trans ?_
              refine (zJ_n rfl).trans ?_
              refine (zq_gf hm (v := (s3 24 4)) (pc' := 55) rfl lay_24 rfl rfl rfl).trans ?_
              refine (zJ_n rfl).trans ?_
              refine (zq_goto hm rfl rfl).trans ?_
              exact zq_ri hm rfl rfl
            · refine (zJ_n rfl).trans ?_
              refine (zq_aln hm (pc' := 59) rfl rfl rfl rfl).trans ?_
              refine (zq_gr hm (pc' := 62) rfl lay_0 rfl rfl).trans ?_
              refine (zJ_n rfl).trans ?_
              refine (zq_gf hm (v := (s3 24 5)) (pc' := 65) rfl lay_24 rfl rfl rfl).trans ?_
              refine (zJ_n rfl).trans ?_
              exact zq_ri hm rfl rfl
noncomputable def P_X11_drawn_64 (d : Nat) (y1 : Int) (y2 : Int) (y3 : Int) (y4 : Int) (y5 : Int) (y6 : Int) (σ : zF) : Option zR := zrunL zX2 (zexec zX2 zMT d) K_X11_drawn U_X11_drawn 64 [some (.inl (some 0)), some (.inr (.inl y1)), none, some (.inr (.inl y2)), some (.inr (.inl y3)), some (.inr (.inl y4)), some (.inr (.inl y5)), none] [.inr (.inl y6)] (LAY, σ)
set_option maxRecDepth 100000 in
set_option maxHeartbeats 4000000 in
theorem e_X11_drawn (d : Nat) (x1 : Int) (x2 : Int) (x3 : Int) (σ : zF) : zx (d + 1) 128 [.inl (some 0), .inr (.inl x1), .inr (.inl x2), .inr (.inl x3)] σ = (
if (10000 : Int) = 0 then none else (
if (100 : Int) = 0 then none else (
if (100 : Int) = 0 then none else (
if (100 : Int) = 0 then none else (
if x2 < 0 then (
P_X11_drawn_64 d x1 x3 (zdiv x2 10000) (zrem (zdiv x2 100) 100) (zrem x2 100) 0 σ) else (
if zdiv x2 10000 < 1 then (
P_X11_drawn_64 d x1 x3 (zdiv x2 10000) (zrem (zdiv x2 100) 100) (zrem x2 100) 0 σ) else (
if (30 : Int) < zdiv x2 10000 then (
P_X11_drawn_64 d x1 x3 (zdiv x2 10000) (zrem (zdiv x2 100) 100) (zrem x2 100) 0 σ) else (
if zrem (zdiv x2 100) 100 < 1 then (
P_X11_drawn_64 d x1 x3 (zdiv x2 10000) (zrem (zdiv x2 100) 100) (zrem x2 100) 0 σ) else (
if (40 : Int) < zrem (zdiv x2 100) 100 then (
P_X11_drawn_64 d x1 x3 (zdiv x2 10000) (zrem (zdiv x2 100) 100) (zrem x2 100) 0 σ) else (
if (12 : Int) < zrem x2 100 then (
P_X11_drawn_64 d x1 x3 (zdiv x2 10000) (zrem (zdiv x2 100) 100) (zrem x2 100) 0 σ) else (
P_X11_drawn_64 d x1 x3 (zdiv x2 10000) (zrem (zdiv x2 100) 100) (zrem x2 100) 1 σ))))))))))) := by
  unfold zx
  have hm := zexec_m zX2 zMT d
  refine (zexec_eq mt_128 _ rfl (LAY, σ) 0).trans ?_
  show zrunL zX2 (zexec zX2 zMT d) K_X11_drawn U_X11_drawn 0 [some (.inl (some 0)), some (.inr (.inl x1)), some (.inr (.inl x2)), some (.inr (.inl x3)), none, none, none, none] [] (LAY, σ) = _
  refine (zq_iln hm (pc' := 1) rfl rfl rfl rfl).trans ?_
  refine (zq_si hm (pc' := 4) rfl rfl rfl rfl).trans ?_
  refine (zq_idiv hm (pc' := 5) rfl rfl).trans (zite rfl ?_)
  refine (zJ_n rfl).trans ?_
  refine (zq_is hm (ls' := [some (.inl (some 0)), some (.inr (.inl x1)), some (.inr (.inl x2)), some (.inr (.inl x3)), some (.inr (.inl (zdiv x2 10000))), none, none, none]) (pc' := 7) rfl rfl rfl rfl).trans ?_
  refine (zq_iln hm (pc' := 8) rfl rfl rfl rfl).trans ?_
  refine (zq_bi hm (pc' := 10) rfl rfl rfl rfl).trans ?_
  refine (zq_idiv hm (pc' := 11) rfl rfl).trans (zite rfl ?_)
  refine (zJ_n rfl).trans ?_
  refine (zq_bi hm (pc' := 13) rfl rfl rfl rfl).trans ?_
  refine (zq_irem hm (pc' := 14) rfl rfl).trans (zite rfl ?_)
  refine (zJ_n rfl).trans ?_
  refine (zq_is hm (ls' := [some (.inl (some 0)), some (.inr (.inl x1)), some (.inr (.inl x2)), some (.inr (.inl x3)), some (.inr (.inl (zdiv x2 10000))), some (.inr (.inl (zrem (zdiv x2 100) 100))), none, none]) (pc' := 16) rfl rfl rfl rfl).trans ?_
  refine (zq_iln hm (pc' := 17) rfl rfl rfl rfl).trans ?_
  refine (zq_bi hm (pc' := 19) rfl rfl rfl rfl).trans ?_
  refine (zq_irem hm (pc' := 20) rfl rfl).trans (zite rfl ?_)
  refine (zJ_n rfl).trans ?_
  refine (zq_is hm (ls' := [some (.inl (some 0)), some (.inr (.inl x1)), some (.inr (.inl x2)), some (.inr (.inl x3)), some (.inr (.inl (zdiv x2 10000))), some (.inr (.inl (zrem (zdiv x2 100) 100))), some (.inr (.inl (zrem x2 100))), none]) (pc' := 22) rfl rfl rfl rfl).trans ?_
  refine (zq_iln hm (pc' := 23) rfl rfl rfl rfl).trans ?_
  refine (zq_zlt hm (pc' := 26) rfl rfl).trans (zite ?_ ?_)
  · refine (zJ_n rfl).trans ?_
    exact (zc_ic hm (pc' := 64) rfl rfl rfl rfl).trans rfl
  · refine (zJ_n rfl).trans ?_
    refine (zq_il hm (pc' := 28) rfl rfl rfl rfl).trans ?_
    refine (zq_ic hm (pc' := 29) rfl rfl rfl rfl).trans ?_
    refine (zq_ilt hm (pc' := 32) rfl rfl).trans (zite ?_ ?_)
    · refine (zJ_n rfl).trans ?_
      exact (zc_ic hm (pc' := 64) rfl rfl rfl rfl).trans rfl
    · refine (zJ_n rfl).trans ?_
      refine (zq_il hm (pc' := 34) rfl rfl rfl rfl).trans ?_
      refine (zq_bi hm (pc' := 36) rfl rfl rfl rfl).trans ?_
      refine (zq_igt hm (pc' := 39) rfl rfl).trans (zite ?_ ?_)
      · refine (zJ_n rfl).trans ?_
        exact (zc_ic hm (pc' := 64) rfl rfl rfl rfl).trans rfl
      · refine (zJ_n rfl).trans ?_
        refine (zq_il hm (pc' := 41) rfl rfl rfl rfl).trans ?_
        refine (zq_ic hm (pc' := 42) rfl rfl rfl rfl).trans ?_
        refine (zq_ilt hm (pc' := 45) rfl rfl).trans (zite ?_ ?_)
        · refine (zJ_n rfl).trans ?_
          exact (zc_ic hm (pc' := 64) rfl rfl rfl rfl).trans rfl
        · refine (zJ_n rfl).trans ?_
          refine (zq_il hm (pc' := 47) rfl rfl rfl rfl).trans ?_
          refine (zq_bi hm (pc' := 49) rfl rfl rfl rfl).trans ?_
          refine (zq_igt hm (pc' := 52) rfl rfl).trans (zite ?_ ?_)
          · refine (zJ_n rfl).trans ?_
            exact (zc_ic hm (pc' := 64) rfl rfl rfl rfl).trans rfl
          · refine (zJ_n rfl).trans ?_
            refine (zq_il hm (pc' := 54) rfl rfl rfl rfl).trans ?_
            refine (zq_bi hm (pc' := 56) rfl rfl rfl rfl).trans ?_
            refine (zq_igt hm (pc' := 59) rfl rfl).trans (zite ?_ ?_)
            · refine (zJ_n rfl).trans ?_
              exact (zc_ic hm (pc' := 64) rfl rfl rfl rfl).trans rfl
            · refine (zJ_n rfl).trans ?_
              refine (zq_ic hm (pc' := 60) rfl rfl rfl rfl).trans ?_
              exact (zc_goto hm rfl rfl).trans rfl
set_option maxRecDepth 100000 in
set_option maxHeartbeats 4000000 in
theorem e_X11_drawn_64 (d : Nat) (y1 : Int) (y2 : Int) (y3 : Int) (y4 : Int) (y5 : Int) (y6 : Int) (σ : zF) : P_X11_drawn_64 d y1 y2 y3 y4 y5 y6 σ = (
if y6 = 0 then (
zri (-2000000000) σ) else (
if y2 = (-1) then (
zCI LAY (zx d 66 [.inl (some 24), .inr (.inl y1), .inr (.inl y3), .inr (.inl y4), .inr (.inl y5), .inr (.inl y2)] σ) fun r102 s101 =>
zri r102 s101) else (
zCI LAY (zx d 16 [.inl (some 1), .inr (.inl y2)] σ) fun r104 s103 =>
if r104 = 0 then (
zri (-2000000000) s103) else (
zCI LAY (zx d 66 [.inl (some 24), .inr (.inl y1), .inr (.inl y3), .inr (.inl y4), .inr (.inl y5), .inr (.inl y2)] s103) fun r106 s105 =>
zri r106 s105)))) := by
  have hm := zexec_m zX2 zMT d
  show zrunL zX2 (zexec zX2 zMT d) K_X11_drawn U_X11_drawn 64 [some (.inl (some 0)), some (.inr (.inl y1)), none, some (.inr (.inl y2)), some (.inr (.inl y3)), some (.inr (.inl y4)), some (.inr (.inl y5)), none] [.inr (.inl y6)] (LAY, σ) = _
  refine (zq_is hm (ls' := [some (.inl (some 0)), some (.inr (.inl y1)), none, some (.inr (.inl y2)), some (.inr (.inl y3)), some (.inr (.inl y4)), some (.inr (.inl y5)), some (.inr (.inl y6))]) (pc' := 66) rfl rfl rfl rfl).trans ?_
  refine (zq_il hm (pc' := 68) rfl rfl rfl rfl).trans ?_
  refine (zq_zeq hm (pc' := 71) rfl rfl).trans (zite ?_ ?_)
  · refine (zJ_n rfl).trans ?_
    refine (zq_ld hm (pc' := 89) rfl rfl rfl rfl).trans ?_
    exact zq_ri hm rfl rfl
  · refine (zJ_n rfl).trans ?_
    refine (zq_iln hm (pc' := 72) rfl rfl rfl rfl).trans ?_
    refine (zq_ic hm (pc' := 73) rfl rfl rfl rfl).trans ?_
    refine (zq_ieq hm (pc' := 76) rfl rfl).trans (zite ?_ ?_)
    · refine (zJ_n rfl).trans ?_
      refine (zq_aln hm (pc' := 91) rfl rfl rfl rfl).trans ?_
      refine (zq_gr hm (pc' := 94) rfl lay_0 rfl rfl).trans ?_
      refine (zJ_n rfl).trans ?_
      refine (zq_iln hm (pc' := 95) rfl rfl rfl rfl).trans ?_
      refine (zq_il hm (pc' := 97) rfl rfl rfl rfl).trans ?_
      refine (zq_il hm (pc' := 99) rfl rfl rfl rfl).trans ?_
      refine (zq_il hm (pc' := 101) rfl rfl rfl rfl).trans ?_
      refine (zq_iln hm (pc' := 102) rfl rfl rfl rfl).trans ?_
      refine (zq_v1 hm (pc' := 105) rfl rfl rfl (cls_24_6) rfl rfl).trans (zCI_c rfl (fun r102 s101 => ?_))
      refine (zJ_n rfl).trans ?_
      exact zq_ri hm rfl rfl
    · refine (zJ_n rfl).trans ?_
      refine (zq_aln hm (pc' := 77) rfl rfl rfl rfl).trans ?_
      refine (zq_gr hm (pc' := 80) rfl lay_0 rfl rfl).trans ?_
      refine (zJ_n rfl).trans ?_
      refine (zq_iln hm (pc' := 81) rfl rfl rfl rfl).trans ?_
      refine (zq_v1 hm (pc' := 84) rfl rfl rfl (cls_1_3) rfl rfl).trans (zCI_c rfl (fun r104 s103 => ?_))
      refine (zJ_n rfl).trans ?_
      refine (zq_zne hm (pc' := 87) rfl rfl).trans (zite ?_ ?_)
      · refine (zJ_n rfl).trans ?_
        refine (zq_ld hm (pc' := 89) rfl rfl rfl rfl).trans ?_
        exact zq_ri hm rfl rfl
      · refine (zJ_n rfl).trans ?_
        refine (zq_aln hm (pc' := 91) rfl rfl rfl rfl).trans ?_
        refine (zq_gr hm (pc' := 94) rfl lay_0 rfl rfl).trans ?_
        refine (zJ_n rfl).trans ?_
        refine (zq_iln hm (pc' := 95) rfl rfl rfl rfl).trans ?_
        refine (zq_il hm (pc' := 97) rfl rfl rfl rfl).trans ?_
        refine (zq_il hm (pc' := 99) rfl rfl rfl rfl).trans ?_
        refine (zq_il hm (pc' := 101) rfl rfl rfl rfl).trans ?_
        refine (zq_iln hm (pc' := 102) rfl rfl rfl rfl).trans ?_
        refine (zq_v1 hm (pc' := 105) rfl rfl rfl (cls_24_6) rfl rfl).trans (zCI_c rfl (fun r106 s105 => ?_))
        refine (zJ_n rfl).trans ?_
        exact zq_ri hm rfl rfl
set_option maxRecDepth 100000 in
set_option maxHeartbeats 4000000 in
theorem e_X11_goes (d : Nat) (x1 : Int) (x2 : Int) (x3 : Int) (σ : zF) : zx (d + 1) 129 [.inl (some 0), .inr (.inl x1), .inr (.inl x2), .inr (.inl x3)] σ = (
zCI LAY (zx d 17 [.inl (some 1), .inr (.inl x1)] σ) fun r2 s1 =>
if r2 = 0 then (
zri (-1) s1) else (
zCI LAY (zx d 16 [.inl (some 1), .inr (.inl x2)] s1) fun r4 s3 =>
if r4 = 0 then (
zri (-1) s3) else (
if x3 < 0 then (
zri (-1) s3) else (
if (2 : Int) < x3 then (
zri (-1) s3) else (
if 0 ≤ x1 ∧ x1 < 4 then (
zCI LAY (zx d 23 [.inl (some 1), .inr (.inl x2), .inr (.inl (s3 8 x1))] s3) fun r6 s5 =>
if r6 = (-1) then (
zri (-5) s5) else (
if 0 ≤ x2 ∧ x2 < 12 then (
if (s5 7 x2) = 0 then (
zCV LAY (zx d 87 [.inl (some 17), .inr (.inl (-1))] s5) fun s7 =>
zCI LAY (zx d 90 [.inl (some 17), .inr (.inl x2)] s7) fun r9 s8 =>
if 0 ≤ x1 ∧ x1 < 4 then (
if 0 ≤ (0 : Int) ∧ 0 < 5 then (
if 0 ≤ (0 : Int) ∧ 0 < 5 then (
if 0 ≤ (1 : Int) ∧ 1 < 5 then (
if 0 ≤ (1 : Int) ∧ 1 < 5 then (
if x3 = 1 then (
if 0 ≤ (2 : Int) ∧ 2 < 5 then (
if 0 ≤ (2 : Int) ∧ 2 < 5 then (
zCV LAY (zx d 25 [.inl (some 1), .inl (some 5), .inr (.inl x2), .inr (.inl x3)] (zset (zset (zset (zset s8 8 x1 r6) 10 0 (zw ((s8 10 0) + 1))) 10 1 (zw ((s8 10 1) + r9))) 10 2 (zw ((s8 10 2) + 1)))) fun s12 =>
zri r9 s12) else (
none)) else (
none)) else (
if x3 = 2 then (
if 0 ≤ (3 : Int) ∧ 3 < 5 then (
if 0 ≤ (3 : Int) ∧ 3 < 5 then (
zCV LAY (zx d 25 [.inl (some 1), .inl (some 5), .inr (.inl x2), .inr (.inl x3)] (zset (zset (zset (zset s8 8 x1 r6) 10 0 (zw ((s8 10 0) + 1))) 10 1 (zw ((s8 10 1) + r9))) 10 3 (zw ((s8 10 3) + 1)))) fun s11 =>
zri r9 s11) else (
none)) else (
none)) else (
zCV LAY (zx d 25 [.inl (some 1), .inl (some 5), .inr (.inl x2), .inr (.inl x3)] (zset (zset (zset s8 8 x1 r6) 10 0 (zw ((s8 10 0) + 1))) 10 1 (zw ((s8 10 1) + r9)))) fun s10 =>
zri r9 s10))) else (
none)) else (
none)) else (
none)) else (
none)) else (
none)) else (
zri (-5) s5)) else (
none))) else (
none)))))) := by
  unfold zx
  have hm := zexec_m zX2 zMT d
  refine (zexec_eq mt_129 _ rfl (LAY, σ) 0).trans ?_
  show zrunL zX2 (zexec zX2 zMT d) K_X11_goes U_X11_goes 0 [some (.inl (some 0)), some (.inr (.inl x1)), some (.inr (.inl x2)), some (.inr (.inl x3)), none, none] [] (LAY, σ) = _
  refine (zq_aln hm (pc' := 1) rfl rfl rfl rfl).trans ?_
  refine (zq_gr hm (pc' := 4) rfl lay_0 rfl rfl).trans ?_
  refine (zJ_n rfl).trans ?_
  refine (zq_iln hm (pc' := 5) rfl rfl rfl rfl).trans ?_
  refine (zq_v1 hm (pc' := 8) rfl rfl rfl (cls_1_3) rfl rfl).trans (zCI_c rfl (fun r2 s1 => ?_))
  refine (zJ_n rfl).trans ?_
  refine (zq_zeq hm (pc' := 11) rfl rfl).trans (zite ?_ ?_)
  · refine (zJ_n rfl).trans ?_
    refine (zq_ic hm (pc' := 32) rfl rfl rfl rfl).trans ?_
    exact zq_ri hm rfl rfl
  · refine (zJ_n rfl).trans ?_
    refine (zq_aln hm (pc' := 12) rfl rfl rfl rfl).trans ?_
    refine (zq_gr hm (pc' := 15) rfl lay_0 rfl rfl).trans ?_
    refine (zJ_n rfl).trans ?_
    refine (zq_iln hm (pc' := 16) rfl rfl rfl rfl).trans ?_
    refine (zq_v1 hm (pc' := 19) rfl rfl rfl (cls_1_3) rfl rfl).trans (zCI_c rfl (fun r4 s3 => ?_))
    refine (zJ_n rfl).trans ?_
    refine (zq_zeq hm (pc' := 22) rfl rfl).trans (zite ?_ ?_)
    · refine (zJ_n rfl).trans ?_
      refine (zq_ic hm (pc' := 32) rfl rfl rfl rfl).trans ?_
      exact zq_ri hm rfl rfl
    · refine (zJ_n rfl).trans ?_
      refine (zq_iln hm (pc' := 23) rfl rfl rfl rfl).trans ?_
      refine (zq_zlt hm (pc' := 26) rfl rfl).trans (zite ?_ ?_)
      · refine (zJ_n rfl).trans ?_
        refine (zq_ic hm (pc' := 32) rfl rfl rfl rfl).trans ?_
        exact zq_ri hm rfl rfl
      · refine (zJ_n rfl).trans ?_
        refine (zq_iln hm (pc' := 27) rfl rfl rfl rfl).trans ?_
        refine (zq_ic hm (pc' := 28) rfl rfl rfl rfl).trans ?_
        refine (zq_ile hm (pc' := 31) rfl rfl).trans (zite ?_ ?_)
        · refine (zJ_n rfl).trans ?_
          refine (zq_ic hm (pc' := 32) rfl rfl rfl rfl).trans ?_
          exact zq_ri hm rfl rfl
        · refine (zJ_n rfl).trans ?_
          refine (zq_aln hm (pc' := 34) rfl rfl rfl rfl).trans ?_
          refine (zq_gr hm (pc' := 37) rfl lay_0 rfl rfl).trans ?_
          refine (zJ_n rfl).trans ?_
          refine (zq_iln hm (pc' := 38) rfl rfl rfl rfl).trans ?_
          refine (zq_aln hm (pc' := 39) rfl rfl rfl rfl).trans ?_
          refine (zq_gr hm (pc' := 42) rfl lay_0 rfl rfl).trans ?_
          refine (zJ_n rfl).trans ?_
          refine (zq_gr hm (pc' := 45) rfl lay_1 rfl rfl).trans ?_
          refine (zJ_n rfl).trans ?_
          refine (zq_iln hm (pc' := 46) rfl rfl rfl rfl).trans ?_
          refine (zq_ia hm (v := (s3 8 x1)) (pc' := 47) rfl lay_8 rfl rfl).trans (zite ?_ rfl)
          refine (zJ_n rfl).trans ?_
          refine (zq_v1 hm (pc' := 50) rfl rfl rfl (cls_1_3) rfl rfl).trans (zCI_c rfl (fun r6 s5 => ?_))
          refine (zJ_n rfl).trans ?_
          refine (zq_is hm (ls' := [some (.inl (some 0)), some (.inr (.inl x1)), some (.inr (.inl x2)), some (.inr (.inl x3)), some (.inr (.inl r6)), none]) (pc' := 52) rfl rfl rfl rfl).trans ?_
          refine (zq_il hm (pc' := 54) rfl rfl rfl rfl).trans ?_
          refine (zq_ic hm (pc' := 55) rfl rfl rfl rfl).trans ?_
          refine (zq_ieq hm (pc' := 58) rfl rfl).trans (zite ?_ ?_)
          · refine (zJ_n rfl).trans ?_
            refine (zq_bi hm (pc' := 72) rfl rfl rfl rfl).trans ?_
            exact zq_ri hm rfl rfl
          · refine (zJ_n rfl).trans ?_
            refine (zq_aln hm (pc' := 59) rfl rfl rfl rfl).trans ?_
            refine (zq_gr hm (pc' := 62) rfl lay_0 rfl rfl).trans ?_
            refine (zJ_n rfl).trans ?_
            refine (zq_gr hm (pc' := 65) rfl lay_1 rfl rfl).trans ?_
            refine (zJ_n rfl).trans ?_
            refine (zq_iln hm (pc' := 66) rfl rfl rfl rfl).trans ?_
            refine (zq_ia hm (v := (s5 7 x2)) (pc' := 67) rfl lay_7 rfl rfl).trans (zite ?_ rfl)
            refine (zJ_n rfl).trans ?_
            refine (zq_zeq hm (pc' := 70) rfl rfl).trans (zite ?_ ?_)
            · refine (zJ_n rfl).trans ?_
              refine (zq_aln hm (pc' := 74) rfl rfl rfl rfl).trans ?_
              refine (zq_gr hm (pc' := 77) rfl lay_0 rfl rfl).trans ?_
              refine (zJ_n rfl).trans ?_
              refine (zq_ic hm (pc' := 78) rfl rfl rfl rfl).trans ?_
              refine (zq_v0 hm (pc' := 81) rfl rfl rfl (cls_17_9) rfl rfl).trans (zCV_c rfl (fun s7 => ?_))
              refine (zJ_n rfl).trans ?_
              refine (zq_aln hm (pc' := 82) rfl rfl rfl rfl).trans ?_
              refine (zq_gr hm (pc' := 85) rfl lay_0 rfl rfl).trans ?_
              refine (zJ_n rfl).trans ?_
              refine (zq_iln hm (pc' := 86) rfl rfl rfl rfl).trans ?_
              refine (zq_v1 hm (pc' := 89) rfl rfl rfl (cls_17_9) rfl rfl).trans (zCI_c rfl (fun r9 s8 => ?_))
              refine (zJ_n rfl).trans ?_
              refine (zq_is hm (ls' := [some (.inl (some 0)), some (.inr (.inl x1)), some (.inr (.inl x2)), some (.inr (.inl x3)), some (.inr (.inl r6)), some (.inr (.inl r9))]) (pc' := 91) rfl rfl rfl rfl).trans ?_
              refine (zq_aln hm (pc' := 92) rfl rfl rfl rfl).trans ?_
              refine (zq_gr hm (pc' := 95) rfl lay_0 rfl rfl).trans ?_
              refine (zJ_n rfl).trans ?_
              refine (zq_gr hm (pc' := 98) rfl lay_1 rfl rfl).trans ?_
              refine (zJ_n rfl).trans ?_
              refine (zq_iln hm (pc' := 99) rfl rfl rfl rfl).trans ?_
              refine (zq_il hm (pc' := 101) rfl rfl rfl rfl).trans ?_
              refine (zq_ist hm (pc' := 102) rfl lay_8 rfl).trans (zite ?_ rfl)
              refine (zJ_n rfl).trans ?_
              refine (zq_aln hm (pc' := 103) rfl rfl rfl rfl).trans ?_
              refine (zq_gr hm (pc' := 106) rfl lay_0 rfl rfl).trans ?_
              refine (zJ_n rfl).trans ?_
              refine (zq_gr hm (pc' := 109) rfl lay_1 rfl rfl).trans ?_
              refine (zJ_n rfl).trans ?_
              refine (zq_ic hm (pc' := 110) rfl rfl rfl rfl).trans ?_
              refine (zq_dup2 hm (pc' := 111) rfl rfl rfl rfl rfl).trans ?_
              refine (zq_ia hm (v := (s8 10 0)) (pc' := 112) rfl lay_10 (zsn rfl) rfl).trans (zite ?_ rfl)
              refine (zJ_n rfl).trans ?_
              refine (zq_ic hm (pc' := 113) rfl rfl rfl rfl).trans ?_
              refine (zq_iadd hm (pc' := 114) rfl rfl rfl).trans ?_
              refine (zq_ist hm (pc' := 115) rfl lay_10 rfl).trans (zite ?_ rfl)
              refine (zJ_n rfl).trans ?_
              refine (zq_aln hm (pc' := 116) rfl rfl rfl rfl).trans ?_
              refine (zq_gr hm (pc' := 119) rfl lay_0 rfl rfl).trans ?_
              refine (zJ_n rfl).trans ?_
              refine (zq_gr hm (pc' := 122) rfl lay_1 rfl rfl).trans ?_
              refine (zJ_n rfl).trans ?_
              refine (zq_ic hm (pc' := 123) rfl rfl rfl rfl).trans ?_
              refine (zq_dup2 hm (pc' := 124) rfl rfl rfl rfl rfl).trans ?_
              refine (zq_ia hm (v := (s8 10 1)) (pc' := 125) rfl lay_10 ((zsi (by decide)).trans (zsn rfl)) rfl).trans (zite ?_ rfl)
              refine (zJ_n rfl).trans ?_
              refine (zq_il hm (pc' := 127) rfl rfl rfl rfl).trans ?_
              refine (zq_iadd hm (pc' := 128) rfl rfl rfl).trans ?_
              refine (zq_ist hm (pc' := 129) rfl lay_10 rfl).trans (zite ?_ rfl)
              refine (zJ_n rfl).trans ?_
              refine (zq_iln hm (pc' := 130) rfl rfl rfl rfl).trans ?_
              refine (zq_ic hm (pc' := 131) rfl rfl rfl rfl).trans ?_
              refine (zq_ine hm (pc' := 134) rfl rfl).trans (zite ?_ ?_)
              · refine (zJ_n rfl).trans ?_
                refine (zq_aln hm (pc' := 135) rfl rfl rfl rfl).trans ?_
                refine (zq_gr hm (pc' := 138) rfl lay_0 rfl rfl).trans ?_
                refine (zJ_n rfl).trans ?_
                refine (zq_gr hm (pc' := 141) rfl lay_1 rfl rfl).trans ?_
                refine (zJ_n rfl).trans ?_
                refine (zq_ic hm (pc' := 142) rfl rfl rfl rfl).trans ?_
                refine (zq_dup2 hm (pc' := 143) rfl rfl rfl rfl rfl).trans ?_
                refine (zq_ia hm (v := (s8 10 2)) (pc' := 144) rfl lay_10 ((zsi (by decide)).trans ((zsi (by decide)).trans (zsn rfl))) rfl).trans (zite ?_ rfl)
                refine (zJ_n rfl).trans ?_
                refine (zq_ic hm (pc' := 145) rfl rfl rfl rfl).trans ?_
                refine (zq_iadd hm (pc' := 146) rfl rfl rfl).trans ?_
                refine (zq_ist hm (pc' := 147) rfl lay_10 rfl).trans (zite ?_ rfl)
                refine (zJ_n rfl).trans ?_
                refine (zq_goto hm rfl rfl).trans ?_
                refine (zq_aln hm (pc' := 169) rfl rfl rfl rfl).trans ?_
                refine (zq_gr hm (pc' := 172) rfl lay_0 rfl rfl).trans ?_
                refine (zJ_n rfl).trans ?_
                refine (zq_aln hm (pc' := 173) rfl rfl rfl rfl).trans ?_
                refine (zq_gr hm (pc' := 176) rfl lay_0 rfl rfl).trans ?_
                refine (zJ_n rfl).trans ?_
                refine (zq_gr hm (pc' := 179) rfl lay_1 rfl rfl).trans ?_
                refine (zJ_n rfl).trans ?_
                refine (zq_iln hm (pc' := 180) rfl rfl rfl rfl).trans ?_
                refine (zq_iln hm (pc' := 181) rfl rfl rfl rfl).trans ?_
                refine (zq_v0 hm (pc' := 184) rfl rfl rfl (cls_1_3) rfl rfl).trans (zCV_c rfl (fun s12 => ?_))
                refine (zJ_n rfl).trans ?_
                refine (zq_il hm (pc' := 186) rfl rfl rfl rfl).trans ?_
                exact zq_ri hm rfl rfl
              · refine (zJ_n rfl).trans ?_
                refine (zq_iln hm (pc' := 151) rfl rfl rfl rfl).trans ?_
                refine (zq_ic hm (pc' := 152) rfl rfl rfl rfl).trans ?_
                refine (zq_ine hm (pc' := 155) rfl rfl).trans (zite ?_ ?_)
                · refine (zJ_n rfl).trans ?_
                  refine (zq_aln hm (pc' := 156) rfl rfl rfl rfl).trans ?_
                  refine (zq_gr hm (pc' := 159) rfl lay_0 rfl rfl).trans ?_
                  refine (zJ_n rfl).trans ?_
                  refine (zq_gr hm (pc' := 162) rfl lay_1 rfl rfl).trans ?_
                  refine (zJ_n rfl).trans ?_
                  refine (zq_ic hm (pc' := 163) rfl rfl rfl rfl).trans ?_
                  refine (zq_dup2 hm (pc' := 164) rfl rfl rfl rfl rfl).trans ?_
                  refine (zq_ia hm (v := (s8 10 3)) (pc' := 165) rfl lay_10 ((zsi (by decide)).trans ((zsi (by decide)).trans (zsn rfl))) rfl).trans (zite ?_ rfl)
                  refine (zJ_n rfl).trans ?_
                  refine (zq_ic hm (pc' := 166) rfl rfl rfl rfl).trans ?_
                  refine (zq_iadd hm (pc' := 167) rfl rfl rfl).trans ?_
                  refine (zq_ist hm (pc' := 168) rfl lay_10 rfl).trans (zite ?_ rfl)
                  refine (zJ_n rfl).trans ?_
                  refine (zq_aln hm (pc' := 169) rfl rfl rfl rfl).trans ?_
                  refine (zq_gr hm (pc' := 172) rfl lay_0 rfl rfl).trans ?_
                  refine (zJ_n rfl).trans ?_
                  refine (zq_aln hm (pc' := 173) rfl rfl rfl rfl).trans ?_
                  refine (zq_gr hm (pc' := 176) rfl lay_0 rfl rfl).trans ?_
                  refine (zJ_n rfl).trans ?_
                  refine (zq_gr hm (pc' := 179) rfl lay_1 rfl rfl).trans ?_
                  refine (zJ_n rfl).trans ?_
                  refine (zq_iln hm (pc' := 180) rfl rfl rfl rfl).trans ?_
                  refine (zq_iln hm (pc' := 181) rfl rfl rfl rfl).trans ?_
                  refine (zq_v0 hm (pc' := 184) rfl rfl rfl (cls_1_3) rfl rfl).trans (zCV_c rfl (fun s11 => ?_))
                  refine (zJ_n rfl).trans ?_
                  refine (zq_il hm (pc' := 186) rfl rfl rfl rfl).trans ?_
                  exact zq_ri hm rfl rfl
                · refine (zJ_n rfl).trans ?_
                  refine (zq_aln hm (pc' := 169) rfl rfl rfl rfl).trans ?_
                  refine (zq_gr hm (pc' := 172) rfl lay_0 rfl rfl).trans ?_
                  refine (zJ_n rfl).trans ?_
                  refine (zq_aln hm (pc' := 173) rfl rfl rfl rfl).trans ?_
                  refine (zq_gr hm (pc' := 176) rfl lay_0 rfl rfl).trans ?_
                  refine (zJ_n rfl).trans ?_
                  refine (zq_gr hm (pc' := 179) rfl lay_1 rfl rfl).trans ?_
                  refine (zJ_n rfl).trans ?_
                  refine (zq_iln hm (pc' := 180) rfl rfl rfl rfl).trans ?_
                  refine (zq_iln hm (pc' := 181) rfl rfl rfl rfl).trans ?_
                  refine (zq_v0 hm (pc' := 184) rfl rfl rfl (cls_1_3) rfl rfl).trans (zCV_c rfl (fun s10 => ?_))
                  refine (zJ_n rfl).trans ?_
                  refine (zq_il hm (pc' := 186) rfl rfl rfl rfl).trans ?_
                  exact zq_ri hm rfl rfl
            · refine (zJ_n rfl).trans ?_
              refine (zq_bi hm (pc' := 72) rfl rfl rfl rfl).trans ?_
              exact zq_ri hm rfl rfl
set_option maxRecDepth 100000 in
set_option maxHeartbeats 4000000 in
theorem e_X11_night (d : Nat) (σ : zF) : zx (d + 1) 130 [.inl (some 0)] σ = (
zCV LAY (zx d 26 [.inl (some 1)] σ) fun s1 =>
if 0 ≤ (4 : Int) ∧ 4 < 5 then (
if 0 ≤ (4 : Int) ∧ 4 < 5 then (
if 0 ≤ (4 : Int) ∧ 4 < 5 then (
zri (zw ((s1 10 4) + 1)) (zset s1 10 4 (zw ((s1 10 4) + 1)))) else (
none)) else (
none)) else (
none)) := by
  unfold zx
  have hm := zexec_m zX2 zMT d
  refine (zexec_eq mt_130 _ rfl (LAY, σ) 0).trans ?_
  show zrunL zX2 (zexec zX2 zMT d) K_X11_night U_X11_night 0 [some (.inl (some 0))] [] (LAY, σ) = _
  refine (zq_aln hm (pc' := 1) rfl rfl rfl rfl).trans ?_
  refine (zq_gr hm (pc' := 4) rfl lay_0 rfl rfl).trans ?_
  refine (zJ_n rfl).trans ?_
  refine (zq_v0 hm (pc' := 7) rfl rfl rfl (cls_1_3) rfl rfl).trans (zCV_c rfl (fun s1 => ?_))
  refine (zJ_n rfl).trans ?_
  refine (zq_aln hm (pc' := 8) rfl rfl rfl rfl).trans ?_
  refine (zq_gr hm (pc' := 11) rfl lay_0 rfl rfl).trans ?_
  refine (zJ_n rfl).trans ?_
  refine (zq_gr hm (pc' := 14) rfl lay_1 rfl rfl).trans ?_
  refine (zJ_n rfl).trans ?_
  refine (zq_ic hm (pc' := 15) rfl rfl rfl rfl).trans ?_
  refine (zq_dup2 hm (pc' := 16) rfl rfl rfl rfl rfl).trans ?_
  refine (zq_ia hm (v := (s1 10 4)) (pc' := 17) rfl lay_10 rfl rfl).trans (zite ?_ rfl)
  refine (zJ_n rfl).trans ?_
  refine (zq_ic hm (pc' := 18) rfl rfl rfl rfl).trans ?_
  refine (zq_iadd hm (pc' := 19) rfl rfl rfl).trans ?_
  refine (zq_ist hm (pc' := 20) rfl lay_10 rfl).trans (zite ?_ rfl)
  refine (zJ_n rfl).trans ?_
  refine (zq_aln hm (pc' := 21) rfl rfl rfl rfl).trans ?_
  refine (zq_gr hm (pc' := 24) rfl lay_0 rfl rfl).trans ?_
  refine (zJ_n rfl).trans ?_
  refine (zq_gr hm (pc' := 27) rfl lay_1 rfl rfl).trans ?_
  refine (zJ_n rfl).trans ?_
  refine (zq_ic hm (pc' := 28) rfl rfl rfl rfl).trans ?_
  refine (zq_ia hm (v := zw ((s1 10 4) + 1)) (pc' := 29) rfl lay_10 zsh rfl).trans (zite ?_ rfl)
  refine (zJ_n rfl).trans ?_
  exact zq_ri hm rfl rfl
set_option maxRecDepth 100000 in
set_option maxHeartbeats 4000000 in
theorem e_X11_led (d : Nat) (x1 : Int) (σ : zF) : zx (d + 1) 131 [.inl (some 0), .inr (.inl x1)] σ = (
if x1 < 0 then (
zri (-1) σ) else (
if x1 < 5 then (
if 0 ≤ x1 ∧ x1 < 5 then (
zri (σ 10 x1) σ) else (
none)) else (
zri (-1) σ))) := by
  unfold zx
  have hm := zexec_m zX2 zMT d
  refine (zexec_eq mt_131 _ rfl (LAY, σ) 0).trans ?_
  show zrunL zX2 (zexec zX2 zMT d) K_X11_led U_X11_led 0 [some (.inl (some 0)), some (.inr (.inl x1))] [] (LAY, σ) = _
  refine (zq_iln hm (pc' := 1) rfl rfl rfl rfl).trans ?_
  refine (zq_zlt hm (pc' := 4) rfl rfl).trans (zite ?_ ?_)
  · refine (zJ_n rfl).trans ?_
    refine (zq_ic hm (pc' := 22) rfl rfl rfl rfl).trans ?_
    exact zq_ri hm rfl rfl
  · refine (zJ_n rfl).trans ?_
    refine (zq_iln hm (pc' := 5) rfl rfl rfl rfl).trans ?_
    refine (zq_ic hm (pc' := 6) rfl rfl rfl rfl).trans ?_
    refine (zq_ige hm (pc' := 9) rfl rfl).trans (zite ?_ ?_)
    · refine (zJ_n rfl).trans ?_
      refine (zq_aln hm (pc' := 10) rfl rfl rfl rfl).trans ?_
      refine (zq_gr hm (pc' := 13) rfl lay_0 rfl rfl).trans ?_
      refine (zJ_n rfl).trans ?_
      refine (zq_gr hm (pc' := 16) rfl lay_1 rfl rfl).trans ?_
      refine (zJ_n rfl).trans ?_
      refine (zq_iln hm (pc' := 17) rfl rfl rfl rfl).trans ?_
      refine (zq_ia hm (v := (σ 10 x1)) (pc' := 18) rfl lay_10 rfl rfl).trans (zite ?_ rfl)
      refine (zJ_n rfl).trans ?_
      refine (zq_goto hm rfl rfl).trans ?_
      exact zq_ri hm rfl rfl
    · refine (zJ_n rfl).trans ?_
      refine (zq_ic hm (pc' := 22) rfl rfl rfl rfl).trans ?_
      exact zq_ri hm rfl rfl
set_option maxRecDepth 100000 in
set_option maxHeartbeats 4000000 in
theorem e_X11_image (d : Nat) (σ : zF) : zx (d + 1) 132 [.inl (some 0)] σ = (
zCV LAY (zx d 6 [.inl (some 37)] σ) fun s1 =>
if 0 ≤ (0 : Int) ∧ 0 < 5 then (
zri (s1 10 0) s1) else (
none)) := by
  unfold zx
  have hm := zexec_m zX2 zMT d
  refine (zexec_eq mt_132 _ rfl (LAY, σ) 0).trans ?_
  show zrunL zX2 (zexec zX2 zMT d) K_X11_image U_X11_image 0 [some (.inl (some 0))] [] (LAY, σ) = _
  refine (zq_aln hm (pc' := 1) rfl rfl rfl rfl).trans ?_
  refine (zq_gr hm (pc' := 4) rfl lay_0 rfl rfl).trans ?_
  refine (zJ_n rfl).trans ?_
  refine (zq_v0 hm (pc' := 7) rfl rfl rfl (cls_37_1) rfl rfl).trans (zCV_c rfl (fun s1 => ?_))
  refine (zJ_n rfl).trans ?_
  refine (zq_aln hm (pc' := 8) rfl rfl rfl rfl).trans ?_
  refine (zq_gr hm (pc' := 11) rfl lay_0 rfl rfl).trans ?_
  refine (zJ_n rfl).trans ?_
  refine (zq_gr hm (pc' := 14) rfl lay_1 rfl rfl).trans ?_
  refine (zJ_n rfl).trans ?_
  refine (zq_ic hm (pc' := 15) rfl rfl rfl rfl).trans ?_
  refine (zq_ia hm (v := (s1 10 0)) (pc' := 16) rfl lay_10 rfl rfl).trans (zite ?_ rfl)
  refine (zJ_n rfl).trans ?_
  exact zq_ri hm rfl rfl
set_option maxRecDepth 100000 in
set_option maxHeartbeats 4000000 in
theorem e_X11_back (d : Nat) (σ : zF) : zx (d + 1) 133 [.inl (some 0)] σ = (
if (σ 37 1) = 0 then (
zri (-5) σ) else (
zCV LAY (zx d 7 [.inl (some 37)] σ) fun s1 =>
if 0 ≤ (0 : Int) ∧ 0 < 5 then (
zri (s1 10 0) s1) else (
none))) := by
  unfold zx
  have hm := zexec_m zX2 zMT d
  refine (zexec_eq mt_133 _ rfl (LAY, σ) 0).trans ?_
  show zrunL zX2 (zexec zX2 zMT d) K_X11_back U_X11_back 0 [some (.inl (some 0))] [] (LAY, σ) = _
  refine (zq_aln hm (pc' := 1) rfl rfl rfl rfl).trans ?_
  refine (zq_gr hm (pc' := 4) rfl lay_0 rfl rfl).trans ?_
  refine (zJ_n rfl).trans ?_
  refine (zq_gf hm (v := (σ 37 1)) (pc' := 7) rfl lay_37 rfl rfl rfl).trans ?_
  refine (zJ_n rfl).trans ?_
  refine (zq_zne hm (pc' := 10) rfl rfl).trans (zite ?_ ?_)
  · refine (zJ_n rfl).trans ?_
    refine (zq_bi hm (pc' := 12) rfl rfl rfl rfl).trans ?_
    exact zq_ri hm rfl rfl
  · refine (zJ_n rfl).trans ?_
    refine (zq_aln hm (pc' := 14) rfl rfl rfl rfl).trans ?_
    refine (zq_gr hm (pc' := 17) rfl lay_0 rfl rfl).trans ?_
    refine (zJ_n rfl).trans ?_
    refine (zq_v0 hm (pc' := 20) rfl rfl rfl (cls_37_1) rfl rfl).trans (zCV_c rfl (fun s1 => ?_))
    refine (zJ_n rfl).trans ?_
    refine (zq_aln hm (pc' := 21) rfl rfl rfl rfl).trans ?_
    refine (zq_gr hm (pc' := 24) rfl lay_0 rfl rfl).trans ?_
    refine (zJ_n rfl).trans ?_
    refine (zq_gr hm (pc' := 27) rfl lay_1 rfl rfl).trans ?_
    refine (zJ_n rfl).trans ?_
    refine (zq_ic hm (pc' := 28) rfl rfl rfl rfl).trans ?_
    refine (zq_ia hm (v := (s1 10 0)) (pc' := 29) rfl lay_10 rfl rfl).trans (zite ?_ rfl)
    refine (zJ_n rfl).trans ?_
    exact zq_ri hm rfl rfl
set_option maxRecDepth 100000 in
set_option maxHeartbeats 4000000 in
theorem e_X11_undo (d : Nat) (σ : zF) : zx (d + 1) 134 [.inl (some 0)] σ = (
if (σ 32 5) = 0 then (
zri (-5) σ) else (
zCV LAY (zx d 3 [.inl (some 32)] σ) fun s1 =>
zri (s1 32 5) s1)) := by
  unfold zx
  have hm := zexec_m zX2 zMT d
  refine (zexec_eq mt_134 _ rfl (LAY, σ) 0).trans ?_
  show zrunL zX2 (zexec zX2 zMT d) K_X11_undo U_X11_undo 0 [some (.inl (some 0))] [] (LAY, σ) = _
  refine (zq_aln hm (pc' := 1) rfl rfl rfl rfl).trans ?_
  refine (zq_gr hm (pc' := 4) rfl lay_0 rfl rfl).trans ?_
  refine (zJ_n rfl).trans ?_
  refine (zq_gf hm (v := (σ 32 5)) (pc' := 7) rfl lay_32 rfl rfl rfl).trans ?_
  refine (zJ_n rfl).trans ?_
  refine (zq_zne hm (pc' := 10) rfl rfl).trans (zite ?_ ?_)
  · refine (zJ_n rfl).trans ?_
    refine (zq_bi hm (pc' := 12) rfl rfl rfl rfl).trans ?_
    exact zq_ri hm rfl rfl
  · refine (zJ_n rfl).trans ?_
    refine (zq_aln hm (pc' := 14) rfl rfl rfl rfl).trans ?_
    refine (zq_gr hm (pc' := 17) rfl lay_0 rfl rfl).trans ?_
    refine (zJ_n rfl).trans ?_
    refine (zq_v0 hm (pc' := 20) rfl rfl rfl (cls_32_0) rfl rfl).trans (zCV_c rfl (fun s1 => ?_))
    refine (zJ_n rfl).trans ?_
    refine (zq_aln hm (pc' := 21) rfl rfl rfl rfl).trans ?_
    refine (zq_gr hm (pc' := 24) rfl lay_0 rfl rfl).trans ?_
    refine (zJ_n rfl).trans ?_
    refine (zq_gf hm (v := (s1 32 5)) (pc' := 27) rfl lay_32 rfl rfl rfl).trans ?_
    refine (zJ_n rfl).trans ?_
    exact zq_ri hm rfl rfl
set_option maxRecDepth 100000 in
set_option maxHeartbeats 4000000 in
theorem e_X11_redo (d : Nat) (σ : zF) : zx (d + 1) 135 [.inl (some 0)] σ = (
if (σ 32 6) = (σ 32 5) then (
zri (-5) σ) else (
zCV LAY (zx d 4 [.inl (some 32)] σ) fun s1 =>
zri (zw ((s1 32 6) - (s1 32 5))) s1)) := by
  unfold zx
  have hm := zexec_m zX2 zMT d
  refine (zexec_eq mt_135 _ rfl (LAY, σ) 0).trans ?_
  show zrunL zX2 (zexec zX2 zMT d) K_X11_redo U_X11_redo 0 [some (.inl (some 0))] [] (LAY, σ) = _
  refine (zq_aln hm (pc' := 1) rfl rfl rfl rfl).trans ?_
  refine (zq_gr hm (pc' := 4) rfl lay_0 rfl rfl).trans ?_
  refine (zJ_n rfl).trans ?_
  refine (zq_gf hm (v := (σ 32 6)) (pc' := 7) rfl lay_32 rfl rfl rfl).trans ?_
  refine (zJ_n rfl).trans ?_
  refine (zq_aln hm (pc' := 8) rfl rfl rfl rfl).trans ?_
  refine (zq_gr hm (pc' := 11) rfl lay_0 rfl rfl).trans ?_
  refine (zJ_n rfl).trans ?_
  refine (zq_gf hm (v := (σ 32 5)) (pc' := 14) rfl lay_32 rfl rfl rfl).trans ?_
  refine (zJ_n rfl).trans ?_
  refine (zq_ine hm (pc' := 17) rfl rfl).trans (zite ?_ ?_)
  · refine (zJ_n rfl).trans ?_
    refine (zq_bi hm (pc' := 19) rfl rfl rfl rfl).trans ?_
    exact zq_ri hm rfl rfl
  · refine (zJ_n rfl).trans ?_
    refine (zq_aln hm (pc' := 21) rfl rfl rfl rfl).trans ?_
    refine (zq_gr hm (pc' := 24) rfl lay_0 rfl rfl).trans ?_
    refine (zJ_n rfl).trans ?_
    refine (zq_v0 hm (pc' := 27) rfl rfl rfl (cls_32_0) rfl rfl).trans (zCV_c rfl (fun s1 => ?_))
    refine (zJ_n rfl).trans ?_
    refine (zq_aln hm (pc' := 28) rfl rfl rfl rfl).trans ?_
    refine (zq_gr hm (pc' := 31) rfl lay_0 rfl rfl).trans ?_
    refine (zJ_n rfl).trans ?_
    refine (zq_gf hm (v := (s1 32 6)) (pc' := 34) rfl lay_32 rfl rfl rfl).trans ?_
    refine (zJ_n rfl).trans ?_
    refine (zq_aln hm (pc' := 35) rfl rfl rfl rfl).trans ?_
    refine (zq_gr hm (pc' := 38) rfl lay_0 rfl rfl).trans ?_
    refine (zJ_n rfl).trans ?_
    refine (zq_gf hm (v := (s1 32 5)) (pc' := 41) rfl lay_32 rfl rfl rfl).trans ?_
    refine (zJ_n rfl).trans ?_
    refine (zq_isub hm (pc' := 42) rfl rfl rfl).trans ?_
    exact zq_ri hm rfl rfl
set_option maxRecDepth 100000 in
set_option maxHeartbeats 4000000 in
theorem e_X11_body (d : Nat) (x1 : Int) (σ : zF) : zx (d + 1) 136 [.inl (some 0), .inr (.inl x1)] σ = (
zCI LAY (zx d 151 [.inr (.inl x1)] σ) fun r2 s1 =>
if r2 = 0 then (
zri (-1) s1) else (
zCI LAY (zx d 78 [.inl (some 41), .inr (.inl x1)] s1) fun r4 s3 =>
zri r4 s3)) := by
  unfold zx
  have hm := zexec_m zX2 zMT d
  refine (zexec_eq mt_136 _ rfl (LAY, σ) 0).trans ?_
  show zrunL zX2 (zexec zX2 zMT d) K_X11_body U_X11_body 0 [some (.inl (some 0)), some (.inr (.inl x1))] [] (LAY, σ) = _
  refine (zq_iln hm (pc' := 1) rfl rfl rfl rfl).trans ?_
  refine (zq_s1 hm (pc' := 4) rfl rfl rfl rfl rfl rfl).trans (zCI_c rfl (fun r2 s1 => ?_))
  refine (zJ_n rfl).trans ?_
  refine (zq_zeq hm (pc' := 7) rfl rfl).trans (zite ?_ ?_)
  · refine (zJ_n rfl).trans ?_
    refine (zq_ic hm (pc' := 19) rfl rfl rfl rfl).trans ?_
    exact zq_ri hm rfl rfl
  · refine (zJ_n rfl).trans ?_
    refine (zq_aln hm (pc' := 8) rfl rfl rfl rfl).trans ?_
    refine (zq_gr hm (pc' := 11) rfl lay_0 rfl rfl).trans ?_
    refine (zJ_n rfl).trans ?_
    refine (zq_iln hm (pc' := 12) rfl rfl rfl rfl).trans ?_
    refine (zq_v1 hm (pc' := 15) rfl rfl rfl (cls_41_8) rfl rfl).trans (zCI_c rfl (fun r4 s3 => ?_))
    refine (zJ_n rfl).trans ?_
    refine (zq_goto hm rfl rfl).trans ?_
    exact zq_ri hm rfl rfl
set_option maxRecDepth 100000 in
set_option maxHeartbeats 4000000 in
theorem e_X11_act (d : Nat) (x1 : Int) (x2 : Int) (x3 : Int) (σ : zF) : zx (d + 1) 137 [.inl (some 0), .inr (.inl x1), .inr (.inl x2), .inr (.inl x3)] σ = (
zCI LAY (zx d 82 [.inl (some 41), .inr (.inl x1), .inr (.inl x2), .inr (.inl x3)] σ) fun r2 s1 =>
zri r2 s1) := by
  unfold zx
  have hm := zexec_m zX2 zMT d
  refine (zexec_eq mt_137 _ rfl (LAY, σ) 0).trans ?_
  show zrunL zX2 (zexec zX2 zMT d) K_X11_act U_X11_act 0 [some (.inl (some 0)), some (.inr (.inl x1)), some (.inr (.inl x2)), some (.inr (.inl x3))] [] (LAY, σ) = _
  refine (zq_aln hm (pc' := 1) rfl rfl rfl rfl).trans ?_
  refine (zq_gr hm (pc' := 4) rfl lay_0 rfl rfl).trans ?_
  refine (zJ_n rfl).trans ?_
  refine (zq_iln hm (pc' := 5) rfl rfl rfl rfl).trans ?_
  refine (zq_iln hm (pc' := 6) rfl rfl rfl rfl).trans ?_
  refine (zq_iln hm (pc' := 7) rfl rfl rfl rfl).trans ?_
  refine (zq_v1 hm (pc' := 10) rfl rfl rfl (cls_41_8) rfl rfl).trans (zCI_c rfl (fun r2 s1 => ?_))
  refine (zJ_n rfl).trans ?_
  exact zq_ri hm rfl rfl
set_option maxRecDepth 100000 in
set_option maxHeartbeats 4000000 in
theorem e_X11_trace (d : Nat) (x1 : Int) (σ : zF) : zx (d + 1) 138 [.inl (some 0), .inr (.inl x1)] σ = (
if x1 < 0 then (
zri (-1) σ) else (
zCI LAY (zx d 81 [.inl (some 41)] σ) fun r2 s1 =>
if x1 < r2 then (
if 0 ≤ x1 ∧ x1 < 24 then (
zri (s1 43 x1) s1) else (
none)) else (
zri (-1) s1))) := by
  unfold zx
  have hm := zexec_m zX2 zMT d
  refine (zexec_eq mt_138 _ rfl (LAY, σ) 0).trans ?_
  show zrunL zX2 (zexec zX2 zMT d) K_X11_trace U_X11_trace 0 [some (.inl (some 0)), some (.inr (.inl x1))] [] (LAY, σ) = _
  refine (zq_iln hm (pc' := 1) rfl rfl rfl rfl).trans ?_
  refine (zq_zlt hm (pc' := 4) rfl rfl).trans (zite ?_ ?_)
  · refine (zJ_n rfl).trans ?_
    refine (zq_ic hm (pc' := 28) rfl rfl rfl rfl).trans ?_
    exact zq_ri hm rfl rfl
  · refine (zJ_n rfl).trans ?_
    refine (zq_iln hm (pc' := 5) rfl rfl rfl rfl).trans ?_
    refine (zq_aln hm (pc' := 6) rfl rfl rfl rfl).trans ?_
    refine (zq_gr hm (pc' := 9) rfl lay_0 rfl rfl).trans ?_
    refine (zJ_n rfl).trans ?_
    refine (zq_v1 hm (pc' := 12) rfl rfl rfl (cls_41_8) rfl rfl).trans (zCI_c rfl (fun r2 s1 => ?_))
    refine (zJ_n rfl).trans ?_
    refine (zq_ige hm (pc' := 15) rfl rfl).trans (zite ?_ ?_)
    · refine (zJ_n rfl).trans ?_
      refine (zq_aln hm (pc' := 16) rfl rfl rfl rfl).trans ?_
      refine (zq_gr hm (pc' := 19) rfl lay_0 rfl rfl).trans ?_
      refine (zJ_n rfl).trans ?_
      refine (zq_gr hm (pc' := 22) rfl lay_41 rfl rfl).trans ?_
      refine (zJ_n rfl).trans ?_
      refine (zq_iln hm (pc' := 23) rfl rfl rfl rfl).trans ?_
      refine (zq_ia hm (v := (s1 43 x1)) (pc' := 24) rfl lay_43 rfl rfl).trans (zite ?_ rfl)
      refine (zJ_n rfl).trans ?_
      refine (zq_goto hm rfl rfl).trans ?_
      exact zq_ri hm rfl rfl
    · refine (zJ_n rfl).trans ?_
      refine (zq_ic hm (pc' := 28) rfl rfl rfl rfl).trans ?_
      exact zq_ri hm rfl rfl
set_option maxRecDepth 100000 in
set_option maxHeartbeats 4000000 in
theorem e_X11_keep (d : Nat) (x1 : Int) (x2 : Int) (σ : zF) : zx (d + 1) 139 [.inl (some 0), .inr (.inl x1), .inr (.inl x2)] σ = (
zCI LAY (zx d 150 [.inr (.inl x1)] σ) fun r2 s1 =>
if r2 = 0 then (
zri (-1) s1) else (
if x2 = (-1) then (
zaa LAY 44 x1 (fun t3 =>
bif zcls LAY t3 7 && true then (
zCV LAY (zx d 71 [.inl (some t3), .inr (.inl x2)] s1) fun s4 =>
zri 1 s4) else none)) else (
zCI LAY (zx d 79 [.inl (some 41), .inr (.inl x2)] s1) fun r6 s5 =>
if r6 = 0 then (
zri (-1) s5) else (
zaa LAY 44 x1 (fun t7 =>
bif zcls LAY t7 7 && true then (
zCV LAY (zx d 71 [.inl (some t7), .inr (.inl x2)] s5) fun s8 =>
zri 1 s8) else none))))) := by
  unfold zx
  have hm := zexec_m zX2 zMT d
  refine (zexec_eq mt_139 _ rfl (LAY, σ) 0).trans ?_
  show zrunL zX2 (zexec zX2 zMT d) K_X11_keep U_X11_keep 0 [some (.inl (some 0)), some (.inr (.inl x1)), some (.inr (.inl x2))] [] (LAY, σ) = _
  refine (zq_iln hm (pc' := 1) rfl rfl rfl rfl).trans ?_
  refine (zq_s1 hm (pc' := 4) rfl rfl rfl rfl rfl rfl).trans (zCI_c rfl (fun r2 s1 => ?_))
  refine (zJ_n rfl).trans ?_
  refine (zq_zeq hm (pc' := 7) rfl rfl).trans (zite ?_ ?_)
  · refine (zJ_n rfl).trans ?_
    refine (zq_ic hm (pc' := 24) rfl rfl rfl rfl).trans ?_
    exact zq_ri hm rfl rfl
  · refine (zJ_n rfl).trans ?_
    refine (zq_iln hm (pc' := 8) rfl rfl rfl rfl).trans ?_
    refine (zq_ic hm (pc' := 9) rfl rfl rfl rfl).trans ?_
    refine (zq_ieq hm (pc' := 12) rfl rfl).trans (zite ?_ ?_)
    · refine (zJ_n rfl).trans ?_
      refine (zq_aln hm (pc' := 26) rfl rfl rfl rfl).trans ?_
      refine (zq_gr hm (pc' := 29) rfl lay_0 rfl rfl).trans ?_
      refine (zJ_n rfl).trans ?_
      refine (zq_iln hm (pc' := 30) rfl rfl rfl rfl).trans ?_
      refine (zq_aa hm (pc' := 31) rfl rfl).trans (zaa_c (fun t3 => ?_))
      refine (zJ_n rfl).trans ?_
      refine (zq_iln hm (pc' := 32) rfl rfl rfl rfl).trans ?_
      refine (zq_vy0 hm (pc' := 35) rfl rfl rfl rfl rfl).trans (zbif_c (zCV_c rfl (fun s4 => ?_)))
      refine (zJ_n rfl).trans ?_
      refine (zq_ic hm (pc' := 36) rfl rfl rfl rfl).trans ?_
      exact zq_ri hm rfl rfl
    · refine (zJ_n rfl).trans ?_
      refine (zq_aln hm (pc' := 13) rfl rfl rfl rfl).trans ?_
      refine (zq_gr hm (pc' := 16) rfl lay_0 rfl rfl).trans ?_
      refine (zJ_n rfl).trans ?_
      refine (zq_iln hm (pc' := 17) rfl rfl rfl rfl).trans ?_
      refine (zq_v1 hm (pc' := 20) rfl rfl rfl (cls_41_8) rfl rfl).trans (zCI_c rfl (fun r6 s5 => ?_))
      refine (zJ_n rfl).trans ?_
      refine (zq_zne hm (pc' := 23) rfl rfl).trans (zite ?_ ?_)
      · refine (zJ_n rfl).trans ?_
        refine (zq_ic hm (pc' := 24) rfl rfl rfl rfl).trans ?_
        exact zq_ri hm rfl rfl
      · refine (zJ_n rfl).trans ?_
        refine (zq_aln hm (pc' := 26) rfl rfl rfl rfl).trans ?_
        refine (zq_gr hm (pc' := 29) rfl lay_0 rfl rfl).trans ?_
        refine (zJ_n rfl).trans ?_
        refine (zq_iln hm (pc' := 30) rfl rfl rfl rfl).trans ?_
        refine (zq_aa hm (pc' := 31) rfl rfl).trans (zaa_c (fun t7 => ?_))
        refine (zJ_n rfl).trans ?_
        refine (zq_iln hm (pc' := 32) rfl rfl rfl rfl).trans ?_
        refine (zq_vy0 hm (pc' := 35) rfl rfl rfl rfl rfl).trans (zbif_c (zCV_c rfl (fun s8 => ?_)))
        refine (zJ_n rfl).trans ?_
        refine (zq_ic hm (pc' := 36) rfl rfl rfl rfl).trans ?_
        exact zq_ri hm rfl rfl
set_option maxRecDepth 100000 in
set_option maxHeartbeats 4000000 in
theorem e_X11_row (d : Nat) (x1 : Int) (x2 : Int) (x3 : Int) (σ : zF) : zx (d + 1) 140 [.inl (some 0), .inr (.inl x1), .inr (.inl x2), .inr (.inl x3)] σ = (
zCI LAY (zx d 150 [.inr (.inl x1)] σ) fun r2 s1 =>
if r2 = 0 then (
zri (-1) s1) else (
if x2 < 0 then (
zri (-1) s1) else (
if (4 : Int) < x2 then (
zri (-1) s1) else (
if (60 : Int) < x3 then (
zri (-1) s1) else (
if x3 < 0 then (
zri (-14) s1) else (
zaa LAY 44 x1 (fun t3 =>
bif zcls LAY t3 7 && true then (
zCV LAY (zx d 72 [.inl (some t3), .inr (.inl x2), .inr (.inl x3)] s1) fun s4 =>
zri 1 s4) else none))))))) := by
  unfold zx
  have hm := zexec_m zX2 zMT d
  refine (zexec_eq mt_140 _ rfl (LAY, σ) 0).trans ?_
  show zrunL zX2 (zexec zX2 zMT d) K_X11_row U_X11_row 0 [some (.inl (some 0)), some (.inr (.inl x1)), some (.inr (.inl x2)), some (.inr (.inl x3))] [] (LAY, σ) = _
  refine (zq_iln hm (pc' := 1) rfl rfl rfl rfl).trans ?_
  refine (zq_s1 hm (pc' := 4) rfl rfl rfl rfl rfl rfl).trans (zCI_c rfl (fun r2 s1 => ?_))
  refine (zJ_n rfl).trans ?_
  refine (zq_zeq hm (pc' := 7) rfl rfl).trans (zite ?_ ?_)
  · refine (zJ_n rfl).trans ?_
    refine (zq_ic hm (pc' := 23) rfl rfl rfl rfl).trans ?_
    exact zq_ri hm rfl rfl
  · refine (zJ_n rfl).trans ?_
    refine (zq_iln hm (pc' := 8) rfl rfl rfl rfl).trans ?_
    refine (zq_zlt hm (pc' := 11) rfl rfl).trans (zite ?_ ?_)
    · refine (zJ_n rfl).trans ?_
      refine (zq_ic hm (pc' := 23) rfl rfl rfl rfl).trans ?_
      exact zq_ri hm rfl rfl
    · refine (zJ_n rfl).trans ?_
      refine (zq_iln hm (pc' := 12) rfl rfl rfl rfl).trans ?_
      refine (zq_ic hm (pc' := 13) rfl rfl rfl rfl).trans ?_
      refine (zq_igt hm (pc' := 16) rfl rfl).trans (zite ?_ ?_)
      · refine (zJ_n rfl).trans ?_
        refine (zq_ic hm (pc' := 23) rfl rfl rfl rfl).trans ?_
        exact zq_ri hm rfl rfl
      · refine (zJ_n rfl).trans ?_
        refine (zq_iln hm (pc' := 17) rfl rfl rfl rfl).trans ?_
        refine (zq_bi hm (pc' := 19) rfl rfl rfl rfl).trans ?_
        refine (zq_ile hm (pc' := 22) rfl rfl).trans (zite ?_ ?_)
        · refine (zJ_n rfl).trans ?_
          refine (zq_ic hm (pc' := 23) rfl rfl rfl rfl).trans ?_
          exact zq_ri hm rfl rfl
        · refine (zJ_n rfl).trans ?_
          refine (zq_iln hm (pc' := 25) rfl rfl rfl rfl).trans ?_
          refine (zq_zge hm (pc' := 28) rfl rfl).trans (zite ?_ ?_)
          · refine (zJ_n rfl).trans ?_
            refine (zq_bi hm (pc' := 30) rfl rfl rfl rfl).trans ?_
            exact zq_ri hm rfl rfl
          · refine (zJ_n rfl).trans ?_
            refine (zq_aln hm (pc' := 32) rfl rfl rfl rfl).trans ?_
            refine (zq_gr hm (pc' := 35) rfl lay_0 rfl rfl).trans ?_
            refine (zJ_n rfl).trans ?_
            refine (zq_iln hm (pc' := 36) rfl rfl rfl rfl).trans ?_
            refine (zq_aa hm (pc' := 37) rfl rfl).trans (zaa_c (fun t3 => ?_))
            refine (zJ_n rfl).trans ?_
            refine (zq_iln hm (pc' := 38) rfl rfl rfl rfl).trans ?_
            refine (zq_iln hm (pc' := 39) rfl rfl rfl rfl).trans ?_
            refine (zq_vy0 hm (pc' := 42) rfl rfl rfl rfl rfl).trans (zbif_c (zCV_c rfl (fun s4 => ?_)))
            refine (zJ_n rfl).trans ?_
            refine (zq_ic hm (pc' := 43) rfl rfl rfl rfl).trans ?_
            exact zq_ri hm rfl rfl
set_option maxRecDepth 100000 in
set_option maxHeartbeats 4000000 in
theorem e_X11_put (d : Nat) (x1 : Int) (x2 : Int) (x3 : Int) (σ : zF) : zx (d + 1) 141 [.inl (some 0), .inr (.inl x1), .inr (.inl x2), .inr (.inr x3)] σ = (
zCI LAY (zx d 150 [.inr (.inl x1)] σ) fun r2 s1 =>
if r2 = 0 then (
zri (-1) s1) else (
zaa LAY 44 x1 (fun t3 =>
bif zcls LAY t3 7 && true then (
zCI LAY (zx d 74 [.inl (some t3), .inr (.inl x2)] s1) fun r5 s4 =>
if r5 = 0 then (
zfld LAY t3 7 3 none (fun t6 =>
bif zcls LAY t3 7 && true then (
zCJ LAY (zx d 76 [.inl (some t3), .inr (.inr x3)] s4) fun r8 s7 =>
zar LAY 1 t6 x2 (
zri 1 (zset s7 t6 x2 r8))) else none)) else (
zri r5 s4)) else none))) := by
  unfold zx
  have hm := zexec_m zX2 zMT d
  refine (zexec_eq mt_141 _ rfl (LAY, σ) 0).trans ?_
  show zrunL zX2 (zexec zX2 zMT d) K_X11_put U_X11_put 0 [some (.inl (some 0)), some (.inr (.inl x1)), some (.inr (.inl x2)), some (.inr (.inr x3)), none, none, none] [] (LAY, σ) = _
  refine (zq_iln hm (pc' := 1) rfl rfl rfl rfl).trans ?_
  refine (zq_s1 hm (pc' := 4) rfl rfl rfl rfl rfl rfl).trans (zCI_c rfl (fun r2 s1 => ?_))
  refine (zJ_n rfl).trans ?_
  refine (zq_zne hm (pc' := 7) rfl rfl).trans (zite ?_ ?_)
  · refine (zJ_n rfl).trans ?_
    refine (zq_ic hm (pc' := 8) rfl rfl rfl rfl).trans ?_
    exact zq_ri hm rfl rfl
  · refine (zJ_n rfl).trans ?_
    refine (zq_aln hm (pc' := 10) rfl rfl rfl rfl).trans ?_
    refine (zq_gr hm (pc' := 13) rfl lay_0 rfl rfl).trans ?_
    refine (zJ_n rfl).trans ?_
    refine (zq_iln hm (pc' := 14) rfl rfl rfl rfl).trans ?_
    refine (zq_aa hm (pc' := 15) rfl rfl).trans (zaa_c (fun t3 => ?_))
    refine (zJ_n rfl).trans ?_
    refine (zq_as hm (ls' := [some (.inl (some 0)), some (.inr (.inl x1)), some (.inr (.inl x2)), some (.inr (.inr x3)), none, some (.inl (some t3)), none]) (pc' := 17) rfl rfl rfl rfl).trans ?_
    refine (zq_al hm (pc' := 19) rfl rfl rfl rfl).trans ?_
    refine (zq_iln hm (pc' := 20) rfl rfl rfl rfl).trans ?_
    refine (zq_vy1 hm (pc' := 23) rfl rfl rfl rfl rfl).trans (zbif_c (zCI_c rfl (fun r5 s4 => ?_)))
    refine (zJ_n rfl).trans ?_
    refine (zq_is hm (ls' := [some (.inl (some 0)), some (.inr (.inl x1)), some (.inr (.inl x2)), some (.inr (.inr x3)), none, some (.inl (some t3)), some (.inr (.inl r5))]) (pc' := 25) rfl rfl rfl rfl).trans ?_
    refine (zq_il hm (pc' := 27) rfl rfl rfl rfl).trans ?_
    refine (zq_zeq hm (pc' := 30) rfl rfl).trans (zite ?_ ?_)
    · refine (zJ_n rfl).trans ?_
      refine (zq_al hm (pc' := 35) rfl rfl rfl rfl).trans ?_
      refine (zq_gs hm (pc' := 38) rfl rfl).trans (zfld_r lay_ref_7_3 (fun t6 => ?_))
      refine (zJ_n rfl).trans ?_
      refine (zq_iln hm (pc' := 39) rfl rfl rfl rfl).trans ?_
      refine (zq_al hm (pc' := 41) rfl rfl rfl rfl).trans ?_
      refine (zq_lln hm (pc' := 42) rfl rfl rfl rfl).trans ?_
      refine (zq_vy2 hm (pc' := 45) rfl rfl rfl rfl rfl).trans (zbif_c (zCJ_c rfl (fun r8 s7 => ?_)))
      refine (zJ_n rfl).trans ?_
      refine (zq_lsy hm (pc' := 46) rfl rfl).trans (zar_c ?_)
      refine (zJ_n rfl).trans ?_
      refine (zq_ic hm (pc' := 47) rfl rfl rfl rfl).trans ?_
      exact zq_ri hm rfl rfl
    · refine (zJ_n rfl).trans ?_
      refine (zq_il hm (pc' := 32) rfl rfl rfl rfl).trans ?_
      exact zq_ri hm rfl rfl
set_option maxRecDepth 100000 in
set_option maxHeartbeats 4000000 in
theorem e_X11_element (d : Nat) (x1 : Int) (x2 : Int) (σ : zF) : zx (d + 1) 142 [.inl (some 0), .inr (.inl x1), .inr (.inl x2)] σ = (
zCI LAY (zx d 150 [.inr (.inl x1)] σ) fun r2 s1 =>
if r2 = 0 then (
zrj (-9223372036854775808) s1) else (
zaa LAY 44 x1 (fun t3 =>
bif zcls LAY t3 7 && true then (
zCI LAY (zx d 74 [.inl (some t3), .inr (.inl x2)] s1) fun r5 s4 =>
if r5 = 0 then (
zaa LAY 44 x1 (fun t6 =>
zfld LAY t6 7 3 none (fun t7 =>
zar LAY 1 t7 x2 (
zrj (s4 t7 x2) s4)))) else (
zrj (-9223372036854775808) s4)) else none))) := by
  unfold zx
  have hm := zexec_m zX2 zMT d
  refine (zexec_eq mt_142 _ rfl (LAY, σ) 0).trans ?_
  show zrunL zX2 (zexec zX2 zMT d) K_X11_element U_X11_element 0 [some (.inl (some 0)), some (.inr (.inl x1)), some (.inr (.inl x2))] [] (LAY, σ) = _
  refine (zq_iln hm (pc' := 1) rfl rfl rfl rfl).trans ?_
  refine (zq_s1 hm (pc' := 4) rfl rfl rfl rfl rfl rfl).trans (zCI_c rfl (fun r2 s1 => ?_))
  refine (zJ_n rfl).trans ?_
  refine (zq_zeq hm (pc' := 7) rfl rfl).trans (zite ?_ ?_)
  · refine (zJ_n rfl).trans ?_
    refine (zq_l2 hm (pc' := 23) rfl rfl rfl rfl).trans ?_
    exact zq_rj hm rfl
  · refine (zJ_n rfl).trans ?_
    refine (zq_aln hm (pc' := 8) rfl rfl rfl rfl).trans ?_
    refine (zq_gr hm (pc' := 11) rfl lay_0 rfl rfl).trans ?_
    refine (zJ_n rfl).trans ?_
    refine (zq_iln hm (pc' := 12) rfl rfl rfl rfl).trans ?_
    refine (zq_aa hm (pc' := 13) rfl rfl).trans (zaa_c (fun t3 => ?_))
    refine (zJ_n rfl).trans ?_
    refine (zq_iln hm (pc' := 14) rfl rfl rfl rfl).trans ?_
    refine (zq_vy1 hm (pc' := 17) rfl rfl rfl rfl rfl).trans (zbif_c (zCI_c rfl (fun r5 s4 => ?_)))
    refine (zJ_n rfl).trans ?_
    refine (zq_zeq hm (pc' := 20) rfl rfl).trans (zite ?_ ?_)
    · refine (zJ_n rfl).trans ?_
      refine (zq_aln hm (pc' := 25) rfl rfl rfl rfl).trans ?_
      refine (zq_gr hm (pc' := 28) rfl lay_0 rfl rfl).trans ?_
      refine (zJ_n rfl).trans ?_
      refine (zq_iln hm (pc' := 29) rfl rfl rfl rfl).trans ?_
      refine (zq_aa hm (pc' := 30) rfl rfl).trans (zaa_c (fun t6 => ?_))
      refine (zJ_n rfl).trans ?_
      refine (zq_gs hm (pc' := 33) rfl rfl).trans (zfld_r lay_ref_7_3 (fun t7 => ?_))
      refine (zJ_n rfl).trans ?_
      refine (zq_iln hm (pc' := 34) rfl rfl rfl rfl).trans ?_
      refine (zq_lay hm (pc' := 35) rfl rfl).trans (zar_c ?_)
      refine (zJ_n rfl).trans ?_
      exact zq_rj hm rfl
    · refine (zJ_n rfl).trans ?_
      refine (zq_l2 hm (pc' := 23) rfl rfl rfl rfl).trans ?_
      exact zq_rj hm rfl
set_option maxRecDepth 100000 in
set_option maxHeartbeats 4000000 in
theorem e_X11_shift (d : Nat) (x1 : Int) (x2 : Int) (x3 : Int) (x4 : Int) (x5 : Int) (σ : zF) : zx (d + 1) 143 [.inl (some 0), .inr (.inl x1), .inr (.inl x2), .inr (.inl x3), .inr (.inl x4), .inr (.inl x5)] σ = (
zCI LAY (zx d 150 [.inr (.inl x1)] σ) fun r2 s1 =>
if r2 = 0 then (
zri (-1) s1) else (
zCI LAY (zx d 150 [.inr (.inl x3)] s1) fun r4 s3 =>
if r4 = 0 then (
zri (-1) s3) else (
zaa LAY 44 x1 (fun t5 =>
zaa LAY 44 x3 (fun t6 =>
bif zcls LAY t5 7 && true then (
zCI LAY (zx d 70 [.inl (some t5)] s3) fun r8 s7 =>
if r8 = 0 then (
bif zcls LAY t6 7 && true then (
zCI LAY (zx d 70 [.inl (some t6)] s7) fun r10 s9 =>
if r10 = 0 then (
bif zcls LAY t5 7 && true then (
zCI LAY (zx d 68 [.inl (some t5)] s9) fun r12 s11 =>
if r12 = 0 then (
zri (-12) s11) else (
zfld LAY t5 7 0 (
bif zcls LAY t6 7 && true then (
zCI LAY (zx d 69 [.inl (some t6), .inr (.inl (s11 t5 0))] s11) fun r14 s13 =>
if r14 = 0 then (
zri (-12) s13) else (
bif zcls LAY t5 7 && true then (
zCI LAY (zx d 75 [.inl (some t5), .inr (.inl x2), .inr (.inl x5)] s13) fun r16 s15 =>
if r16 = 0 then (
zri (-13) s15) else (
bif zcls LAY t6 7 && true then (
zCI LAY (zx d 75 [.inl (some t6), .inr (.inl x4), .inr (.inl x5)] s15) fun r18 s17 =>
if r18 = 0 then (
zri (-13) s17) else (
zfld LAY t5 7 3 none (fun t19 =>
zfld LAY t6 7 3 none (fun t20 =>
zarcK LAY t19 t20 x5 x2 x4 (
zri x5 (zcpy s17 t19 x2 t20 x4 x5)))))) else none)) else none)) else none) (fun _ => none))) else none) else (
zri (-11) s9)) else none) else (
zri (-11) s7)) else none))))) := by
  unfold zx
  have hm := zexec_m zX2 zMT d
  refine (zexec_eq mt_143 _ rfl (LAY, σ) 0).trans ?_
  show zrunL zX2 (zexec zX2 zMT d) K_X11_shift U_X11_shift 0 [some (.inl (some 0)), some (.inr (.inl x1)), some (.inr (.inl x2)), some (.inr (.inl x3)), some (.inr (.inl x4)), some (.inr (.inl x5)), none, none] [] (LAY, σ) = _
  refine (zq_iln hm (pc' := 1) rfl rfl rfl rfl).trans ?_
  refine (zq_s1 hm (pc' := 4) rfl rfl rfl rfl rfl rfl).trans (zCI_c rfl (fun r2 s1 => ?_))
  refine (zJ_n rfl).trans ?_
  refine (zq_zeq hm (pc' := 7) rfl rfl).trans (zite ?_ ?_)
  · refine (zJ_n rfl).trans ?_
    refine (zq_ic hm (pc' := 15) rfl rfl rfl rfl).trans ?_
    exact zq_ri hm rfl rfl
  · refine (zJ_n rfl).trans ?_
    refine (zq_iln hm (pc' := 8) rfl rfl rfl rfl).trans ?_
    refine (zq_s1 hm (pc' := 11) rfl rfl rfl rfl rfl rfl).trans (zCI_c rfl (fun r4 s3 => ?_))
    refine (zJ_n rfl).trans ?_
    refine (zq_zne hm (pc' := 14) rfl rfl).trans (zite ?_ ?_)
    · refine (zJ_n rfl).trans ?_
      refine (zq_ic hm (pc' := 15) rfl rfl rfl rfl).trans ?_
      exact zq_ri hm rfl rfl
    · refine (zJ_n rfl).trans ?_
      refine (zq_aln hm (pc' := 17) rfl rfl rfl rfl).trans ?_
      refine (zq_gr hm (pc' := 20) rfl lay_0 rfl rfl).trans ?_
      refine (zJ_n rfl).trans ?_
      refine (zq_iln hm (pc' := 21) rfl rfl rfl rfl).trans ?_
      refine (zq_aa hm (pc' := 22) rfl rfl).trans (zaa_c (fun t5 => ?_))
      refine (zJ_n rfl).trans ?_
      refine (zq_as hm (ls' := [some (.inl (some 0)), some (.inr (.inl x1)), some (.inr (.inl x2)), some (.inr (.inl x3)), some (.inr (.inl x4)), some (.inr (.inl x5)), some (.inl (some t5)), none]) (pc' := 24) rfl rfl rfl rfl).trans ?_
      refine (zq_aln hm (pc' := 25) rfl rfl rfl rfl).trans ?_
      refine (zq_gr hm (pc' := 28) rfl lay_0 rfl rfl).trans ?_
      refine (zJ_n rfl).trans ?_
      refine (zq_iln hm (pc' := 29) rfl rfl rfl rfl).trans ?_
      refine (zq_aa hm (pc' := 30) rfl rfl).trans (zaa_c (fun t6 => ?_))
      refine (zJ_n rfl).trans ?_
      refine (zq_as hm (ls' := [some (.inl (some 0)), some (.inr (.inl x1)), some (.inr (.inl x2)), some (.inr (.inl x3)), some (.inr (.inl x4)), some (.inr (.inl x5)), some (.inl (some t5)), some (.inl (some t6))]) (pc' := 32) rfl rfl rfl rfl).trans ?_
      refine (zq_al hm (pc' := 34) rfl rfl rfl rfl).trans ?_
      refine (zq_vy1 hm (pc' := 37) rfl rfl rfl rfl rfl).trans (zbif_c (zCI_c rfl (fun r8 s7 => ?_)))
      refine (zJ_n rfl).trans ?_
      refine (zq_zne hm (pc' := 40) rfl rfl).trans (zite ?_ ?_)
      · refine (zJ_n rfl).trans ?_
        refine (zq_al hm (pc' := 42) rfl rfl rfl rfl).trans ?_
        refine (zq_vy1 hm (pc' := 45) rfl rfl rfl rfl rfl).trans (zbif_c (zCI_c rfl (fun r10 s9 => ?_)))
        refine (zJ_n rfl).trans ?_
        refine (zq_zeq hm (pc' := 48) rfl rfl).trans (zite ?_ ?_)
        · refine (zJ_n rfl).trans ?_
          refine (zq_al hm (pc' := 53) rfl rfl rfl rfl).trans ?_
          refine (zq_vy1 hm (pc' := 56) rfl rfl rfl rfl rfl).trans (zbif_c (zCI_c rfl (fun r12 s11 => ?_)))
          refine (zJ_n rfl).trans ?_
          refine (zq_zeq hm (pc' := 59) rfl rfl).trans (zite ?_ ?_)
          · refine (zJ_n rfl).trans ?_
            refine (zq_bi hm (pc' := 74) rfl rfl rfl rfl).trans ?_
            exact zq_ri hm rfl rfl
          · refine (zJ_n rfl).trans ?_
            refine (zq_al hm (pc' := 61) rfl rfl rfl rfl).trans ?_
            refine (zq_al hm (pc' := 63) rfl rfl rfl rfl).trans ?_
            refine (zq_gs hm (pc' := 66) rfl rfl).trans (zfld_i lay_num_7_0 ?_)
            refine (zJ_n rfl).trans ?_
            refine (zq_vy1 hm (pc' := 69) rfl rfl rfl rfl rfl).trans (zbif_c (zCI_c rfl (fun r14 s13 => ?_)))
            refine (zJ_n rfl).trans ?_
            refine (zq_zne hm (pc' := 72) rfl rfl).trans (zite ?_ ?_)
            · refine (zJ_n rfl).trans ?_
              refine (zq_bi hm (pc' := 74) rfl rfl rfl rfl).trans ?_
              exact zq_ri hm rfl rfl
            · refine (zJ_n rfl).trans ?_
              refine (zq_al hm (pc' := 77) rfl rfl rfl rfl).trans ?_
              refine (zq_iln hm (pc' := 78) rfl rfl rfl rfl).trans ?_
              refine (zq_il hm (pc' := 80) rfl rfl rfl rfl).trans ?_
              refine (zq_vy1 hm (pc' := 83) rfl rfl rfl rfl rfl).trans (zbif_c (zCI_c rfl (fun r16 s15 => ?_)))
              refine (zJ_n rfl).trans ?_
              refine (zq_zeq hm (pc' := 86) rfl rfl).trans (zite ?_ ?_)
              · refine (zJ_n rfl).trans ?_
                refine (zq_bi hm (pc' := 100) rfl rfl rfl rfl).trans ?_
                exact zq_ri hm rfl rfl
              · refine (zJ_n rfl).trans ?_
                refine (zq_al hm (pc' := 88) rfl rfl rfl rfl).trans ?_
                refine (zq_il hm (pc' := 90) rfl rfl rfl rfl).trans ?_
                refine (zq_il hm (pc' := 92) rfl rfl rfl rfl).trans ?_
                refine (zq_vy1 hm (pc' := 95) rfl rfl rfl rfl rfl).trans (zbif_c (zCI_c rfl (fun r18 s17 => ?_)))
                refine (zJ_n rfl).trans ?_
                refine (zq_zne hm (pc' := 98) rfl rfl).trans (zite ?_ ?_)
                · refine (zJ_n rfl).trans ?_
                  refine (zq_bi hm (pc' := 100) rfl rfl rfl rfl).trans ?_
                  exact zq_ri hm rfl rfl
                · refine (zJ_n rfl).trans ?_
                  refine (zq_al hm (pc' := 103) rfl rfl rfl rfl).trans ?_
                  refine (zq_gs hm (pc' := 106) rfl rfl).trans (zfld_r lay_ref_7_3 (fun t19 => ?_))
                  refine (zJ_n rfl).trans ?_
                  refine (zq_iln hm (pc' := 107) rfl rfl rfl rfl).trans ?_
                  refine (zq_al hm (pc' := 109) rfl rfl rfl rfl).trans ?_
                  refine (zq_gs hm (pc' := 112) rfl rfl).trans (zfld_r lay_ref_7_3 (fun t20 => ?_))
                  refine (zJ_n rfl).trans ?_
                  refine (zq_il hm (pc' := 114) rfl rfl rfl rfl).trans ?_
                  refine (zq_il hm (pc' := 116) rfl rfl rfl rfl).trans ?_
                  refine (zq_arcy hm (pc' := 119) rfl rfl rfl rfl).trans (zarcK_c ?_)
                  refine (zJ_n rfl).trans ?_
                  refine (zq_il hm (pc' := 121) rfl rfl rfl rfl).trans ?_
                  exact zq_ri hm rfl rfl
        · refine (zJ_n rfl).trans ?_
          refine (zq_bi hm (pc' := 50) rfl rfl rfl rfl).trans ?_
          exact zq_ri hm rfl rfl
      · refine (zJ_n rfl).trans ?_
        refine (zq_bi hm (pc' := 50) rfl rfl rfl rfl).trans ?_
        exact zq_ri hm rfl rfl
set_option maxRecDepth 100000 in
set_option maxHeartbeats 4000000 in
theorem e_X11_taken (d : Nat) (x1 : Int) (x2 : Int) (σ : zF) : zx (d + 1) 144 [.inl (some 0), .inr (.inl x1), .inr (.inl x2)] σ = (
zCI LAY (zx d 150 [.inr (.inl x1)] σ) fun r2 s1 =>
if r2 = 0 then (
zri (-1) s1) else (
zCI LAY (zx d 151 [.inr (.inl x2)] s1) fun r4 s3 =>
if r4 = 0 then (
zri (-1) s3) else (
zaa LAY 44 x1 (fun t5 =>
bif zcls LAY t5 7 && true then (
zCI LAY (zx d 70 [.inl (some t5)] s3) fun r7 s6 =>
if r7 = 0 then (
bif zcls LAY t5 7 && true then (
zCI LAY (zx d 68 [.inl (some t5)] s6) fun r9 s8 =>
if r9 = 0 then (
zfld LAY t5 7 2 (
zCI LAY (zx d 79 [.inl (some 41), .inr (.inl (s8 t5 2))] s8) fun r11 s10 =>
if r11 = 0 then (
zri (-12) s10) else (
zfld LAY t5 7 2 (
if 0 ≤ (s10 t5 2) ∧ (s10 t5 2) < 50 then (
zCI LAY (zx d 80 [.inr (.inl (s10 42 (s10 t5 2))), .inr (.inl x2)] s10) fun r13 s12 =>
if r13 = 0 then (
zri (-12) s12) else (
zri (s10 42 (s10 t5 2)) s12)) else (
none)) (fun _ => none))) (fun _ => none)) else (
zri (-12) s8)) else none) else (
zri (-11) s6)) else none)))) := by
  unfold zx
  have hm := zexec_m zX2 zMT d
  refine (zexec_eq mt_144 _ rfl (LAY, σ) 0).trans ?_
  show zrunL zX2 (zexec zX2 zMT d) K_X11_taken U_X11_taken 0 [some (.inl (some 0)), some (.inr (.inl x1)), some (.inr (.inl x2)), none, none] [] (LAY, σ) = _
  refine (zq_iln hm (pc' := 1) rfl rfl rfl rfl).trans ?_
  refine (zq_s1 hm (pc' := 4) rfl rfl rfl rfl rfl rfl).trans (zCI_c rfl (fun r2 s1 => ?_))
  refine (zJ_n rfl).trans ?_
  refine (zq_zeq hm (pc' := 7) rfl rfl).trans (zite ?_ ?_)
  · refine (zJ_n rfl).trans ?_
    refine (zq_ic hm (pc' := 15) rfl rfl rfl rfl).trans ?_
    exact zq_ri hm rfl rfl
  · refine (zJ_n rfl).trans ?_
    refine (zq_iln hm (pc' := 8) rfl rfl rfl rfl).trans ?_
    refine (zq_s1 hm (pc' := 11) rfl rfl rfl rfl rfl rfl).trans (zCI_c rfl (fun r4 s3 => ?_))
    refine (zJ_n rfl).trans ?_
    refine (zq_zne hm (pc' := 14) rfl rfl).trans (zite ?_ ?_)
    · refine (zJ_n rfl).trans ?_
      refine (zq_ic hm (pc' := 15) rfl rfl rfl rfl).trans ?_
      exact zq_ri hm rfl rfl
    · refine (zJ_n rfl).trans ?_
      refine (zq_aln hm (pc' := 17) rfl rfl rfl rfl).trans ?_
      refine (zq_gr hm (pc' := 20) rfl lay_0 rfl rfl).trans ?_
      refine (zJ_n rfl).trans ?_
      refine (zq_iln hm (pc' := 21) rfl rfl rfl rfl).trans ?_
      refine (zq_aa hm (pc' := 22) rfl rfl).trans (zaa_c (fun t5 => ?_))
      refine (zJ_n rfl).trans ?_
      refine (zq_asn hm (ls' := [some (.inl (some 0)), some (.inr (.inl x1)), some (.inr (.inl x2)), some (.inl (some t5)), none]) (pc' := 23) rfl rfl rfl rfl).trans ?_
      refine (zq_aln hm (pc' := 24) rfl rfl rfl rfl).trans ?_
      refine (zq_vy1 hm (pc' := 27) rfl rfl rfl rfl rfl).trans (zbif_c (zCI_c rfl (fun r7 s6 => ?_)))
      refine (zJ_n rfl).trans ?_
      refine (zq_zeq hm (pc' := 30) rfl rfl).trans (zite ?_ ?_)
      · refine (zJ_n rfl).trans ?_
        refine (zq_aln hm (pc' := 34) rfl rfl rfl rfl).trans ?_
        refine (zq_vy1 hm (pc' := 37) rfl rfl rfl rfl rfl).trans (zbif_c (zCI_c rfl (fun r9 s8 => ?_)))
        refine (zJ_n rfl).trans ?_
        refine (zq_zne hm (pc' := 40) rfl rfl).trans (zite ?_ ?_)
        · refine (zJ_n rfl).trans ?_
          refine (zq_aln hm (pc' := 41) rfl rfl rfl rfl).trans ?_
          refine (zq_gr hm (pc' := 44) rfl lay_0 rfl rfl).trans ?_
          refine (zJ_n rfl).trans ?_
          refine (zq_aln hm (pc' := 45) rfl rfl rfl rfl).trans ?_
          refine (zq_gs hm (pc' := 48) rfl rfl).trans (zfld_i lay_num_7_2 ?_)
          refine (zJ_n rfl).trans ?_
          refine (zq_v1 hm (pc' := 51) rfl rfl rfl (cls_41_8) rfl rfl).trans (zCI_c rfl (fun r11 s10 => ?_))
          refine (zJ_n rfl).trans ?_
          refine (zq_zne hm (pc' := 54) rfl rfl).trans (zite ?_ ?_)
          · refine (zJ_n rfl).trans ?_
            refine (zq_bi hm (pc' := 56) rfl rfl rfl rfl).trans ?_
            exact zq_ri hm rfl rfl
          · refine (zJ_n rfl).trans ?_
            refine (zq_aln hm (pc' := 58) rfl rfl rfl rfl).trans ?_
            refine (zq_gr hm (pc' := 61) rfl lay_0 rfl rfl).trans ?_
            refine (zJ_n rfl).trans ?_
            refine (zq_gr hm (pc' := 64) rfl lay_41 rfl rfl).trans ?_
            refine (zJ_n rfl).trans ?_
            refine (zq_aln hm (pc' := 65) rfl rfl rfl rfl).trans ?_
            refine (zq_gs hm (pc' := 68) rfl rfl).trans (zfld_i lay_num_7_2 ?_)
            refine (zJ_n rfl).trans ?_
            refine (zq_ia hm (v := (s10 42 (s10 t5 2))) (pc' := 69) rfl lay_42 rfl rfl).trans (zite ?_ rfl)
            refine (zJ_n rfl).trans ?_
            refine (zq_is hm (ls' := [some (.inl (some 0)), some (.inr (.inl x1)), some (.inr (.inl x2)), some (.inl (some t5)), some (.inr (.inl (s10 42 (s10 t5 2))))]) (pc' := 71) rfl rfl rfl rfl).trans ?_
            refine (zq_il hm (pc' := 73) rfl rfl rfl rfl).trans ?_
            refine (zq_iln hm (pc' := 74) rfl rfl rfl rfl).trans ?_
            refine (zq_s1 hm (pc' := 77) rfl rfl rfl rfl rfl rfl).trans (zCI_c rfl (fun r13 s12 => ?_))
            refine (zJ_n rfl).trans ?_
            refine (zq_zeq hm (pc' := 80) rfl rfl).trans (zite ?_ ?_)
            · refine (zJ_n rfl).trans ?_
              refine (zq_bi hm (pc' := 87) rfl rfl rfl rfl).trans ?_
              exact zq_ri hm rfl rfl
            · refine (zJ_n rfl).trans ?_
              refine (zq_il hm (pc' := 82) rfl rfl rfl rfl).trans ?_
              refine (zq_goto hm rfl rfl).trans ?_
              exact zq_ri hm rfl rfl
        · refine (zJ_n rfl).trans ?_
          refine (zq_bi hm (pc' := 56) rfl rfl rfl rfl).trans ?_
          exact zq_ri hm rfl rfl
      · refine (zJ_n rfl).trans ?_
        refine (zq_bi hm (pc' := 32) rfl rfl rfl rfl).trans ?_
        exact zq_ri hm rfl rfl
set_option maxRecDepth 100000 in
set_option maxHeartbeats 4000000 in
theorem e_X11_count (d : Nat) (x1 : Int) (σ : zF) : zx (d + 1) 145 [.inl (some 0), .inr (.inl x1)] σ = (
if x1 = 0 then (
zri (σ 1 0) σ) else (
if x1 = 1 then (
zri (σ 1 1) σ) else (
if x1 = 2 then (
zri (σ 11 1) σ) else (
if x1 = 3 then (
zri (σ 32 5) σ) else (
if x1 = 4 then (
zri (σ 41 0) σ) else (
if x1 = 5 then (
zri (σ 41 3) σ) else (
zri (-1) σ))))))) := by
  unfold zx
  have hm := zexec_m zX2 zMT d
  refine (zexec_eq mt_145 _ rfl (LAY, σ) 0).trans ?_
  show zrunL zX2 (zexec zX2 zMT d) K_X11_count U_X11_count 0 [some (.inl (some 0)), some (.inr (.inl x1))] [] (LAY, σ) = _
  refine (zq_iln hm (pc' := 1) rfl rfl rfl rfl).trans ?_
  refine (zq_ts hm rfl).trans (zsw_c (k' := fun _ => none) ?_ (zsw_c (k' := fun _ => none) ?_ (zsw_c (k' := fun _ => none) ?_ (zsw_c (k' := fun _ => none) ?_ (zsw_c (k' := fun _ => none) ?_ (zsw_c (k' := fun _ => none) ?_ (zsw_n ?_)))))))
  · refine (zJ_n rfl).trans ?_
    refine (zq_aln hm (pc' := 41) rfl rfl rfl rfl).trans ?_
    refine (zq_gr hm (pc' := 44) rfl lay_0 rfl rfl).trans ?_
    refine (zJ_n rfl).trans ?_
    refine (zq_gf hm (v := (σ 1 0)) (pc' := 47) rfl lay_1 rfl rfl rfl).trans ?_
    refine (zJ_n rfl).trans ?_
    exact zq_ri hm rfl rfl
  · refine (zJ_n rfl).trans ?_
    refine (zq_aln hm (pc' := 49) rfl rfl rfl rfl).trans ?_
    refine (zq_gr hm (pc' := 52) rfl lay_0 rfl rfl).trans ?_
    refine (zJ_n rfl).trans ?_
    refine (zq_gf hm (v := (σ 1 1)) (pc' := 55) rfl lay_1 rfl rfl rfl).trans ?_
    refine (zJ_n rfl).trans ?_
    exact zq_ri hm rfl rfl
  · refine (zJ_n rfl).trans ?_
    refine (zq_aln hm (pc' := 57) rfl rfl rfl rfl).trans ?_
    refine (zq_gr hm (pc' := 60) rfl lay_0 rfl rfl).trans ?_
    refine (zJ_n rfl).trans ?_
    refine (zq_gf hm (v := (σ 11 1)) (pc' := 63) rfl lay_11 rfl rfl rfl).trans ?_
    refine (zJ_n rfl).trans ?_
    exact zq_ri hm rfl rfl
  · refine (zJ_n rfl).trans ?_
    refine (zq_aln hm (pc' := 65) rfl rfl rfl rfl).trans ?_
    refine (zq_gr hm (pc' := 68) rfl lay_0 rfl rfl).trans ?_
    refine (zJ_n rfl).trans ?_
    refine (zq_gf hm (v := (σ 32 5)) (pc' := 71) rfl lay_32 rfl rfl rfl).trans ?_
    refine (zJ_n rfl).trans ?_
    exact zq_ri hm rfl rfl
  · refine (zJ_n rfl).trans ?_
    refine (zq_aln hm (pc' := 73) rfl rfl rfl rfl).trans ?_
    refine (zq_gr hm (pc' := 76) rfl lay_0 rfl rfl).trans ?_
    refine (zJ_n rfl).trans ?_
    refine (zq_gf hm (v := (σ 41 0)) (pc' := 79) rfl lay_41 rfl rfl rfl).trans ?_
    refine (zJ_n rfl).trans ?_
    exact zq_ri hm rfl rfl
  · refine (zJ_n rfl).trans ?_
    refine (zq_aln hm (pc' := 81) rfl rfl rfl rfl).trans ?_
    refine (zq_gr hm (pc' := 84) rfl lay_0 rfl rfl).trans ?_
    refine (zJ_n rfl).trans ?_
    refine (zq_gf hm (v := (σ 41 3)) (pc' := 87) rfl lay_41 rfl rfl rfl).trans ?_
    refine (zJ_n rfl).trans ?_
    exact zq_ri hm rfl rfl
  · refine (zJ_n rfl).trans ?_
    refine (zq_ic hm (pc' := 89) rfl rfl rfl rfl).trans ?_
    exact zq_ri hm rfl rfl
set_option maxRecDepth 100000 in
set_option maxHeartbeats 4000000 in
theorem e_X11_isPlace (d : Nat) (x0 : Int) (σ : zF) : zx (d + 1) 146 [.inr (.inl x0)] σ = (
if x0 < 0 then (
zri 0 σ) else (
if x0 < 8 then (
zri 1 σ) else (
zri 0 σ))) := by
  unfold zx
  have hm := zexec_m zX2 zMT d
  refine (zexec_eq mt_146 _ rfl (LAY, σ) 0).trans ?_
  show zrunL zX2 (zexec zX2 zMT d) K_X11_isPlace U_X11_isPlace 0 [some (.inr (.inl x0))] [] (LAY, σ) = _
  refine (zq_iln hm (pc' := 1) rfl rfl rfl rfl).trans ?_
  refine (zq_zlt hm (pc' := 4) rfl rfl).trans (zite ?_ ?_)
  · refine (zJ_n rfl).trans ?_
    refine (zq_ic hm (pc' := 15) rfl rfl rfl rfl).trans ?_
    exact (zq_rb hm rfl rfl).trans (zif1 (by decide))
  · refine (zJ_n rfl).trans ?_
    refine (zq_iln hm (pc' := 5) rfl rfl rfl rfl).trans ?_
    refine (zq_bi hm (pc' := 7) rfl rfl rfl rfl).trans ?_
    refine (zq_ige hm (pc' := 10) rfl rfl).trans (zite ?_ ?_)
    · refine (zJ_n rfl).trans ?_
      refine (zq_ic hm (pc' := 11) rfl rfl rfl rfl).trans ?_
      refine (zq_goto hm rfl rfl).trans ?_
      exact (zq_rb hm rfl rfl).trans (zif1 (by decide))
    · refine (zJ_n rfl).trans ?_
      refine (zq_ic hm (pc' := 15) rfl rfl rfl rfl).trans ?_
      exact (zq_rb hm rfl rfl).trans (zif1 (by decide))
set_option maxRecDepth 100000 in
set_option maxHeartbeats 4000000 in
theorem e_X11_isPair (d : Nat) (x0 : Int) (σ : zF) : zx (d + 1) 147 [.inr (.inl x0)] σ = (
if x0 < 0 then (
zri 0 σ) else (
if (10 : Int) = 0 then none else (
zCI LAY (zx d 146 [.inr (.inl (zdiv x0 10))] σ) fun r2 s1 =>
if r2 = 0 then (
zri 0 s1) else (
if (10 : Int) = 0 then none else (
zCI LAY (zx d 146 [.inr (.inl (zrem x0 10))] s1) fun r4 s3 =>
if r4 = 0 then (
zri 0 s3) else (
if (10 : Int) = 0 then none else (
if (10 : Int) = 0 then none else (
if zdiv x0 10 = zrem x0 10 then (
zri 0 s3) else (
zri 1 s3))))))))) := by
  unfold zx
  have hm := zexec_m zX2 zMT d
  refine (zexec_eq mt_147 _ rfl (LAY, σ) 0).trans ?_
  show zrunL zX2 (zexec zX2 zMT d) K_X11_isPair U_X11_isPair 0 [some (.inr (.inl x0))] [] (LAY, σ) = _
  refine (zq_iln hm (pc' := 1) rfl rfl rfl rfl).trans ?_
  refine (zq_zlt hm (pc' := 4) rfl rfl).trans (zite ?_ ?_)
  · refine (zJ_n rfl).trans ?_
    refine (zq_ic hm (pc' := 40) rfl rfl rfl rfl).trans ?_
    exact (zq_rb hm rfl rfl).trans (zif1 (by decide))
  · refine (zJ_n rfl).trans ?_
    refine (zq_iln hm (pc' := 5) rfl rfl rfl rfl).trans ?_
    refine (zq_bi hm (pc' := 7) rfl rfl rfl rfl).trans ?_
    refine (zq_idiv hm (pc' := 8) rfl rfl).trans (zite rfl ?_)
    refine (zJ_n rfl).trans ?_
    refine (zq_s1 hm (pc' := 11) rfl rfl rfl rfl rfl rfl).trans (zCI_c rfl (fun r2 s1 => ?_))
    refine (zJ_n rfl).trans ?_
    refine (zq_zeq hm (pc' := 14) rfl rfl).trans (zite ?_ ?_)
    · refine (zJ_n rfl).trans ?_
      refine (zq_ic hm (pc' := 40) rfl rfl rfl rfl).trans ?_
      exact (zq_rb hm rfl rfl).trans (zif1 (by decide))
    · refine (zJ_n rfl).trans ?_
      refine (zq_iln hm (pc' := 15) rfl rfl rfl rfl).trans ?_
      refine (zq_bi hm (pc' := 17) rfl rfl rfl rfl).trans ?_
      refine (zq_irem hm (pc' := 18) rfl rfl).trans (zite rfl ?_)
      refine (zJ_n rfl).trans ?_
      refine (zq_s1 hm (pc' := 21) rfl rfl rfl rfl rfl rfl).trans (zCI_c rfl (fun r4 s3 => ?_))
      refine (zJ_n rfl).trans ?_
      refine (zq_zeq hm (pc' := 24) rfl rfl).trans (zite ?_ ?_)
      · refine (zJ_n rfl).trans ?_
        refine (zq_ic hm (pc' := 40) rfl rfl rfl rfl).trans ?_
        exact (zq_rb hm rfl rfl).trans (zif1 (by decide))
      · refine (zJ_n rfl).trans ?_
        refine (zq_iln hm (pc' := 25) rfl rfl rfl rfl).trans ?_
        refine (zq_bi hm (pc' := 27) rfl rfl rfl rfl).trans ?_
        refine (zq_idiv hm (pc' := 28) rfl rfl).trans (zite rfl ?_)
        refine (zJ_n rfl).trans ?_
        refine (zq_iln hm (pc' := 29) rfl rfl rfl rfl).trans ?_
        refine (zq_bi hm (pc' := 31) rfl rfl rfl rfl).trans ?_
        refine (zq_irem hm (pc' := 32) rfl rfl).trans (zite rfl ?_)
        refine (zJ_n rfl).trans ?_
        refine (zq_ieq hm (pc' := 35) rfl rfl).trans (zite ?_ ?_)
        · refine (zJ_n rfl).trans ?_
          refine (zq_ic hm (pc' := 40) rfl rfl rfl rfl).trans ?_
          exact (zq_rb hm rfl rfl).trans (zif1 (by decide))
        · refine (zJ_n rfl).trans ?_
          refine (zq_ic hm (pc' := 36) rfl rfl rfl rfl).trans ?_
          refine (zq_goto hm rfl rfl).trans ?_
          exact (zq_rb hm rfl rfl).trans (zif1 (by decide))
set_option maxRecDepth 100000 in
set_option maxHeartbeats 4000000 in
theorem e_X11_isLength (d : Nat) (x0 : Int) (σ : zF) : zx (d + 1) 148 [.inr (.inl x0)] σ = (
if x0 < 1 then (
zri 0 σ) else (
if (99 : Int) < x0 then (
zri 0 σ) else (
zri 1 σ))) := by
  unfold zx
  have hm := zexec_m zX2 zMT d
  refine (zexec_eq mt_148 _ rfl (LAY, σ) 0).trans ?_
  show zrunL zX2 (zexec zX2 zMT d) K_X11_isLength U_X11_isLength 0 [some (.inr (.inl x0))] [] (LAY, σ) = _
  refine (zq_iln hm (pc' := 1) rfl rfl rfl rfl).trans ?_
  refine (zq_ic hm (pc' := 2) rfl rfl rfl rfl).trans ?_
  refine (zq_ilt hm (pc' := 5) rfl rfl).trans (zite ?_ ?_)
  · refine (zJ_n rfl).trans ?_
    refine (zq_ic hm (pc' := 16) rfl rfl rfl rfl).trans ?_
    exact (zq_rb hm rfl rfl).trans (zif1 (by decide))
  · refine (zJ_n rfl).trans ?_
    refine (zq_iln hm (pc' := 6) rfl rfl rfl rfl).trans ?_
    refine (zq_bi hm (pc' := 8) rfl rfl rfl rfl).trans ?_
    refine (zq_igt hm (pc' := 11) rfl rfl).trans (zite ?_ ?_)
    · refine (zJ_n rfl).trans ?_
      refine (zq_ic hm (pc' := 16) rfl rfl rfl rfl).trans ?_
      exact (zq_rb hm rfl rfl).trans (zif1 (by decide))
    · refine (zJ_n rfl).trans ?_
      refine (zq_ic hm (pc' := 12) rfl rfl rfl rfl).trans ?_
      refine (zq_goto hm rfl rfl).trans ?_
      exact (zq_rb hm rfl rfl).trans (zif1 (by decide))
set_option maxRecDepth 100000 in
set_option maxHeartbeats 4000000 in
theorem e_X11_isTime (d : Nat) (x0 : Int) (σ : zF) : zx (d + 1) 149 [.inr (.inl x0)] σ = (
if x0 < 0 then (
zri 0 σ) else (
if (999 : Int) < x0 then (
zri 0 σ) else (
zri 1 σ))) := by
  unfold zx
  have hm := zexec_m zX2 zMT d
  refine (zexec_eq mt_149 _ rfl (LAY, σ) 0).trans ?_
  show zrunL zX2 (zexec zX2 zMT d) K_X11_isTime U_X11_isTime 0 [some (.inr (.inl x0))] [] (LAY, σ) = _
  refine (zq_iln hm (pc' := 1) rfl rfl rfl rfl).trans ?_
  refine (zq_zlt hm (pc' := 4) rfl rfl).trans (zite ?_ ?_)
  · refine (zJ_n rfl).trans ?_
    refine (zq_ic hm (pc' := 16) rfl rfl rfl rfl).trans ?_
    exact (zq_rb hm rfl rfl).trans (zif1 (by decide))
  · refine (zJ_n rfl).trans ?_
    refine (zq_iln hm (pc' := 5) rfl rfl rfl rfl).trans ?_
    refine (zq_si hm (pc' := 8) rfl rfl rfl rfl).trans ?_
    refine (zq_igt hm (pc' := 11) rfl rfl).trans (zite ?_ ?_)
    · refine (zJ_n rfl).trans ?_
      refine (zq_ic hm (pc' := 16) rfl rfl rfl rfl).trans ?_
      exact (zq_rb hm rfl rfl).trans (zif1 (by decide))
    · refine (zJ_n rfl).trans ?_
      refine (zq_ic hm (pc' := 12) rfl rfl rfl rfl).trans ?_
      refine (zq_goto hm rfl rfl).trans ?_
      exact (zq_rb hm rfl rfl).trans (zif1 (by decide))
set_option maxRecDepth 100000 in
set_option maxHeartbeats 4000000 in
theorem e_X11_isShelf (d : Nat) (x0 : Int) (σ : zF) : zx (d + 1) 150 [.inr (.inl x0)] σ = (
if x0 < 0 then (
zri 0 σ) else (
if x0 < 6 then (
zri 1 σ) else (
zri 0 σ))) := by
  unfold zx
  have hm := zexec_m zX2 zMT d
  refine (zexec_eq mt_150 _ rfl (LAY, σ) 0).trans ?_
  show zrunL zX2 (zexec zX2 zMT d) K_X11_isShelf U_X11_isShelf 0 [some (.inr (.inl x0))] [] (LAY, σ) = _
  refine (zq_iln hm (pc' := 1) rfl rfl rfl rfl).trans ?_
  refine (zq_zlt hm (pc' := 4) rfl rfl).trans (zite ?_ ?_)
  · refine (zJ_n rfl).trans ?_
    refine (zq_ic hm (pc' := 15) rfl rfl rfl rfl).trans ?_
    exact (zq_rb hm rfl rfl).trans (zif1 (by decide))
  · refine (zJ_n rfl).trans ?_
    refine (zq_iln hm (pc' := 5) rfl rfl rfl rfl).trans ?_
    refine (zq_bi hm (pc' := 7) rfl rfl rfl rfl).trans ?_
    refine (zq_ige hm (pc' := 10) rfl rfl).trans (zite ?_ ?_)
    · refine (zJ_n rfl).trans ?_
      refine (zq_ic hm (pc' := 11) rfl rfl rfl rfl).trans ?_
      refine (zq_goto hm rfl rfl).trans ?_
      exact (zq_rb hm rfl rfl).trans (zif1 (by decide))
    · refine (zJ_n rfl).trans ?_
      refine (zq_ic hm (pc' := 15) rfl rfl rfl rfl).trans ?_
      exact (zq_rb hm rfl rfl).trans (zif1 (by decide))
set_option maxRecDepth 100000 in
set_option maxHeartbeats 4000000 in
theorem e_X11_isKind (d : Nat) (x0 : Int) (σ : zF) : zx (d + 1) 151 [.inr (.inl x0)] σ = (
if x0 < 0 then (
zri 0 σ) else (
if x0 < 8 then (
zri 1 σ) else (
zri 0 σ))) := by
  unfold zx
  have hm := zexec_m zX2 zMT d
  refine (zexec_eq mt_151 _ rfl (LAY, σ) 0).trans ?_
  show zrunL zX2 (zexec zX2 zMT d) K_X11_isKind U_X11_isKind 0 [some (.inr (.inl x0))] [] (LAY, σ) = _
  refine (zq_iln hm (pc' := 1) rfl rfl rfl rfl).trans ?_
  refine (zq_zlt hm (pc' := 4) rfl rfl).trans (zite ?_ ?_)
  · refine (zJ_n rfl).trans ?_
    refine (zq_ic hm (pc' := 15) rfl rfl rfl rfl).trans ?_
    exact (zq_rb hm rfl rfl).trans (zif1 (by decide))
  · refine (zJ_n rfl).trans ?_
    refine (zq_iln hm (pc' := 5) rfl rfl rfl rfl).trans ?_
    refine (zq_bi hm (pc' := 7) rfl rfl rfl rfl).trans ?_
    refine (zq_ige hm (pc' := 10) rfl rfl).trans (zite ?_ ?_)
    · refine (zJ_n rfl).trans ?_
      refine (zq_ic hm (pc' := 11) rfl rfl rfl rfl).trans ?_
      refine (zq_goto hm rfl rfl).trans ?_
      exact (zq_rb hm rfl rfl).trans (zif1 (by decide))
    · refine (zJ_n rfl).trans ?_
      refine (zq_ic hm (pc' := 15) rfl rfl rfl rfl).trans ?_
      exact (zq_rb hm rfl rfl).trans (zif1 (by decide))
set_option maxRecDepth 100000 in
set_option maxHeartbeats 4000000 in
theorem e_X12_within (d : Nat) (x0 : Int) (x1 : Int) (x2 : Int) (σ : zF) : zx (d + 1) 153 [.inr (.inl x0), .inr (.inl x1), .inr (.inl x2)] σ = (
if x0 < x1 then (
zri 0 σ) else (
if x2 < x0 then (
zri 0 σ) else (
zri 1 σ))) := by
  unfold zx
  have hm := zexec_m zX2 zMT d
  refine (zexec_eq mt_153 _ rfl (LAY, σ) 0).trans ?_
  show zrunL zX2 (zexec zX2 zMT d) K_X12_within U_X12_within 0 [some (.inr (.inl x0)), some (.inr (.inl x1)), some (.inr (.inl x2))] [] (LAY, σ) = _
  refine (zq_iln hm (pc' := 1) rfl rfl rfl rfl).trans ?_
  refine (zq_iln hm (pc' := 2) rfl rfl rfl rfl).trans ?_
  refine (zq_ilt hm (pc' := 5) rfl rfl).trans (zite ?_ ?_)
  · refine (zJ_n rfl).trans ?_
    refine (zq_ic hm (pc' := 15) rfl rfl rfl rfl).trans ?_
    exact (zq_rb hm rfl rfl).trans (zif1 (by decide))
  · refine (zJ_n rfl).trans ?_
    refine (zq_iln hm (pc' := 6) rfl rfl rfl rfl).trans ?_
    refine (zq_iln hm (pc' := 7) rfl rfl rfl rfl).trans ?_
    refine (zq_igt hm (pc' := 10) rfl rfl).trans (zite ?_ ?_)
    · refine (zJ_n rfl).trans ?_
      refine (zq_ic hm (pc' := 15) rfl rfl rfl rfl).trans ?_
      exact (zq_rb hm rfl rfl).trans (zif1 (by decide))
    · refine (zJ_n rfl).trans ?_
      refine (zq_ic hm (pc' := 11) rfl rfl rfl rfl).trans ?_
      refine (zq_goto hm rfl rfl).trans ?_
      exact (zq_rb hm rfl rfl).trans (zif1 (by decide))
set_option maxRecDepth 100000 in
set_option maxHeartbeats 4000000 in
theorem e_X12_isRoad (d : Nat) (x1 : Int) (σ : zF) : zx (d + 1) 154 [.inl (some 57), .inr (.inl x1)] σ = (
zCI LAY (zx d 153 [.inr (.inl x1), .inr (.inl 0), .inr (.inl (zw ((σ 57 0) - 1)))] σ) fun r2 s1 =>
if r2 = 0 ∨ r2 = 1 then (
zri r2 s1) else (
none)) := by
  unfold zx
  have hm := zexec_m zX2 zMT d
  refine (zexec_eq mt_154 _ rfl (LAY, σ) 0).trans ?_
  show zrunL zX2 (zexec zX2 zMT d) K_X12_isRoad U_X12_isRoad 0 [some (.inl (some 57)), some (.inr (.inl x1))] [] (LAY, σ) = _
  refine (zq_iln hm (pc' := 1) rfl rfl rfl rfl).trans ?_
  refine (zq_ic hm (pc' := 2) rfl rfl rfl rfl).trans ?_
  refine (zq_aln hm (pc' := 3) rfl rfl rfl rfl).trans ?_
  refine (zq_gf hm (v := (σ 57 0)) (pc' := 6) rfl lay_57 rfl rfl rfl).trans ?_
  refine (zJ_n rfl).trans ?_
  refine (zq_ic hm (pc' := 7) rfl rfl rfl rfl).trans ?_
  refine (zq_isub hm (pc' := 8) rfl rfl rfl).trans ?_
  refine (zq_s1 hm (pc' := 11) rfl rfl rfl rfl rfl rfl).trans (zCI_c rfl (fun r2 s1 => ?_))
  refine (zJ_n rfl).trans ?_
  exact zq_rb hm rfl rfl
set_option maxRecDepth 100000 in
set_option maxHeartbeats 4000000 in
theorem e_X12_isOne (d : Nat) (x1 : Int) (σ : zF) : zx (d + 1) 155 [.inl (some 57), .inr (.inl x1)] σ = (
zCI LAY (zx d 153 [.inr (.inl x1), .inr (.inl 0), .inr (.inl (zw ((σ 57 4) - 1)))] σ) fun r2 s1 =>
if r2 = 0 ∨ r2 = 1 then (
zri r2 s1) else (
none)) := by
  unfold zx
  have hm := zexec_m zX2 zMT d
  refine (zexec_eq mt_155 _ rfl (LAY, σ) 0).trans ?_
  show zrunL zX2 (zexec zX2 zMT d) K_X12_isOne U_X12_isOne 0 [some (.inl (some 57)), some (.inr (.inl x1))] [] (LAY, σ) = _
  refine (zq_iln hm (pc' := 1) rfl rfl rfl rfl).trans ?_
  refine (zq_ic hm (pc' := 2) rfl rfl rfl rfl).trans ?_
  refine (zq_aln hm (pc' := 3) rfl rfl rfl rfl).trans ?_
  refine (zq_gf hm (v := (σ 57 4)) (pc' := 6) rfl lay_57 rfl rfl rfl).trans ?_
  refine (zJ_n rfl).trans ?_
  refine (zq_ic hm (pc' := 7) rfl rfl rfl rfl).trans ?_
  refine (zq_isub hm (pc' := 8) rfl rfl rfl).trans ?_
  refine (zq_s1 hm (pc' := 11) rfl rfl rfl rfl rfl rfl).trans (zCI_c rfl (fun r2 s1 => ?_))
  refine (zJ_n rfl).trans ?_
  exact zq_rb hm rfl rfl
set_option maxRecDepth 100000 in
set_option maxHeartbeats 4000000 in
theorem e_X12_isPlace (d : Nat) (x0 : Int) (σ : zF) : zx (d + 1) 156 [.inr (.inl x0)] σ = (
zCI LAY (zx d 153 [.inr (.inl x0), .inr (.inl 0), .inr (.inl 7)] σ) fun r2 s1 =>
if r2 = 0 ∨ r2 = 1 then (
zri r2 s1) else (
none)) := by
  unfold zx
  have hm := zexec_m zX2 zMT d
  refine (zexec_eq mt_156 _ rfl (LAY, σ) 0).trans ?_
  show zrunL zX2 (zexec zX2 zMT d) K_X12_isPlace U_X12_isPlace 0 [some (.inr (.inl x0))] [] (LAY, σ) = _
  refine (zq_iln hm (pc' := 1) rfl rfl rfl rfl).trans ?_
  refine (zq_ic hm (pc' := 2) rfl rfl rfl rfl).trans ?_
  refine (zq_bi hm (pc' := 4) rfl rfl rfl rfl).trans ?_
  refine (zq_s1 hm (pc' := 7) rfl rfl rfl rfl rfl rfl).trans (zCI_c rfl (fun r2 s1 => ?_))
  refine (zJ_n rfl).trans ?_
  exact zq_rb hm rfl rfl
set_option maxRecDepth 100000 in
set_option maxHeartbeats 4000000 in
theorem e_X12_areTwo (d : Nat) (x0 : Int) (σ : zF) : zx (d + 1) 157 [.inr (.inl x0)] σ = (
if x0 < 0 then (
zri 0 σ) else (
if (10 : Int) = 0 then none else (
zCI LAY (zx d 156 [.inr (.inl (zdiv x0 10))] σ) fun r2 s1 =>
if r2 = 0 then (
zri 0 s1) else (
if (10 : Int) = 0 then none else (
zCI LAY (zx d 156 [.inr (.inl (zrem x0 10))] s1) fun r4 s3 =>
if r4 = 0 then (
zri 0 s3) else (
if (10 : Int) = 0 then none else (
if (10 : Int) = 0 then none else (
if zdiv x0 10 = zrem x0 10 then (
zri 0 s3) else (
zri 1 s3))))))))) := by
  unfold zx
  have hm := zexec_m zX2 zMT d
  refine (zexec_eq mt_157 _ rfl (LAY, σ) 0).trans ?_
  show zrunL zX2 (zexec zX2 zMT d) K_X12_areTwo U_X12_areTwo 0 [some (.inr (.inl x0))] [] (LAY, σ) = _
  refine (zq_iln hm (pc' := 1) rfl rfl rfl rfl).trans ?_
  refine (zq_zlt hm (pc' := 4) rfl rfl).trans (zite ?_ ?_)
  · refine (zJ_n rfl).trans ?_
    refine (zq_ic hm (pc' := 40) rfl rfl rfl rfl).trans ?_
    exact (zq_rb hm rfl rfl).trans (zif1 (by decide))
  · refine (zJ_n rfl).trans ?_
    refine (zq_iln hm (pc' := 5) rfl rfl rfl rfl).trans ?_
    refine (zq_bi hm (pc' := 7) rfl rfl rfl rfl).trans ?_
    refine (zq_idiv hm (pc' := 8) rfl rfl).trans (zite rfl ?_)
    refine (zJ_n rfl).trans ?_
    refine (zq_s1 hm (pc' := 11) rfl rfl rfl rfl rfl rfl).trans (zCI_c rfl (fun r2 s1 => ?_))
    refine (zJ_n rfl).trans ?_
    refine (zq_zeq hm (pc' := 14) rfl rfl).trans (zite ?_ ?_)
    · refine (zJ_n rfl).trans ?_
      refine (zq_ic hm (pc' := 40) rfl rfl rfl rfl).trans ?_
      exact (zq_rb hm rfl rfl).trans (zif1 (by decide))
    · refine (zJ_n rfl).trans ?_
      refine (zq_iln hm (pc' := 15) rfl rfl rfl rfl).trans ?_
      refine (zq_bi hm (pc' := 17) rfl rfl rfl rfl).trans ?_
      refine (zq_irem hm (pc' := 18) rfl rfl).trans (zite rfl ?_)
      refine (zJ_n rfl).trans ?_
      refine (zq_s1 hm (pc' := 21) rfl rfl rfl rfl rfl rfl).trans (zCI_c rfl (fun r4 s3 => ?_))
      refine (zJ_n rfl).trans ?_
      refine (zq_zeq hm (pc' := 24) rfl rfl).trans (zite ?_ ?_)
      · refine (zJ_n rfl).trans ?_
        refine (zq_ic hm (pc' := 40) rfl rfl rfl rfl).trans ?_
        exact (zq_rb hm rfl rfl).trans (zif1 (by decide))
      · refine (zJ_n rfl).trans ?_
        refine (zq_iln hm (pc' := 25) rfl rfl rfl rfl).trans ?_
        refine (zq_bi hm (pc' := 27) rfl rfl rfl rfl).trans ?_
        refine (zq_idiv hm (pc' := 28) rfl rfl).trans (zite rfl ?_)
        refine (zJ_n rfl).trans ?_
        refine (zq_iln hm (pc' := 29) rfl rfl rfl rfl).trans ?_
        refine (zq_bi hm (pc' := 31) rfl rfl rfl rfl).trans ?_
        refine (zq_irem hm (pc' := 32) rfl rfl).trans (zite rfl ?_)
        refine (zJ_n rfl).trans ?_
        refine (zq_ieq hm (pc' := 35) rfl rfl).trans (zite ?_ ?_)
        · refine (zJ_n rfl).trans ?_
          refine (zq_ic hm (pc' := 40) rfl rfl rfl rfl).trans ?_
          exact (zq_rb hm rfl rfl).trans (zif1 (by decide))
        · refine (zJ_n rfl).trans ?_
          refine (zq_ic hm (pc' := 36) rfl rfl rfl rfl).trans ?_
          refine (zq_goto hm rfl rfl).trans ?_
          exact (zq_rb hm rfl rfl).trans (zif1 (by decide))
set_option maxRecDepth 100000 in
set_option maxHeartbeats 4000000 in
theorem e_X12_isShelf (d : Nat) (x0 : Int) (σ : zF) : zx (d + 1) 158 [.inr (.inl x0)] σ = (
zCI LAY (zx d 153 [.inr (.inl x0), .inr (.inl 0), .inr (.inl 5)] σ) fun r2 s1 =>
if r2 = 0 ∨ r2 = 1 then (
zri r2 s1) else (
none)) := by
  unfold zx
  have hm := zexec_m zX2 zMT d
  refine (zexec_eq mt_158 _ rfl (LAY, σ) 0).trans ?_
  show zrunL zX2 (zexec zX2 zMT d) K_X12_isShelf U_X12_isShelf 0 [some (.inr (.inl x0))] [] (LAY, σ) = _
  refine (zq_iln hm (pc' := 1) rfl rfl rfl rfl).trans ?_
  refine (zq_ic hm (pc' := 2) rfl rfl rfl rfl).trans ?_
  refine (zq_ic hm (pc' := 3) rfl rfl rfl rfl).trans ?_
  refine (zq_s1 hm (pc' := 6) rfl rfl rfl rfl rfl rfl).trans (zCI_c rfl (fun r2 s1 => ?_))
  refine (zJ_n rfl).trans ?_
  exact zq_rb hm rfl rfl
set_option maxRecDepth 100000 in
set_option maxHeartbeats 4000000 in
theorem e_X12_newRoad (d : Nat) (x1 : Int) (x2 : Int) (x3 : Int) (σ : zF) : zx (d + 1) 159 [.inl (some 57), .inr (.inl x1), .inr (.inl x2), .inr (.inl x3)] σ = (
if 0 ≤ (σ 57 0) ∧ (σ 57 0) < 12 then (
if 0 ≤ (σ 57 0) ∧ (σ 57 0) < 12 then (
if 0 ≤ (σ 57 0) ∧ (σ 57 0) < 48 then (
if 0 ≤ zw (12 + (σ 57 0)) ∧ zw (12 + (σ 57 0)) < 48 then (
if 0 ≤ zw (24 + (σ 57 0)) ∧ zw (24 + (σ 57 0)) < 48 then (
if 0 ≤ zw (36 + (σ 57 0)) ∧ zw (36 + (σ 57 0)) < 48 then (
zri (σ 57 0) (zset (zset (zset (zset (zset (zset (zset σ 58 (σ 57 0) x1) 59 (σ 57 0) x2) 60 (σ 57 0) x3) 60 (zw (12 + (σ 57 0))) 0) 60 (zw (24 + (σ 57 0))) (-1)) 60 (zw (36 + (σ 57 0))) 0) 57 0 (zw ((σ 57 0) + 1)))) else (
none)) else (
none)) else (
none)) else (
none)) else (
none)) else (
none)) := by
  unfold zx
  have hm := zexec_m zX2 zMT d
  refine (zexec_eq mt_159 _ rfl (LAY, σ) 0).trans ?_
  show zrunL zX2 (zexec zX2 zMT d) K_X12_newRoad U_X12_newRoad 0 [some (.inl (some 57)), some (.inr (.inl x1)), some (.inr (.inl x2)), some (.inr (.inl x3))] [] (LAY, σ) = _
  refine (zq_aln hm (pc' := 1) rfl rfl rfl rfl).trans ?_
  refine (zq_gr hm (pc' := 4) rfl lay_57 rfl rfl).trans ?_
  refine (zJ_n rfl).trans ?_
  refine (zq_aln hm (pc' := 5) rfl rfl rfl rfl).trans ?_
  refine (zq_gf hm (v := (σ 57 0)) (pc' := 8) rfl lay_57 rfl rfl rfl).trans ?_
  refine (zJ_n rfl).trans ?_
  refine (zq_iln hm (pc' := 9) rfl rfl rfl rfl).trans ?_
  refine (zq_ist hm (pc' := 10) rfl lay_58 rfl).trans (zite ?_ rfl)
  refine (zJ_n rfl).trans ?_
  refine (zq_aln hm (pc' := 11) rfl rfl rfl rfl).trans ?_
  refine (zq_gr hm (pc' := 14) rfl lay_57 rfl rfl).trans ?_
  refine (zJ_n rfl).trans ?_
  refine (zq_aln hm (pc' := 15) rfl rfl rfl rfl).trans ?_
  refine (zq_gf hm (v := (σ 57 0)) (pc' := 18) rfl lay_57 rfl (zsn rfl) rfl).trans ?_
  refine (zJ_n rfl).trans ?_
  refine (zq_iln hm (pc' := 19) rfl rfl rfl rfl).trans ?_
  refine (zq_ist hm (pc' := 20) rfl lay_59 rfl).trans (zite ?_ rfl)
  refine (zJ_n rfl).trans ?_
  refine (zq_aln hm (pc' := 21) rfl rfl rfl rfl).trans ?_
  refine (zq_gr hm (pc' := 24) rfl lay_57 rfl rfl).trans ?_
  refine (zJ_n rfl).trans ?_
  refine (zq_aln hm (pc' := 25) rfl rfl rfl rfl).trans ?_
  refine (zq_gf hm (v := (σ 57 0)) (pc' := 28) rfl lay_57 rfl ((zsn rfl).trans (zsn rfl)) rfl).trans ?_
  refine (zJ_n rfl).trans ?_
  refine (zq_iln hm (pc' := 29) rfl rfl rfl rfl).trans ?_
  refine (zq_ist hm (pc' := 30) rfl lay_60 rfl).trans (zite ?_ rfl)
  refine (zJ_n rfl).trans ?_
  refine (zq_aln hm (pc' := 31) rfl rfl rfl rfl).trans ?_
  refine (zq_gr hm (pc' := 34) rfl lay_57 rfl rfl).trans ?_
  refine (zJ_n rfl).trans ?_
  refine (zq_bi hm (pc' := 36) rfl rfl rfl rfl).trans ?_
  refine (zq_aln hm (pc' := 37) rfl rfl rfl rfl).trans ?_
  refine (zq_gf hm (v := (σ 57 0)) (pc' := 40) rfl lay_57 rfl ((zsn rfl).trans ((zsn rfl).trans (zsn rfl))) rfl).trans ?_
  refine (zJ_n rfl).trans ?_
  refine (zq_iadd hm (pc' := 41) rfl rfl rfl).trans ?_
  refine (zq_ic hm (pc' := 42) rfl rfl rfl rfl).trans ?_
  refine (zq_ist hm (pc' := 43) rfl lay_60 rfl).trans (zite ?_ rfl)
  refine (zJ_n rfl).trans ?_
  refine (zq_aln hm (pc' := 44) rfl rfl rfl rfl).trans ?_
  refine (zq_gr hm (pc' := 47) rfl lay_57 rfl rfl).trans ?_
  refine (zJ_n rfl).trans ?_
  refine (zq_bi hm (pc' := 49) rfl rfl rfl rfl).trans ?_
  refine (zq_aln hm (pc' := 50) rfl rfl rfl rfl).trans ?_
  refine (zq_gf hm (v := (σ 57 0)) (pc' := 53) rfl lay_57 rfl ((zsn rfl).trans ((zsn rfl).trans ((zsn rfl).trans (zsn rfl)))) rfl).trans ?_
  refine (zJ_n rfl).trans ?_
  refine (zq_iadd hm (pc' := 54) rfl rfl rfl).trans ?_
  refine (zq_ic hm (pc' := 55) rfl rfl rfl rfl).trans ?_
  refine (zq_ist hm (pc' := 56) rfl lay_60 rfl).trans (zite ?_ rfl)
  refine (zJ_n rfl).trans ?_
  refine (zq_aln hm (pc' := 57) rfl rfl rfl rfl).trans ?_
  refine (zq_gr hm (pc' := 60) rfl lay_57 rfl rfl).trans ?_
  refine (zJ_n rfl).trans ?_
  refine (zq_bi hm (pc' := 62) rfl rfl rfl rfl).trans ?_
  refine (zq_aln hm (pc' := 63) rfl rfl rfl rfl).trans ?_
  refine (zq_gf hm (v := (σ 57 0)) (pc' := 66) rfl lay_57 rfl ((zsn rfl).trans ((zsn rfl).trans ((zsn rfl).trans ((zsn rfl).trans (zsn rfl))))) rfl).trans ?_
  refine (zJ_n rfl).trans ?_
  refine (zq_iadd hm (pc' := 67) rfl rfl rfl).trans ?_
  refine (zq_ic hm (pc' := 68) rfl rfl rfl rfl).trans ?_
  refine (zq_ist hm (pc' := 69) rfl lay_60 rfl).trans (zite ?_ rfl)
  refine (zJ_n rfl).trans ?_
  refine (zq_aln hm (pc' := 70) rfl rfl rfl rfl).trans ?_
  refine (zq_dup hm (pc' := 71) rfl rfl rfl rfl).trans ?_
  refine (zq_gf hm (v := (σ 57 0)) (pc' := 74) rfl lay_57 rfl ((zsn rfl).trans ((zsn rfl).trans ((zsn rfl).trans ((zsn rfl).trans ((zsn rfl).trans (zsn rfl)))))) rfl).trans ?_
  refine (zJ_n rfl).trans ?_
  refine (zq_dupx hm (pc' := 75) rfl rfl rfl rfl rfl).trans ?_
  refine (zq_ic hm (pc' := 76) rfl rfl rfl rfl).trans ?_
  refine (zq_iadd hm (pc' := 77) rfl rfl rfl).trans ?_
  refine (zq_pf hm (pc' := 80) rfl lay_57 rfl rfl rfl).trans ?_
  refine (zJ_n rfl).trans ?_
  exact zq_ri hm rfl rfl
