/-! equations, 10 -/
set_option maxRecDepth 100000 in
set_option maxHeartbeats 4000000 in
theorem e_X12_above (d : Nat) (x0 : Int) (σ : zF) : zx (d + 1) 235 [.inr (.inl x0)] σ = (
if x0 = 3 then (
zri 2 σ) else (
if x0 = 4 then (
zri 1 σ) else (
if x0 = 5 then (
zri 3 σ) else (
if x0 = 6 then (
zri 0 σ) else (
if x0 = 7 then (
zri 4 σ) else (
zri 0 σ)))))) := by
  unfold zx
  have hm := zexec_m zX2 zMT d
  refine (zexec_eq mt_235 _ rfl (LAY, σ) 0).trans ?_
  show zrunL zX2 (zexec zX2 zMT d) K_X12_above U_X12_above 0 [some (.inr (.inl x0))] [] (LAY, σ) = _
  refine (zq_iln hm (pc' := 1) rfl rfl rfl rfl).trans ?_
  refine (zq_ts hm rfl).trans (zsw_c (k' := fun _ => none) ?_ (zsw_c (k' := fun _ => none) ?_ (zsw_c (k' := fun _ => none) ?_ (zsw_c (k' := fun _ => none) ?_ (zsw_c (k' := fun _ => none) ?_ (zsw_n ?_))))))
  · refine (zJ_n rfl).trans ?_
    refine (zq_ic hm (pc' := 37) rfl rfl rfl rfl).trans ?_
    exact zq_ri hm rfl rfl
  · refine (zJ_n rfl).trans ?_
    refine (zq_ic hm (pc' := 39) rfl rfl rfl rfl).trans ?_
    exact zq_ri hm rfl rfl
  · refine (zJ_n rfl).trans ?_
    refine (zq_ic hm (pc' := 41) rfl rfl rfl rfl).trans ?_
    exact zq_ri hm rfl rfl
  · refine (zJ_n rfl).trans ?_
    refine (zq_ic hm (pc' := 45) rfl rfl rfl rfl).trans ?_
    exact zq_ri hm rfl rfl
  · refine (zJ_n rfl).trans ?_
    refine (zq_ic hm (pc' := 43) rfl rfl rfl rfl).trans ?_
    exact zq_ri hm rfl rfl
  · refine (zJ_n rfl).trans ?_
    refine (zq_ic hm (pc' := 45) rfl rfl rfl rfl).trans ?_
    exact zq_ri hm rfl rfl
set_option maxRecDepth 100000 in
set_option maxHeartbeats 4000000 in
theorem e_X12_ran (d : Nat) (x1 : Int) (σ : zF) : zx (d + 1) 236 [.inl (some 57), .inr (.inl x1)] σ = (
if (σ 57 37) < 24 then (
if 0 ≤ (σ 57 37) ∧ (σ 57 37) < 24 then (
zrv (zset (zset σ 80 (σ 57 37) x1) 57 37 (zw ((σ 57 37) + 1)))) else (
none)) else (
zrv (zset σ 57 37 (zw ((σ 57 37) + 1))))) := by
  unfold zx
  have hm := zexec_m zX2 zMT d
  refine (zexec_eq mt_236 _ rfl (LAY, σ) 0).trans ?_
  show zrunL zX2 (zexec zX2 zMT d) K_X12_ran U_X12_ran 0 [some (.inl (some 57)), some (.inr (.inl x1))] [] (LAY, σ) = _
  refine (zq_aln hm (pc' := 1) rfl rfl rfl rfl).trans ?_
  refine (zq_gf hm (v := (σ 57 37)) (pc' := 4) rfl lay_57 rfl rfl rfl).trans ?_
  refine (zJ_n rfl).trans ?_
  refine (zq_bi hm (pc' := 6) rfl rfl rfl rfl).trans ?_
  refine (zq_ige hm (pc' := 9) rfl rfl).trans (zite ?_ ?_)
  · refine (zJ_n rfl).trans ?_
    refine (zq_aln hm (pc' := 10) rfl rfl rfl rfl).trans ?_
    refine (zq_gr hm (pc' := 13) rfl lay_57 rfl rfl).trans ?_
    refine (zJ_n rfl).trans ?_
    refine (zq_aln hm (pc' := 14) rfl rfl rfl rfl).trans ?_
    refine (zq_gf hm (v := (σ 57 37)) (pc' := 17) rfl lay_57 rfl rfl rfl).trans ?_
    refine (zJ_n rfl).trans ?_
    refine (zq_iln hm (pc' := 18) rfl rfl rfl rfl).trans ?_
    refine (zq_ist hm (pc' := 19) rfl lay_80 rfl).trans (zite ?_ rfl)
    refine (zJ_n rfl).trans ?_
    refine (zq_aln hm (pc' := 20) rfl rfl rfl rfl).trans ?_
    refine (zq_dup hm (pc' := 21) rfl rfl rfl rfl).trans ?_
    refine (zq_gf hm (v := (σ 57 37)) (pc' := 24) rfl lay_57 rfl (zsn rfl) rfl).trans ?_
    refine (zJ_n rfl).trans ?_
    refine (zq_ic hm (pc' := 25) rfl rfl rfl rfl).trans ?_
    refine (zq_iadd hm (pc' := 26) rfl rfl rfl).trans ?_
    refine (zq_pf hm (pc' := 29) rfl lay_57 rfl rfl rfl).trans ?_
    refine (zJ_n rfl).trans ?_
    exact zq_rv hm rfl
  · refine (zJ_n rfl).trans ?_
    refine (zq_aln hm (pc' := 20) rfl rfl rfl rfl).trans ?_
    refine (zq_dup hm (pc' := 21) rfl rfl rfl rfl).trans ?_
    refine (zq_gf hm (v := (σ 57 37)) (pc' := 24) rfl lay_57 rfl rfl rfl).trans ?_
    refine (zJ_n rfl).trans ?_
    refine (zq_ic hm (pc' := 25) rfl rfl rfl rfl).trans ?_
    refine (zq_iadd hm (pc' := 26) rfl rfl rfl).trans ?_
    refine (zq_pf hm (pc' := 29) rfl lay_57 rfl rfl rfl).trans ?_
    refine (zJ_n rfl).trans ?_
    exact zq_rv hm rfl
set_option maxRecDepth 100000 in
set_option maxHeartbeats 4000000 in
theorem e_X12_leadsBy (d : Nat) (x1 : Int) (x2 : Int) (x3 : Int) (σ : zF) : zx (d + 1) 237 [.inl (some 57), .inr (.inl x1), .inr (.inl x2), .inr (.inl x3)] σ = (
if x2 = 0 then (
zCV LAY (zx d 236 [.inl (some 57), .inr (.inl 1)] σ) fun s5 =>
zri (zw (x3 + x1)) s5) else (
if x2 = 1 then (
zCV LAY (zx d 236 [.inl (some 57), .inr (.inl 20)] σ) fun s6 =>
zCI LAY (zx d 237 [.inl (some 57), .inr (.inl x1), .inr (.inl 0), .inr (.inl x3)] s6) fun r8 s7 =>
zri (zw (r8 + 3)) s7) else (
if x2 = 6 then (
zCV LAY (zx d 236 [.inl (some 57), .inr (.inl 70)] σ) fun s9 =>
zCI LAY (zx d 237 [.inl (some 57), .inr (.inl x1), .inr (.inl 0), .inr (.inl x3)] s9) fun r11 s10 =>
zri (zw (r11 * 2)) s10) else (
zCI LAY (zx d 235 [.inr (.inl x2)] σ) fun r2 s1 =>
zCI LAY (zx d 237 [.inl (some 57), .inr (.inl x1), .inr (.inl r2), .inr (.inl x3)] s1) fun r4 s3 =>
zri r4 s3)))) := by
  unfold zx
  have hm := zexec_m zX2 zMT d
  refine (zexec_eq mt_237 _ rfl (LAY, σ) 0).trans ?_
  show zrunL zX2 (zexec zX2 zMT d) K_X12_leadsBy U_X12_leadsBy 0 [some (.inl (some 57)), some (.inr (.inl x1)), some (.inr (.inl x2)), some (.inr (.inl x3))] [] (LAY, σ) = _
  refine (zq_iln hm (pc' := 1) rfl rfl rfl rfl).trans ?_
  refine (zq_lk hm rfl).trans (zsw_c (k' := fun _ => none) ?_ (zsw_c (k' := fun _ => none) ?_ (zsw_c (k' := fun _ => none) ?_ (zsw_n ?_))))
  · refine (zJ_n rfl).trans ?_
    refine (zq_aln hm (pc' := 37) rfl rfl rfl rfl).trans ?_
    refine (zq_ic hm (pc' := 38) rfl rfl rfl rfl).trans ?_
    refine (zq_v0 hm (pc' := 41) rfl rfl rfl (cls_57_12) rfl rfl).trans (zCV_c rfl (fun s5 => ?_))
    refine (zJ_n rfl).trans ?_
    refine (zq_iln hm (pc' := 42) rfl rfl rfl rfl).trans ?_
    refine (zq_iln hm (pc' := 43) rfl rfl rfl rfl).trans ?_
    refine (zq_iadd hm (pc' := 44) rfl rfl rfl).trans ?_
    exact zq_ri hm rfl rfl
  · refine (zJ_n rfl).trans ?_
    refine (zq_aln hm (pc' := 46) rfl rfl rfl rfl).trans ?_
    refine (zq_bi hm (pc' := 48) rfl rfl rfl rfl).trans ?_
    refine (zq_v0 hm (pc' := 51) rfl rfl rfl (cls_57_12) rfl rfl).trans (zCV_c rfl (fun s6 => ?_))
    refine (zJ_n rfl).trans ?_
    refine (zq_aln hm (pc' := 52) rfl rfl rfl rfl).trans ?_
    refine (zq_iln hm (pc' := 53) rfl rfl rfl rfl).trans ?_
    refine (zq_ic hm (pc' := 54) rfl rfl rfl rfl).trans ?_
    refine (zq_iln hm (pc' := 55) rfl rfl rfl rfl).trans ?_
    refine (zq_v1 hm (pc' := 58) rfl rfl rfl (cls_57_12) rfl rfl).trans (zCI_c rfl (fun r8 s7 => ?_))
    refine (zJ_n rfl).trans ?_
    refine (zq_ic hm (pc' := 59) rfl rfl rfl rfl).trans ?_
    refine (zq_iadd hm (pc' := 60) rfl rfl rfl).trans ?_
    exact zq_ri hm rfl rfl
  · refine (zJ_n rfl).trans ?_
    refine (zq_aln hm (pc' := 62) rfl rfl rfl rfl).trans ?_
    refine (zq_bi hm (pc' := 64) rfl rfl rfl rfl).trans ?_
    refine (zq_v0 hm (pc' := 67) rfl rfl rfl (cls_57_12) rfl rfl).trans (zCV_c rfl (fun s9 => ?_))
    refine (zJ_n rfl).trans ?_
    refine (zq_aln hm (pc' := 68) rfl rfl rfl rfl).trans ?_
    refine (zq_iln hm (pc' := 69) rfl rfl rfl rfl).trans ?_
    refine (zq_ic hm (pc' := 70) rfl rfl rfl rfl).trans ?_
    refine (zq_iln hm (pc' := 71) rfl rfl rfl rfl).trans ?_
    refine (zq_v1 hm (pc' := 74) rfl rfl rfl (cls_57_12) rfl rfl).trans (zCI_c rfl (fun r11 s10 => ?_))
    refine (zJ_n rfl).trans ?_
    refine (zq_ic hm (pc' := 75) rfl rfl rfl rfl).trans ?_
    refine (zq_imul hm (pc' := 76) rfl rfl rfl).trans ?_
    exact zq_ri hm rfl rfl
  · refine (zJ_n rfl).trans ?_
    refine (zq_aln hm (pc' := 78) rfl rfl rfl rfl).trans ?_
    refine (zq_iln hm (pc' := 79) rfl rfl rfl rfl).trans ?_
    refine (zq_iln hm (pc' := 80) rfl rfl rfl rfl).trans ?_
    refine (zq_s1 hm (pc' := 83) rfl rfl rfl rfl rfl rfl).trans (zCI_c rfl (fun r2 s1 => ?_))
    refine (zJ_n rfl).trans ?_
    refine (zq_iln hm (pc' := 84) rfl rfl rfl rfl).trans ?_
    refine (zq_v1 hm (pc' := 87) rfl rfl rfl (cls_57_12) rfl rfl).trans (zCI_c rfl (fun r4 s3 => ?_))
    refine (zJ_n rfl).trans ?_
    exact zq_ri hm rfl rfl
set_option maxRecDepth 100000 in
set_option maxHeartbeats 4000000 in
theorem e_X12_thanksBy (d : Nat) (x1 : Int) (x2 : Int) (x3 : Int) (σ : zF) : zx (d + 1) 238 [.inl (some 57), .inr (.inl x1), .inr (.inl x2), .inr (.inl x3)] σ = (
if x2 = 0 then (
zCV LAY (zx d 236 [.inl (some 57), .inr (.inl 10)] σ) fun s5 =>
if 0 ≤ x1 ∧ x1 < 50 then (
zCI LAY (zx d 237 [.inl (some 57), .inr (.inl x1), .inr (.inl (s5 79 x1)), .inr (.inl x3)] s5) fun r7 s6 =>
zri (zw (r7 * 2)) s6) else (
none)) else (
if x2 = 1 then (
zCI LAY (zx d 235 [.inr (.inl x2)] σ) fun r9 s8 =>
zCI LAY (zx d 238 [.inl (some 57), .inr (.inl x1), .inr (.inl r9), .inr (.inl x3)] s8) fun r11 s10 =>
zri r11 s10) else (
if x2 = 2 then (
zCV LAY (zx d 236 [.inl (some 57), .inr (.inl 30)] σ) fun s12 =>
zCI LAY (zx d 238 [.inl (some 57), .inr (.inl x1), .inr (.inl 0), .inr (.inl x3)] s12) fun r14 s13 =>
zri (zw (-r14)) s13) else (
if x2 = 3 then (
zCV LAY (zx d 236 [.inl (some 57), .inr (.inl 41)] σ) fun s15 =>
zCI LAY (zx d 238 [.inl (some 57), .inr (.inl x1), .inr (.inl 2), .inr (.inl (zw (x3 + 1)))] s15) fun r17 s16 =>
zri r17 s16) else (
if x2 = 4 then (
zCI LAY (zx d 235 [.inr (.inl x2)] σ) fun r19 s18 =>
zCI LAY (zx d 238 [.inl (some 57), .inr (.inl x1), .inr (.inl r19), .inr (.inl x3)] s18) fun r21 s20 =>
zri r21 s20) else (
if x2 = 5 then (
zCI LAY (zx d 235 [.inr (.inl x2)] σ) fun r23 s22 =>
zCI LAY (zx d 238 [.inl (some 57), .inr (.inl x1), .inr (.inl r23), .inr (.inl x3)] s22) fun r25 s24 =>
zri r25 s24) else (
if x2 = 6 then (
zCI LAY (zx d 235 [.inr (.inl x2)] σ) fun r27 s26 =>
zCI LAY (zx d 238 [.inl (some 57), .inr (.inl x1), .inr (.inl r27), .inr (.inl x3)] s26) fun r29 s28 =>
zri r29 s28) else (
if x2 = 7 then (
zCV LAY (zx d 236 [.inl (some 57), .inr (.inl 80)] σ) fun s30 =>
zCI LAY (zx d 238 [.inl (some 57), .inr (.inl x1), .inr (.inl 4), .inr (.inl x3)] s30) fun r32 s31 =>
if 0 ≤ x1 ∧ x1 < 50 then (
zCI LAY (zx d 239 [.inl (some 57), .inr (.inl x1), .inr (.inl (s31 79 x1)), .inr (.inl 2)] s31) fun r34 s33 =>
zri (zw (r32 + r34)) s33) else (
none)) else (
zCI LAY (zx d 235 [.inr (.inl x2)] σ) fun r2 s1 =>
zCI LAY (zx d 238 [.inl (some 57), .inr (.inl x1), .inr (.inl r2), .inr (.inl x3)] s1) fun r4 s3 =>
zri r4 s3))))))))) := by
  unfold zx
  have hm := zexec_m zX2 zMT d
  refine (zexec_eq mt_238 _ rfl (LAY, σ) 0).trans ?_
  show zrunL zX2 (zexec zX2 zMT d) K_X12_thanksBy U_X12_thanksBy 0 [some (.inl (some 57)), some (.inr (.inl x1)), some (.inr (.inl x2)), some (.inr (.inl x3)), none] [] (LAY, σ) = _
  refine (zq_iln hm (pc' := 1) rfl rfl rfl rfl).trans ?_
  refine (zq_ts hm rfl).trans (zsw_c (k' := fun _ => none) ?_ (zsw_c (k' := fun _ => none) ?_ (zsw_c (k' := fun _ => none) ?_ (zsw_c (k' := fun _ => none) ?_ (zsw_c (k' := fun _ => none) ?_ (zsw_c (k' := fun _ => none) ?_ (zsw_c (k' := fun _ => none) ?_ (zsw_c (k' := fun _ => none) ?_ (zsw_n ?_)))))))))
  · refine (zJ_n rfl).trans ?_
    refine (zq_aln hm (pc' := 49) rfl rfl rfl rfl).trans ?_
    refine (zq_bi hm (pc' := 51) rfl rfl rfl rfl).trans ?_
    refine (zq_v0 hm (pc' := 54) rfl rfl rfl (cls_57_12) rfl rfl).trans (zCV_c rfl (fun s5 => ?_))
    refine (zJ_n rfl).trans ?_
    refine (zq_aln hm (pc' := 55) rfl rfl rfl rfl).trans ?_
    refine (zq_iln hm (pc' := 56) rfl rfl rfl rfl).trans ?_
    refine (zq_aln hm (pc' := 57) rfl rfl rfl rfl).trans ?_
    refine (zq_gr hm (pc' := 60) rfl lay_57 rfl rfl).trans ?_
    refine (zJ_n rfl).trans ?_
    refine (zq_iln hm (pc' := 61) rfl rfl rfl rfl).trans ?_
    refine (zq_ia hm (v := (s5 79 x1)) (pc' := 62) rfl lay_79 rfl rfl).trans (zite ?_ rfl)
    refine (zJ_n rfl).trans ?_
    refine (zq_iln hm (pc' := 63) rfl rfl rfl rfl).trans ?_
    refine (zq_v1 hm (pc' := 66) rfl rfl rfl (cls_57_12) rfl rfl).trans (zCI_c rfl (fun r7 s6 => ?_))
    refine (zJ_n rfl).trans ?_
    refine (zq_ic hm (pc' := 67) rfl rfl rfl rfl).trans ?_
    refine (zq_imul hm (pc' := 68) rfl rfl rfl).trans ?_
    exact zq_ri hm rfl rfl
  · refine (zJ_n rfl).trans ?_
    refine (zq_aln hm (pc' := 132) rfl rfl rfl rfl).trans ?_
    refine (zq_iln hm (pc' := 133) rfl rfl rfl rfl).trans ?_
    refine (zq_iln hm (pc' := 134) rfl rfl rfl rfl).trans ?_
    refine (zq_s1 hm (pc' := 137) rfl rfl rfl rfl rfl rfl).trans (zCI_c rfl (fun r9 s8 => ?_))
    refine (zJ_n rfl).trans ?_
    refine (zq_iln hm (pc' := 138) rfl rfl rfl rfl).trans ?_
    refine (zq_v1 hm (pc' := 141) rfl rfl rfl (cls_57_12) rfl rfl).trans (zCI_c rfl (fun r11 s10 => ?_))
    refine (zJ_n rfl).trans ?_
    exact zq_ri hm rfl rfl
  · refine (zJ_n rfl).trans ?_
    refine (zq_aln hm (pc' := 70) rfl rfl rfl rfl).trans ?_
    refine (zq_bi hm (pc' := 72) rfl rfl rfl rfl).trans ?_
    refine (zq_v0 hm (pc' := 75) rfl rfl rfl (cls_57_12) rfl rfl).trans (zCV_c rfl (fun s12 => ?_))
    refine (zJ_n rfl).trans ?_
    refine (zq_aln hm (pc' := 76) rfl rfl rfl rfl).trans ?_
    refine (zq_iln hm (pc' := 77) rfl rfl rfl rfl).trans ?_
    refine (zq_ic hm (pc' := 78) rfl rfl rfl rfl).trans ?_
    refine (zq_iln hm (pc' := 79) rfl rfl rfl rfl).trans ?_
    refine (zq_v1 hm (pc' := 82) rfl rfl rfl (cls_57_12) rfl rfl).trans (zCI_c rfl (fun r14 s13 => ?_))
    refine (zJ_n rfl).trans ?_
    refine (zq_ineg hm (pc' := 83) rfl rfl rfl).trans ?_
    exact zq_ri hm rfl rfl
  · refine (zJ_n rfl).trans ?_
    refine (zq_aln hm (pc' := 85) rfl rfl rfl rfl).trans ?_
    refine (zq_bi hm (pc' := 87) rfl rfl rfl rfl).trans ?_
    refine (zq_v0 hm (pc' := 90) rfl rfl rfl (cls_57_12) rfl rfl).trans (zCV_c rfl (fun s15 => ?_))
    refine (zJ_n rfl).trans ?_
    refine (zq_aln hm (pc' := 91) rfl rfl rfl rfl).trans ?_
    refine (zq_iln hm (pc' := 92) rfl rfl rfl rfl).trans ?_
    refine (zq_ic hm (pc' := 93) rfl rfl rfl rfl).trans ?_
    refine (zq_iln hm (pc' := 94) rfl rfl rfl rfl).trans ?_
    refine (zq_ic hm (pc' := 95) rfl rfl rfl rfl).trans ?_
    refine (zq_iadd hm (pc' := 96) rfl rfl rfl).trans ?_
    refine (zq_v1 hm (pc' := 99) rfl rfl rfl (cls_57_12) rfl rfl).trans (zCI_c rfl (fun r17 s16 => ?_))
    refine (zJ_n rfl).trans ?_
    exact zq_ri hm rfl rfl
  · refine (zJ_n rfl).trans ?_
    refine (zq_aln hm (pc' := 132) rfl rfl rfl rfl).trans ?_
    refine (zq_iln hm (pc' := 133) rfl rfl rfl rfl).trans ?_
    refine (zq_iln hm (pc' := 134) rfl rfl rfl rfl).trans ?_
    refine (zq_s1 hm (pc' := 137) rfl rfl rfl rfl rfl rfl).trans (zCI_c rfl (fun r19 s18 => ?_))
    refine (zJ_n rfl).trans ?_
    refine (zq_iln hm (pc' := 138) rfl rfl rfl rfl).trans ?_
    refine (zq_v1 hm (pc' := 141) rfl rfl rfl (cls_57_12) rfl rfl).trans (zCI_c rfl (fun r21 s20 => ?_))
    refine (zJ_n rfl).trans ?_
    exact zq_ri hm rfl rfl
  · refine (zJ_n rfl).trans ?_
    refine (zq_aln hm (pc' := 132) rfl rfl rfl rfl).trans ?_
    refine (zq_iln hm (pc' := 133) rfl rfl rfl rfl).trans ?_
    refine (zq_iln hm (pc' := 134) rfl rfl rfl rfl).trans ?_
    refine (zq_s1 hm (pc' := 137) rfl rfl rfl rfl rfl rfl).trans (zCI_c rfl (fun r23 s22 => ?_))
    refine (zJ_n rfl).trans ?_
    refine (zq_iln hm (pc' := 138) rfl rfl rfl rfl).trans ?_
    refine (zq_v1 hm (pc' := 141) rfl rfl rfl (cls_57_12) rfl rfl).trans (zCI_c rfl (fun r25 s24 => ?_))
    refine (zJ_n rfl).trans ?_
    exact zq_ri hm rfl rfl
  · refine (zJ_n rfl).trans ?_
    refine (zq_aln hm (pc' := 132) rfl rfl rfl rfl).trans ?_
    refine (zq_iln hm (pc' := 133) rfl rfl rfl rfl).trans ?_
    refine (zq_iln hm (pc' := 134) rfl rfl rfl rfl).trans ?_
    refine (zq_s1 hm (pc' := 137) rfl rfl rfl rfl rfl rfl).trans (zCI_c rfl (fun r27 s26 => ?_))
    refine (zJ_n rfl).trans ?_
    refine (zq_iln hm (pc' := 138) rfl rfl rfl rfl).trans ?_
    refine (zq_v1 hm (pc' := 141) rfl rfl rfl (cls_57_12) rfl rfl).trans (zCI_c rfl (fun r29 s28 => ?_))
    refine (zJ_n rfl).trans ?_
    exact zq_ri hm rfl rfl
  · refine (zJ_n rfl).trans ?_
    refine (zq_aln hm (pc' := 101) rfl rfl rfl rfl).trans ?_
    refine (zq_bi hm (pc' := 103) rfl rfl rfl rfl).trans ?_
    refine (zq_v0 hm (pc' := 106) rfl rfl rfl (cls_57_12) rfl rfl).trans (zCV_c rfl (fun s30 => ?_))
    refine (zJ_n rfl).trans ?_
    refine (zq_aln hm (pc' := 107) rfl rfl rfl rfl).trans ?_
    refine (zq_iln hm (pc' := 108) rfl rfl rfl rfl).trans ?_
    refine (zq_ic hm (pc' := 109) rfl rfl rfl rfl).trans ?_
    refine (zq_iln hm (pc' := 110) rfl rfl rfl rfl).trans ?_
    refine (zq_v1 hm (pc' := 113) rfl rfl rfl (cls_57_12) rfl rfl).trans (zCI_c rfl (fun r32 s31 => ?_))
    refine (zJ_n rfl).trans ?_
    refine (zq_is hm (ls' := [some (.inl (some 57)), some (.inr (.inl x1)), some (.inr (.inl x2)), some (.inr (.inl x3)), some (.inr (.inl r32))]) (pc' := 115) rfl rfl rfl rfl).trans ?_
    refine (zq_il hm (pc' := 117) rfl rfl rfl rfl).trans ?_
    refine (zq_aln hm (pc' := 118) rfl rfl rfl rfl).trans ?_
    refine (zq_iln hm (pc' := 119) rfl rfl rfl rfl).trans ?_
    refine (zq_aln hm (pc' := 120) rfl rfl rfl rfl).trans ?_
    refine (zq_gr hm (pc' := 123) rfl lay_57 rfl rfl).trans ?_
    refine (zJ_n rfl).trans ?_
    refine (zq_iln hm (pc' := 124) rfl rfl rfl rfl).trans ?_
    refine (zq_ia hm (v := (s31 79 x1)) (pc' := 125) rfl lay_79 rfl rfl).trans (zite ?_ rfl)
    refine (zJ_n rfl).trans ?_
    refine (zq_ic hm (pc' := 126) rfl rfl rfl rfl).trans ?_
    refine (zq_v1 hm (pc' := 129) rfl rfl rfl (cls_57_12) rfl rfl).trans (zCI_c rfl (fun r34 s33 => ?_))
    refine (zJ_n rfl).trans ?_
    refine (zq_iadd hm (pc' := 130) rfl rfl rfl).trans ?_
    exact zq_ri hm rfl rfl
  · refine (zJ_n rfl).trans ?_
    refine (zq_aln hm (pc' := 132) rfl rfl rfl rfl).trans ?_
    refine (zq_iln hm (pc' := 133) rfl rfl rfl rfl).trans ?_
    refine (zq_iln hm (pc' := 134) rfl rfl rfl rfl).trans ?_
    refine (zq_s1 hm (pc' := 137) rfl rfl rfl rfl rfl rfl).trans (zCI_c rfl (fun r2 s1 => ?_))
    refine (zJ_n rfl).trans ?_
    refine (zq_iln hm (pc' := 138) rfl rfl rfl rfl).trans ?_
    refine (zq_v1 hm (pc' := 141) rfl rfl rfl (cls_57_12) rfl rfl).trans (zCI_c rfl (fun r4 s3 => ?_))
    refine (zJ_n rfl).trans ?_
    exact zq_ri hm rfl rfl
set_option maxRecDepth 100000 in
set_option maxHeartbeats 4000000 in
theorem e_X12_sulksBy (d : Nat) (x1 : Int) (x2 : Int) (x3 : Int) (σ : zF) : zx (d + 1) 239 [.inl (some 57), .inr (.inl x1), .inr (.inl x2), .inr (.inl x3)] σ = (
if x2 = 0 then (
zCV LAY (zx d 236 [.inl (some 57), .inr (.inl 11)] σ) fun s5 =>
zri (zxor x3 x1) s5) else (
if x2 = 1 then (
zCI LAY (zx d 235 [.inr (.inl x2)] σ) fun r7 s6 =>
zCI LAY (zx d 239 [.inl (some 57), .inr (.inl x1), .inr (.inl r7), .inr (.inl x3)] s6) fun r9 s8 =>
zri r9 s8) else (
if x2 = 2 then (
zCI LAY (zx d 235 [.inr (.inl x2)] σ) fun r11 s10 =>
zCI LAY (zx d 239 [.inl (some 57), .inr (.inl x1), .inr (.inl r11), .inr (.inl x3)] s10) fun r13 s12 =>
zri r13 s12) else (
if x2 = 3 then (
zCV LAY (zx d 236 [.inl (some 57), .inr (.inl 40)] σ) fun s14 =>
zCI LAY (zx d 239 [.inl (some 57), .inr (.inl x1), .inr (.inl 2), .inr (.inl x3)] s14) fun r16 s15 =>
zri (zw (r16 * 3)) s15) else (
if x2 = 4 then (
zCV LAY (zx d 236 [.inl (some 57), .inr (.inl 50)] σ) fun s17 =>
zCI LAY (zx d 239 [.inl (some 57), .inr (.inl x1), .inr (.inl 1), .inr (.inl x3)] s17) fun r19 s18 =>
if 0 ≤ x1 ∧ x1 < 50 then (
zCI LAY (zx d 237 [.inl (some 57), .inr (.inl x1), .inr (.inl (s18 79 x1)), .inr (.inl 2)] s18) fun r21 s20 =>
zri (zw (r19 - r21)) s20) else (
none)) else (
zCI LAY (zx d 235 [.inr (.inl x2)] σ) fun r2 s1 =>
zCI LAY (zx d 239 [.inl (some 57), .inr (.inl x1), .inr (.inl r2), .inr (.inl x3)] s1) fun r4 s3 =>
zri r4 s3)))))) := by
  unfold zx
  have hm := zexec_m zX2 zMT d
  refine (zexec_eq mt_239 _ rfl (LAY, σ) 0).trans ?_
  show zrunL zX2 (zexec zX2 zMT d) K_X12_sulksBy U_X12_sulksBy 0 [some (.inl (some 57)), some (.inr (.inl x1)), some (.inr (.inl x2)), some (.inr (.inl x3)), none] [] (LAY, σ) = _
  refine (zq_iln hm (pc' := 1) rfl rfl rfl rfl).trans ?_
  refine (zq_ts hm rfl).trans (zsw_c (k' := fun _ => none) ?_ (zsw_c (k' := fun _ => none) ?_ (zsw_c (k' := fun _ => none) ?_ (zsw_c (k' := fun _ => none) ?_ (zsw_c (k' := fun _ => none) ?_ (zsw_n ?_))))))
  · refine (zJ_n rfl).trans ?_
    refine (zq_aln hm (pc' := 37) rfl rfl rfl rfl).trans ?_
    refine (zq_bi hm (pc' := 39) rfl rfl rfl rfl).trans ?_
    refine (zq_v0 hm (pc' := 42) rfl rfl rfl (cls_57_12) rfl rfl).trans (zCV_c rfl (fun s5 => ?_))
    refine (zJ_n rfl).trans ?_
    refine (zq_iln hm (pc' := 43) rfl rfl rfl rfl).trans ?_
    refine (zq_iln hm (pc' := 44) rfl rfl rfl rfl).trans ?_
    refine (zq_ixor hm (pc' := 45) rfl rfl rfl).trans ?_
    exact zq_ri hm rfl rfl
  · refine (zJ_n rfl).trans ?_
    refine (zq_aln hm (pc' := 94) rfl rfl rfl rfl).trans ?_
    refine (zq_iln hm (pc' := 95) rfl rfl rfl rfl).trans ?_
    refine (zq_iln hm (pc' := 96) rfl rfl rfl rfl).trans ?_
    refine (zq_s1 hm (pc' := 99) rfl rfl rfl rfl rfl rfl).trans (zCI_c rfl (fun r7 s6 => ?_))
    refine (zJ_n rfl).trans ?_
    refine (zq_iln hm (pc' := 100) rfl rfl rfl rfl).trans ?_
    refine (zq_v1 hm (pc' := 103) rfl rfl rfl (cls_57_12) rfl rfl).trans (zCI_c rfl (fun r9 s8 => ?_))
    refine (zJ_n rfl).trans ?_
    exact zq_ri hm rfl rfl
  · refine (zJ_n rfl).trans ?_
    refine (zq_aln hm (pc' := 94) rfl rfl rfl rfl).trans ?_
    refine (zq_iln hm (pc' := 95) rfl rfl rfl rfl).trans ?_
    refine (zq_iln hm (pc' := 96) rfl rfl rfl rfl).trans ?_
    refine (zq_s1 hm (pc' := 99) rfl rfl rfl rfl rfl rfl).trans (zCI_c rfl (fun r11 s10 => ?_))
    refine (zJ_n rfl).trans ?_
    refine (zq_iln hm (pc' := 100) rfl rfl rfl rfl).trans ?_
    refine (zq_v1 hm (pc' := 103) rfl rfl rfl (cls_57_12) rfl rfl).trans (zCI_c rfl (fun r13 s12 => ?_))
    refine (zJ_n rfl).trans ?_
    exact zq_ri hm rfl rfl
  · refine (zJ_n rfl).trans ?_
    refine (zq_aln hm (pc' := 47) rfl rfl rfl rfl).trans ?_
    refine (zq_bi hm (pc' := 49) rfl rfl rfl rfl).trans ?_
    refine (zq_v0 hm (pc' := 52) rfl rfl rfl (cls_57_12) rfl rfl).trans (zCV_c rfl (fun s14 => ?_))
    refine (zJ_n rfl).trans ?_
    refine (zq_aln hm (pc' := 53) rfl rfl rfl rfl).trans ?_
    refine (zq_iln hm (pc' := 54) rfl rfl rfl rfl).trans ?_
    refine (zq_ic hm (pc' := 55) rfl rfl rfl rfl).trans ?_
    refine (zq_iln hm (pc' := 56) rfl rfl rfl rfl).trans ?_
    refine (zq_v1 hm (pc' := 59) rfl rfl rfl (cls_57_12) rfl rfl).trans (zCI_c rfl (fun r16 s15 => ?_))
    refine (zJ_n rfl).trans ?_
    refine (zq_ic hm (pc' := 60) rfl rfl rfl rfl).trans ?_
    refine (zq_imul hm (pc' := 61) rfl rfl rfl).trans ?_
    exact zq_ri hm rfl rfl
  · refine (zJ_n rfl).trans ?_
    refine (zq_aln hm (pc' := 63) rfl rfl rfl rfl).trans ?_
    refine (zq_bi hm (pc' := 65) rfl rfl rfl rfl).trans ?_
    refine (zq_v0 hm (pc' := 68) rfl rfl rfl (cls_57_12) rfl rfl).trans (zCV_c rfl (fun s17 => ?_))
    refine (zJ_n rfl).trans ?_
    refine (zq_aln hm (pc' := 69) rfl rfl rfl rfl).trans ?_
    refine (zq_iln hm (pc' := 70) rfl rfl rfl rfl).trans ?_
    refine (zq_ic hm (pc' := 71) rfl rfl rfl rfl).trans ?_
    refine (zq_iln hm (pc' := 72) rfl rfl rfl rfl).trans ?_
    refine (zq_v1 hm (pc' := 75) rfl rfl rfl (cls_57_12) rfl rfl).trans (zCI_c rfl (fun r19 s18 => ?_))
    refine (zJ_n rfl).trans ?_
    refine (zq_is hm (ls' := [some (.inl (some 57)), some (.inr (.inl x1)), some (.inr (.inl x2)), some (.inr (.inl x3)), some (.inr (.inl r19))]) (pc' := 77) rfl rfl rfl rfl).trans ?_
    refine (zq_il hm (pc' := 79) rfl rfl rfl rfl).trans ?_
    refine (zq_aln hm (pc' := 80) rfl rfl rfl rfl).trans ?_
    refine (zq_iln hm (pc' := 81) rfl rfl rfl rfl).trans ?_
    refine (zq_aln hm (pc' := 82) rfl rfl rfl rfl).trans ?_
    refine (zq_gr hm (pc' := 85) rfl lay_57 rfl rfl).trans ?_
    refine (zJ_n rfl).trans ?_
    refine (zq_iln hm (pc' := 86) rfl rfl rfl rfl).trans ?_
    refine (zq_ia hm (v := (s18 79 x1)) (pc' := 87) rfl lay_79 rfl rfl).trans (zite ?_ rfl)
    refine (zJ_n rfl).trans ?_
    refine (zq_ic hm (pc' := 88) rfl rfl rfl rfl).trans ?_
    refine (zq_v1 hm (pc' := 91) rfl rfl rfl (cls_57_12) rfl rfl).trans (zCI_c rfl (fun r21 s20 => ?_))
    refine (zJ_n rfl).trans ?_
    refine (zq_isub hm (pc' := 92) rfl rfl rfl).trans ?_
    exact zq_ri hm rfl rfl
  · refine (zJ_n rfl).trans ?_
    refine (zq_aln hm (pc' := 94) rfl rfl rfl rfl).trans ?_
    refine (zq_iln hm (pc' := 95) rfl rfl rfl rfl).trans ?_
    refine (zq_iln hm (pc' := 96) rfl rfl rfl rfl).trans ?_
    refine (zq_s1 hm (pc' := 99) rfl rfl rfl rfl rfl rfl).trans (zCI_c rfl (fun r2 s1 => ?_))
    refine (zJ_n rfl).trans ?_
    refine (zq_iln hm (pc' := 100) rfl rfl rfl rfl).trans ?_
    refine (zq_v1 hm (pc' := 103) rfl rfl rfl (cls_57_12) rfl rfl).trans (zCI_c rfl (fun r4 s3 => ?_))
    refine (zJ_n rfl).trans ?_
    exact zq_ri hm rfl rfl
set_option maxRecDepth 100000 in
set_option maxHeartbeats 4000000 in
theorem e_X12_tells (d : Nat) (x1 : Int) (x2 : Int) (x3 : Int) (σ : zF) : zx (d + 1) 240 [.inl (some 57), .inr (.inl x1), .inr (.inl x2), .inr (.inl x3)] σ = (
if x2 = 0 then (
zCV LAY (zx d 236 [.inl (some 57), .inr (.inl 2)] σ) fun s5 =>
if 0 ≤ x1 ∧ x1 < 50 then (
zCI LAY (zx d 238 [.inl (some 57), .inr (.inl x1), .inr (.inl (s5 79 x1)), .inr (.inl x3)] s5) fun r7 s6 =>
if 0 ≤ x1 ∧ x1 < 50 then (
zCI LAY (zx d 239 [.inl (some 57), .inr (.inl x1), .inr (.inl (s6 79 x1)), .inr (.inl 1)] s6) fun r9 s8 =>
zri (zw (r7 - r9)) s8) else (
none)) else (
none)) else (
if x2 = 5 then (
zCV LAY (zx d 236 [.inl (some 57), .inr (.inl 60)] σ) fun s10 =>
zCI LAY (zx d 240 [.inl (some 57), .inr (.inl x1), .inr (.inl 3), .inr (.inl x3)] s10) fun r12 s11 =>
zri (zxor r12 5) s11) else (
if x2 = 7 then (
zCV LAY (zx d 236 [.inl (some 57), .inr (.inl 81)] σ) fun s13 =>
zCI LAY (zx d 240 [.inl (some 57), .inr (.inl x1), .inr (.inl 4), .inr (.inl x3)] s13) fun r15 s14 =>
zri (zw (r15 - 1)) s14) else (
zCI LAY (zx d 235 [.inr (.inl x2)] σ) fun r2 s1 =>
zCI LAY (zx d 240 [.inl (some 57), .inr (.inl x1), .inr (.inl r2), .inr (.inl x3)] s1) fun r4 s3 =>
zri r4 s3)))) := by
  unfold zx
  have hm := zexec_m zX2 zMT d
  refine (zexec_eq mt_240 _ rfl (LAY, σ) 0).trans ?_
  show zrunL zX2 (zexec zX2 zMT d) K_X12_tells U_X12_tells 0 [some (.inl (some 57)), some (.inr (.inl x1)), some (.inr (.inl x2)), some (.inr (.inl x3)), none] [] (LAY, σ) = _
  refine (zq_iln hm (pc' := 1) rfl rfl rfl rfl).trans ?_
  refine (zq_lk hm rfl).trans (zsw_c (k' := fun _ => none) ?_ (zsw_c (k' := fun _ => none) ?_ (zsw_c (k' := fun _ => none) ?_ (zsw_n ?_))))
  · refine (zJ_n rfl).trans ?_
    refine (zq_aln hm (pc' := 37) rfl rfl rfl rfl).trans ?_
    refine (zq_ic hm (pc' := 38) rfl rfl rfl rfl).trans ?_
    refine (zq_v0 hm (pc' := 41) rfl rfl rfl (cls_57_12) rfl rfl).trans (zCV_c rfl (fun s5 => ?_))
    refine (zJ_n rfl).trans ?_
    refine (zq_aln hm (pc' := 42) rfl rfl rfl rfl).trans ?_
    refine (zq_iln hm (pc' := 43) rfl rfl rfl rfl).trans ?_
    refine (zq_aln hm (pc' := 44) rfl rfl rfl rfl).trans ?_
    refine (zq_gr hm (pc' := 47) rfl lay_57 rfl rfl).trans ?_
    refine (zJ_n rfl).trans ?_
    refine (zq_iln hm (pc' := 48) rfl rfl rfl rfl).trans ?_
    refine (zq_ia hm (v := (s5 79 x1)) (pc' := 49) rfl lay_79 rfl rfl).trans (zite ?_ rfl)
    refine (zJ_n rfl).trans ?_
    refine (zq_iln hm (pc' := 50) rfl rfl rfl rfl).trans ?_
    refine (zq_v1 hm (pc' := 53) rfl rfl rfl (cls_57_12) rfl rfl).trans (zCI_c rfl (fun r7 s6 => ?_))
    refine (zJ_n rfl).trans ?_
    refine (zq_is hm (ls' := [some (.inl (some 57)), some (.inr (.inl x1)), some (.inr (.inl x2)), some (.inr (.inl x3)), some (.inr (.inl r7))]) (pc' := 55) rfl rfl rfl rfl).trans ?_
    refine (zq_il hm (pc' := 57) rfl rfl rfl rfl).trans ?_
    refine (zq_aln hm (pc' := 58) rfl rfl rfl rfl).trans ?_
    refine (zq_iln hm (pc' := 59) rfl rfl rfl rfl).trans ?_
    refine (zq_aln hm (pc' := 60) rfl rfl rfl rfl).trans ?_
    refine (zq_gr hm (pc' := 63) rfl lay_57 rfl rfl).trans ?_
    refine (zJ_n rfl).trans ?_
    refine (zq_iln hm (pc' := 64) rfl rfl rfl rfl).trans ?_
    refine (zq_ia hm (v := (s6 79 x1)) (pc' := 65) rfl lay_79 rfl rfl).trans (zite ?_ rfl)
    refine (zJ_n rfl).trans ?_
    refine (zq_ic hm (pc' := 66) rfl rfl rfl rfl).trans ?_
    refine (zq_v1 hm (pc' := 69) rfl rfl rfl (cls_57_12) rfl rfl).trans (zCI_c rfl (fun r9 s8 => ?_))
    refine (zJ_n rfl).trans ?_
    refine (zq_isub hm (pc' := 70) rfl rfl rfl).trans ?_
    exact zq_ri hm rfl rfl
  · refine (zJ_n rfl).trans ?_
    refine (zq_aln hm (pc' := 72) rfl rfl rfl rfl).trans ?_
    refine (zq_bi hm (pc' := 74) rfl rfl rfl rfl).trans ?_
    refine (zq_v0 hm (pc' := 77) rfl rfl rfl (cls_57_12) rfl rfl).trans (zCV_c rfl (fun s10 => ?_))
    refine (zJ_n rfl).trans ?_
    refine (zq_aln hm (pc' := 78) rfl rfl rfl rfl).trans ?_
    refine (zq_iln hm (pc' := 79) rfl rfl rfl rfl).trans ?_
    refine (zq_ic hm (pc' := 80) rfl rfl rfl rfl).trans ?_
    refine (zq_iln hm (pc' := 81) rfl rfl rfl rfl).trans ?_
    refine (zq_v1 hm (pc' := 84) rfl rfl rfl (cls_57_12) rfl rfl).trans (zCI_c rfl (fun r12 s11 => ?_))
    refine (zJ_n rfl).trans ?_
    refine (zq_ic hm (pc' := 85) rfl rfl rfl rfl).trans ?_
    refine (zq_ixor hm (pc' := 86) rfl rfl rfl).trans ?_
    exact zq_ri hm rfl rfl
  · refine (zJ_n rfl).trans ?_
    refine (zq_aln hm (pc' := 88) rfl rfl rfl rfl).trans ?_
    refine (zq_bi hm (pc' := 90) rfl rfl rfl rfl).trans ?_
    refine (zq_v0 hm (pc' := 93) rfl rfl rfl (cls_57_12) rfl rfl).trans (zCV_c rfl (fun s13 => ?_))
    refine (zJ_n rfl).trans ?_
    refine (zq_aln hm (pc' := 94) rfl rfl rfl rfl).trans ?_
    refine (zq_iln hm (pc' := 95) rfl rfl rfl rfl).trans ?_
    refine (zq_ic hm (pc' := 96) rfl rfl rfl rfl).trans ?_
    refine (zq_iln hm (pc' := 97) rfl rfl rfl rfl).trans ?_
    refine (zq_v1 hm (pc' := 100) rfl rfl rfl (cls_57_12) rfl rfl).trans (zCI_c rfl (fun r15 s14 => ?_))
    refine (zJ_n rfl).trans ?_
    refine (zq_ic hm (pc' := 101) rfl rfl rfl rfl).trans ?_
    refine (zq_isub hm (pc' := 102) rfl rfl rfl).trans ?_
    exact zq_ri hm rfl rfl
  · refine (zJ_n rfl).trans ?_
    refine (zq_aln hm (pc' := 104) rfl rfl rfl rfl).trans ?_
    refine (zq_iln hm (pc' := 105) rfl rfl rfl rfl).trans ?_
    refine (zq_iln hm (pc' := 106) rfl rfl rfl rfl).trans ?_
    refine (zq_s1 hm (pc' := 109) rfl rfl rfl rfl rfl rfl).trans (zCI_c rfl (fun r2 s1 => ?_))
    refine (zJ_n rfl).trans ?_
    refine (zq_iln hm (pc' := 110) rfl rfl rfl rfl).trans ?_
    refine (zq_v1 hm (pc' := 113) rfl rfl rfl (cls_57_12) rfl rfl).trans (zCI_c rfl (fun r4 s3 => ?_))
    refine (zJ_n rfl).trans ?_
    exact zq_ri hm rfl rfl
set_option maxRecDepth 100000 in
set_option maxHeartbeats 4000000 in
theorem e_X12_body (d : Nat) (x1 : Int) (σ : zF) : zx (d + 1) 241 [.inl (some 57), .inr (.inl x1)] σ = (
zCI LAY (zx d 153 [.inr (.inl x1), .inr (.inl 0), .inr (.inl 7)] σ) fun r2 s1 =>
if r2 = 0 then (
zri (-1) s1) else (
if (s1 57 35) = 50 then (
zri (-3) s1) else (
if 0 ≤ (s1 57 35) ∧ (s1 57 35) < 50 then (
zri (s1 57 35) (zset (zset s1 79 (s1 57 35) x1) 57 35 (zw ((s1 57 35) + 1)))) else (
none)))) := by
  unfold zx
  have hm := zexec_m zX2 zMT d
  refine (zexec_eq mt_241 _ rfl (LAY, σ) 0).trans ?_
  show zrunL zX2 (zexec zX2 zMT d) K_X12_body U_X12_body 0 [some (.inl (some 57)), some (.inr (.inl x1))] [] (LAY, σ) = _
  refine (zq_iln hm (pc' := 1) rfl rfl rfl rfl).trans ?_
  refine (zq_ic hm (pc' := 2) rfl rfl rfl rfl).trans ?_
  refine (zq_bi hm (pc' := 4) rfl rfl rfl rfl).trans ?_
  refine (zq_s1 hm (pc' := 7) rfl rfl rfl rfl rfl rfl).trans (zCI_c rfl (fun r2 s1 => ?_))
  refine (zJ_n rfl).trans ?_
  refine (zq_zne hm (pc' := 10) rfl rfl).trans (zite ?_ ?_)
  · refine (zJ_n rfl).trans ?_
    refine (zq_ic hm (pc' := 11) rfl rfl rfl rfl).trans ?_
    exact zq_ri hm rfl rfl
  · refine (zJ_n rfl).trans ?_
    refine (zq_aln hm (pc' := 13) rfl rfl rfl rfl).trans ?_
    refine (zq_gf hm (v := (s1 57 35)) (pc' := 16) rfl lay_57 rfl rfl rfl).trans ?_
    refine (zJ_n rfl).trans ?_
    refine (zq_bi hm (pc' := 18) rfl rfl rfl rfl).trans ?_
    refine (zq_ine hm (pc' := 21) rfl rfl).trans (zite ?_ ?_)
    · refine (zJ_n rfl).trans ?_
      refine (zq_bi hm (pc' := 23) rfl rfl rfl rfl).trans ?_
      exact zq_ri hm rfl rfl
    · refine (zJ_n rfl).trans ?_
      refine (zq_aln hm (pc' := 25) rfl rfl rfl rfl).trans ?_
      refine (zq_gr hm (pc' := 28) rfl lay_57 rfl rfl).trans ?_
      refine (zJ_n rfl).trans ?_
      refine (zq_aln hm (pc' := 29) rfl rfl rfl rfl).trans ?_
      refine (zq_gf hm (v := (s1 57 35)) (pc' := 32) rfl lay_57 rfl rfl rfl).trans ?_
      refine (zJ_n rfl).trans ?_
      refine (zq_iln hm (pc' := 33) rfl rfl rfl rfl).trans ?_
      refine (zq_ist hm (pc' := 34) rfl lay_79 rfl).trans (zite ?_ rfl)
      refine (zJ_n rfl).trans ?_
      refine (zq_aln hm (pc' := 35) rfl rfl rfl rfl).trans ?_
      refine (zq_dup hm (pc' := 36) rfl rfl rfl rfl).trans ?_
      refine (zq_gf hm (v := (s1 57 35)) (pc' := 39) rfl lay_57 rfl (zsn rfl) rfl).trans ?_
      refine (zJ_n rfl).trans ?_
      refine (zq_dupx hm (pc' := 40) rfl rfl rfl rfl rfl).trans ?_
      refine (zq_ic hm (pc' := 41) rfl rfl rfl rfl).trans ?_
      refine (zq_iadd hm (pc' := 42) rfl rfl rfl).trans ?_
      refine (zq_pf hm (pc' := 45) rfl lay_57 rfl rfl rfl).trans ?_
      refine (zJ_n rfl).trans ?_
      exact zq_ri hm rfl rfl
set_option maxRecDepth 100000 in
set_option maxHeartbeats 4000000 in
theorem e_X12_act (d : Nat) (x1 : Int) (x2 : Int) (x3 : Int) (σ : zF) : zx (d + 1) 242 [.inl (some 57), .inr (.inl x1), .inr (.inl x2), .inr (.inl x3)] σ = (
zCI LAY (zx d 153 [.inr (.inl x1), .inr (.inl 0), .inr (.inl (zw ((σ 57 35) - 1)))] (zset σ 57 37 0)) fun r2 s1 =>
if r2 = 0 then (
zri 0 s1) else (
zCI LAY (zx d 153 [.inr (.inl x2), .inr (.inl 0), .inr (.inl 3)] s1) fun r4 s3 =>
if r4 = 0 then (
zri 0 s3) else (
if 0 ≤ x1 ∧ x1 < 50 then (
if x2 = 0 then (
zCI LAY (zx d 237 [.inl (some 57), .inr (.inl x1), .inr (.inl (s3 79 x1)), .inr (.inl x3)] s3) fun r12 s11 =>
zri r12 s11) else (
if x2 = 1 then (
zCI LAY (zx d 238 [.inl (some 57), .inr (.inl x1), .inr (.inl (s3 79 x1)), .inr (.inl x3)] s3) fun r10 s9 =>
zri r10 s9) else (
if x2 = 2 then (
zCI LAY (zx d 239 [.inl (some 57), .inr (.inl x1), .inr (.inl (s3 79 x1)), .inr (.inl x3)] s3) fun r8 s7 =>
zri r8 s7) else (
zCI LAY (zx d 240 [.inl (some 57), .inr (.inl x1), .inr (.inl (s3 79 x1)), .inr (.inl x3)] s3) fun r6 s5 =>
zri r6 s5)))) else (
none)))) := by
  unfold zx
  have hm := zexec_m zX2 zMT d
  refine (zexec_eq mt_242 _ rfl (LAY, σ) 0).trans ?_
  show zrunL zX2 (zexec zX2 zMT d) K_X12_act U_X12_act 0 [some (.inl (some 57)), some (.inr (.inl x1)), some (.inr (.inl x2)), some (.inr (.inl x3)), none] [] (LAY, σ) = _
  refine (zq_aln hm (pc' := 1) rfl rfl rfl rfl).trans ?_
  refine (zq_ic hm (pc' := 2) rfl rfl rfl rfl).trans ?_
  refine (zq_pf hm (pc' := 5) rfl lay_57 rfl rfl rfl).trans ?_
  refine (zJ_n rfl).trans ?_
  refine (zq_iln hm (pc' := 6) rfl rfl rfl rfl).trans ?_
  refine (zq_ic hm (pc' := 7) rfl rfl rfl rfl).trans ?_
  refine (zq_aln hm (pc' := 8) rfl rfl rfl rfl).trans ?_
  refine (zq_gf hm (v := (σ 57 35)) (pc' := 11) rfl lay_57 rfl (zsi (by decide)) rfl).trans ?_
  refine (zJ_n rfl).trans ?_
  refine (zq_ic hm (pc' := 12) rfl rfl rfl rfl).trans ?_
  refine (zq_isub hm (pc' := 13) rfl rfl rfl).trans ?_
  refine (zq_s1 hm (pc' := 16) rfl rfl rfl rfl rfl rfl).trans (zCI_c rfl (fun r2 s1 => ?_))
  refine (zJ_n rfl).trans ?_
  refine (zq_zeq hm (pc' := 19) rfl rfl).trans (zite ?_ ?_)
  · refine (zJ_n rfl).trans ?_
    refine (zq_ic hm (pc' := 29) rfl rfl rfl rfl).trans ?_
    exact zq_ri hm rfl rfl
  · refine (zJ_n rfl).trans ?_
    refine (zq_iln hm (pc' := 20) rfl rfl rfl rfl).trans ?_
    refine (zq_ic hm (pc' := 21) rfl rfl rfl rfl).trans ?_
    refine (zq_ic hm (pc' := 22) rfl rfl rfl rfl).trans ?_
    refine (zq_s1 hm (pc' := 25) rfl rfl rfl rfl rfl rfl).trans (zCI_c rfl (fun r4 s3 => ?_))
    refine (zJ_n rfl).trans ?_
    refine (zq_zne hm (pc' := 28) rfl rfl).trans (zite ?_ ?_)
    · refine (zJ_n rfl).trans ?_
      refine (zq_ic hm (pc' := 29) rfl rfl rfl rfl).trans ?_
      exact zq_ri hm rfl rfl
    · refine (zJ_n rfl).trans ?_
      refine (zq_aln hm (pc' := 31) rfl rfl rfl rfl).trans ?_
      refine (zq_gr hm (pc' := 34) rfl lay_57 rfl rfl).trans ?_
      refine (zJ_n rfl).trans ?_
      refine (zq_iln hm (pc' := 35) rfl rfl rfl rfl).trans ?_
      refine (zq_ia hm (v := (s3 79 x1)) (pc' := 36) rfl lay_79 rfl rfl).trans (zite ?_ rfl)
      refine (zJ_n rfl).trans ?_
      refine (zq_is hm (ls' := [some (.inl (some 57)), some (.inr (.inl x1)), some (.inr (.inl x2)), some (.inr (.inl x3)), some (.inr (.inl (s3 79 x1)))]) (pc' := 38) rfl rfl rfl rfl).trans ?_
      refine (zq_iln hm (pc' := 39) rfl rfl rfl rfl).trans ?_
      refine (zq_zne hm (pc' := 42) rfl rfl).trans (zite ?_ ?_)
      · refine (zJ_n rfl).trans ?_
        refine (zq_aln hm (pc' := 43) rfl rfl rfl rfl).trans ?_
        refine (zq_iln hm (pc' := 44) rfl rfl rfl rfl).trans ?_
        refine (zq_il hm (pc' := 46) rfl rfl rfl rfl).trans ?_
        refine (zq_iln hm (pc' := 47) rfl rfl rfl rfl).trans ?_
        refine (zq_v1 hm (pc' := 50) rfl rfl rfl (cls_57_12) rfl rfl).trans (zCI_c rfl (fun r12 s11 => ?_))
        refine (zJ_n rfl).trans ?_
        refine (zq_goto hm rfl rfl).trans ?_
        exact zq_ri hm rfl rfl
      · refine (zJ_n rfl).trans ?_
        refine (zq_iln hm (pc' := 54) rfl rfl rfl rfl).trans ?_
        refine (zq_ic hm (pc' := 55) rfl rfl rfl rfl).trans ?_
        refine (zq_ine hm (pc' := 58) rfl rfl).trans (zite ?_ ?_)
        · refine (zJ_n rfl).trans ?_
          refine (zq_aln hm (pc' := 59) rfl rfl rfl rfl).trans ?_
          refine (zq_iln hm (pc' := 60) rfl rfl rfl rfl).trans ?_
          refine (zq_il hm (pc' := 62) rfl rfl rfl rfl).trans ?_
          refine (zq_iln hm (pc' := 63) rfl rfl rfl rfl).trans ?_
          refine (zq_v1 hm (pc' := 66) rfl rfl rfl (cls_57_12) rfl rfl).trans (zCI_c rfl (fun r10 s9 => ?_))
          refine (zJ_n rfl).trans ?_
          refine (zq_goto hm rfl rfl).trans ?_
          exact zq_ri hm rfl rfl
        · refine (zJ_n rfl).trans ?_
          refine (zq_iln hm (pc' := 70) rfl rfl rfl rfl).trans ?_
          refine (zq_ic hm (pc' := 71) rfl rfl rfl rfl).trans ?_
          refine (zq_ine hm (pc' := 74) rfl rfl).trans (zite ?_ ?_)
          · refine (zJ_n rfl).trans ?_
            refine (zq_aln hm (pc' := 75) rfl rfl rfl rfl).trans ?_
            refine (zq_iln hm (pc' := 76) rfl rfl rfl rfl).trans ?_
            refine (zq_il hm (pc' := 78) rfl rfl rfl rfl).trans ?_
            refine (zq_iln hm (pc' := 79) rfl rfl rfl rfl).trans ?_
            refine (zq_v1 hm (pc' := 82) rfl rfl rfl (cls_57_12) rfl rfl).trans (zCI_c rfl (fun r8 s7 => ?_))
            refine (zJ_n rfl).trans ?_
            refine (zq_goto hm rfl rfl).trans ?_
            exact zq_ri hm rfl rfl
          · refine (zJ_n rfl).trans ?_
            refine (zq_aln hm (pc' := 86) rfl rfl rfl rfl).trans ?_
            refine (zq_iln hm (pc' := 87) rfl rfl rfl rfl).trans ?_
            refine (zq_il hm (pc' := 89) rfl rfl rfl rfl).trans ?_
            refine (zq_iln hm (pc' := 90) rfl rfl rfl rfl).trans ?_
            refine (zq_v1 hm (pc' := 93) rfl rfl rfl (cls_57_12) rfl rfl).trans (zCI_c rfl (fun r6 s5 => ?_))
            refine (zJ_n rfl).trans ?_
            exact zq_ri hm rfl rfl
set_option maxRecDepth 100000 in
set_option maxHeartbeats 4000000 in
theorem e_X12_trace (d : Nat) (x1 : Int) (σ : zF) : zx (d + 1) 243 [.inl (some 57), .inr (.inl x1)] σ = (
zCI LAY (zx d 153 [.inr (.inl x1), .inr (.inl 0), .inr (.inl (zw ((zmin 24 (σ 57 37)) - 1)))] σ) fun r2 s1 =>
if r2 = 0 then (
zri (-1) s1) else (
if 0 ≤ x1 ∧ x1 < 24 then (
zri (s1 80 x1) s1) else (
none))) := by
  unfold zx
  have hm := zexec_m zX2 zMT d
  refine (zexec_eq mt_243 _ rfl (LAY, σ) 0).trans ?_
  show zrunL zX2 (zexec zX2 zMT d) K_X12_trace U_X12_trace 0 [some (.inl (some 57)), some (.inr (.inl x1))] [] (LAY, σ) = _
  refine (zq_iln hm (pc' := 1) rfl rfl rfl rfl).trans ?_
  refine (zq_ic hm (pc' := 2) rfl rfl rfl rfl).trans ?_
  refine (zq_bi hm (pc' := 4) rfl rfl rfl rfl).trans ?_
  refine (zq_aln hm (pc' := 5) rfl rfl rfl rfl).trans ?_
  refine (zq_gf hm (v := (σ 57 37)) (pc' := 8) rfl lay_57 rfl rfl rfl).trans ?_
  refine (zJ_n rfl).trans ?_
  refine (zq_min hm (pc' := 11) rfl rfl rfl rfl).trans ?_
  refine (zJ_n rfl).trans ?_
  refine (zq_ic hm (pc' := 12) rfl rfl rfl rfl).trans ?_
  refine (zq_isub hm (pc' := 13) rfl rfl rfl).trans ?_
  refine (zq_s1 hm (pc' := 16) rfl rfl rfl rfl rfl rfl).trans (zCI_c rfl (fun r2 s1 => ?_))
  refine (zJ_n rfl).trans ?_
  refine (zq_zeq hm (pc' := 19) rfl rfl).trans (zite ?_ ?_)
  · refine (zJ_n rfl).trans ?_
    refine (zq_ic hm (pc' := 29) rfl rfl rfl rfl).trans ?_
    exact zq_ri hm rfl rfl
  · refine (zJ_n rfl).trans ?_
    refine (zq_aln hm (pc' := 20) rfl rfl rfl rfl).trans ?_
    refine (zq_gr hm (pc' := 23) rfl lay_57 rfl rfl).trans ?_
    refine (zJ_n rfl).trans ?_
    refine (zq_iln hm (pc' := 24) rfl rfl rfl rfl).trans ?_
    refine (zq_ia hm (v := (s1 80 x1)) (pc' := 25) rfl lay_80 rfl rfl).trans (zite ?_ rfl)
    refine (zJ_n rfl).trans ?_
    refine (zq_goto hm rfl rfl).trans ?_
    exact zq_ri hm rfl rfl
set_option maxRecDepth 100000 in
set_option maxHeartbeats 4000000 in
theorem e_X12_keep (d : Nat) (x1 : Int) (x2 : Int) (σ : zF) : zx (d + 1) 244 [.inl (some 57), .inr (.inl x1), .inr (.inl x2)] σ = (
zCI LAY (zx d 158 [.inr (.inl x1)] σ) fun r2 s1 =>
if r2 = 0 then (
zri (-1) s1) else (
zCI LAY (zx d 153 [.inr (.inl x2), .inr (.inl (-1)), .inr (.inl (zw ((s1 57 35) - 1)))] s1) fun r4 s3 =>
if r4 = 0 then (
zri (-1) s3) else (
if x2 < 0 then (
if 0 ≤ x1 ∧ x1 < 6 then (
if 0 ≤ x1 ∧ x1 < 6 then (
zri 1 (zset (zset s3 81 x1 (-1)) 82 x1 0)) else (
none)) else (
none)) else (
if 0 ≤ x1 ∧ x1 < 6 then (
if 0 ≤ x1 ∧ x1 < 6 then (
zri 1 (zset (zset s3 81 x1 (zw (10 + x2))) 82 x1 0)) else (
none)) else (
none))))) := by
  unfold zx
  have hm := zexec_m zX2 zMT d
  refine (zexec_eq mt_244 _ rfl (LAY, σ) 0).trans ?_
  show zrunL zX2 (zexec zX2 zMT d) K_X12_keep U_X12_keep 0 [some (.inl (some 57)), some (.inr (.inl x1)), some (.inr (.inl x2))] [] (LAY, σ) = _
  refine (zq_iln hm (pc' := 1) rfl rfl rfl rfl).trans ?_
  refine (zq_s1 hm (pc' := 4) rfl rfl rfl rfl rfl rfl).trans (zCI_c rfl (fun r2 s1 => ?_))
  refine (zJ_n rfl).trans ?_
  refine (zq_zeq hm (pc' := 7) rfl rfl).trans (zite ?_ ?_)
  · refine (zJ_n rfl).trans ?_
    refine (zq_ic hm (pc' := 22) rfl rfl rfl rfl).trans ?_
    exact zq_ri hm rfl rfl
  · refine (zJ_n rfl).trans ?_
    refine (zq_iln hm (pc' := 8) rfl rfl rfl rfl).trans ?_
    refine (zq_ic hm (pc' := 9) rfl rfl rfl rfl).trans ?_
    refine (zq_aln hm (pc' := 10) rfl rfl rfl rfl).trans ?_
    refine (zq_gf hm (v := (s1 57 35)) (pc' := 13) rfl lay_57 rfl rfl rfl).trans ?_
    refine (zJ_n rfl).trans ?_
    refine (zq_ic hm (pc' := 14) rfl rfl rfl rfl).trans ?_
    refine (zq_isub hm (pc' := 15) rfl rfl rfl).trans ?_
    refine (zq_s1 hm (pc' := 18) rfl rfl rfl rfl rfl rfl).trans (zCI_c rfl (fun r4 s3 => ?_))
    refine (zJ_n rfl).trans ?_
    refine (zq_zne hm (pc' := 21) rfl rfl).trans (zite ?_ ?_)
    · refine (zJ_n rfl).trans ?_
      refine (zq_ic hm (pc' := 22) rfl rfl rfl rfl).trans ?_
      exact zq_ri hm rfl rfl
    · refine (zJ_n rfl).trans ?_
      refine (zq_aln hm (pc' := 24) rfl rfl rfl rfl).trans ?_
      refine (zq_gr hm (pc' := 27) rfl lay_57 rfl rfl).trans ?_
      refine (zJ_n rfl).trans ?_
      refine (zq_iln hm (pc' := 28) rfl rfl rfl rfl).trans ?_
      refine (zq_iln hm (pc' := 29) rfl rfl rfl rfl).trans ?_
      refine (zq_zge hm (pc' := 32) rfl rfl).trans (zite ?_ ?_)
      · refine (zJ_n rfl).trans ?_
        refine (zq_ic hm (pc' := 33) rfl rfl rfl rfl).trans ?_
        refine (zq_goto hm rfl rfl).trans ?_
        refine (zq_ist hm (pc' := 41) rfl lay_81 rfl).trans (zite ?_ rfl)
        refine (zJ_n rfl).trans ?_
        refine (zq_aln hm (pc' := 42) rfl rfl rfl rfl).trans ?_
        refine (zq_gr hm (pc' := 45) rfl lay_57 rfl rfl).trans ?_
        refine (zJ_n rfl).trans ?_
        refine (zq_iln hm (pc' := 46) rfl rfl rfl rfl).trans ?_
        refine (zq_ic hm (pc' := 47) rfl rfl rfl rfl).trans ?_
        refine (zq_ist hm (pc' := 48) rfl lay_82 rfl).trans (zite ?_ rfl)
        refine (zJ_n rfl).trans ?_
        refine (zq_ic hm (pc' := 49) rfl rfl rfl rfl).trans ?_
        exact zq_ri hm rfl rfl
      · refine (zJ_n rfl).trans ?_
        refine (zq_bi hm (pc' := 38) rfl rfl rfl rfl).trans ?_
        refine (zq_iln hm (pc' := 39) rfl rfl rfl rfl).trans ?_
        refine (zq_iadd hm (pc' := 40) rfl rfl rfl).trans ?_
        refine (zq_ist hm (pc' := 41) rfl lay_81 rfl).trans (zite ?_ rfl)
        refine (zJ_n rfl).trans ?_
        refine (zq_aln hm (pc' := 42) rfl rfl rfl rfl).trans ?_
        refine (zq_gr hm (pc' := 45) rfl lay_57 rfl rfl).trans ?_
        refine (zJ_n rfl).trans ?_
        refine (zq_iln hm (pc' := 46) rfl rfl rfl rfl).trans ?_
        refine (zq_ic hm (pc' := 47) rfl rfl rfl rfl).trans ?_
        refine (zq_ist hm (pc' := 48) rfl lay_82 rfl).trans (zite ?_ rfl)
        refine (zJ_n rfl).trans ?_
        refine (zq_ic hm (pc' := 49) rfl rfl rfl rfl).trans ?_
        exact zq_ri hm rfl rfl
noncomputable def P_X12_row_48 (d : Nat) (y1 : Int) (y2 : Int) (σ : zF) : Option zR := zrunL zX2 (zexec zX2 zMT d) K_X12_row U_X12_row 48 [some (.inl (some 57)), some (.inr (.inl y1)), none, none, some (.inr (.inl y2))] [] (LAY, σ)
set_option maxRecDepth 100000 in
set_option maxHeartbeats 4000000 in
theorem e_X12_row (d : Nat) (x1 : Int) (x2 : Int) (x3 : Int) (σ : zF) : zx (d + 1) 245 [.inl (some 57), .inr (.inl x1), .inr (.inl x2), .inr (.inl x3)] σ = (
zCI LAY (zx d 158 [.inr (.inl x1)] σ) fun r2 s1 =>
if r2 = 0 then (
zri (-1) s1) else (
zCI LAY (zx d 153 [.inr (.inl x2), .inr (.inl 0), .inr (.inl 4)] s1) fun r4 s3 =>
if r4 = 0 then (
zri (-1) s3) else (
if (60 : Int) < x3 then (
zri (-1) s3) else (
if x3 < 0 then (
zri (-14) s3) else (
if 0 ≤ x1 ∧ x1 < 6 then (
if 0 ≤ x1 ∧ x1 < 6 then (
P_X12_row_48 d x1 0 (zset (zset s3 81 x1 x2) 82 x1 x3)) else (
none)) else (
none)))))) := by
  unfold zx
  have hm := zexec_m zX2 zMT d
  refine (zexec_eq mt_245 _ rfl (LAY, σ) 0).trans ?_
  show zrunL zX2 (zexec zX2 zMT d) K_X12_row U_X12_row 0 [some (.inl (some 57)), some (.inr (.inl x1)), some (.inr (.inl x2)), some (.inr (.inl x3)), none] [] (LAY, σ) = _
  refine (zq_iln hm (pc' := 1) rfl rfl rfl rfl).trans ?_
  refine (zq_s1 hm (pc' := 4) rfl rfl rfl rfl rfl rfl).trans (zCI_c rfl (fun r2 s1 => ?_))
  refine (zJ_n rfl).trans ?_
  refine (zq_zeq hm (pc' := 7) rfl rfl).trans (zite ?_ ?_)
  · refine (zJ_n rfl).trans ?_
    refine (zq_ic hm (pc' := 23) rfl rfl rfl rfl).trans ?_
    exact zq_ri hm rfl rfl
  · refine (zJ_n rfl).trans ?_
    refine (zq_iln hm (pc' := 8) rfl rfl rfl rfl).trans ?_
    refine (zq_ic hm (pc' := 9) rfl rfl rfl rfl).trans ?_
    refine (zq_ic hm (pc' := 10) rfl rfl rfl rfl).trans ?_
    refine (zq_s1 hm (pc' := 13) rfl rfl rfl rfl rfl rfl).trans (zCI_c rfl (fun r4 s3 => ?_))
    refine (zJ_n rfl).trans ?_
    refine (zq_zeq hm (pc' := 16) rfl rfl).trans (zite ?_ ?_)
    · refine (zJ_n rfl).trans ?_
      refine (zq_ic hm (pc' := 23) rfl rfl rfl rfl).trans ?_
      exact zq_ri hm rfl rfl
    · refine (zJ_n rfl).trans ?_
      refine (zq_iln hm (pc' := 17) rfl rfl rfl rfl).trans ?_
      refine (zq_bi hm (pc' := 19) rfl rfl rfl rfl).trans ?_
      refine (zq_ile hm (pc' := 22) rfl rfl).trans (zite ?_ ?_)
      · refine (zJ_n rfl).trans ?_
        refine (zq_ic hm (pc' := 23) rfl rfl rfl rfl).trans ?_
        exact zq_ri hm rfl rfl
      · refine (zJ_n rfl).trans ?_
        refine (zq_iln hm (pc' := 25) rfl rfl rfl rfl).trans ?_
        refine (zq_zge hm (pc' := 28) rfl rfl).trans (zite ?_ ?_)
        · refine (zJ_n rfl).trans ?_
          refine (zq_bi hm (pc' := 30) rfl rfl rfl rfl).trans ?_
          exact zq_ri hm rfl rfl
        · refine (zJ_n rfl).trans ?_
          refine (zq_aln hm (pc' := 32) rfl rfl rfl rfl).trans ?_
          refine (zq_gr hm (pc' := 35) rfl lay_57 rfl rfl).trans ?_
          refine (zJ_n rfl).trans ?_
          refine (zq_iln hm (pc' := 36) rfl rfl rfl rfl).trans ?_
          refine (zq_iln hm (pc' := 37) rfl rfl rfl rfl).trans ?_
          refine (zq_ist hm (pc' := 38) rfl lay_81 rfl).trans (zite ?_ rfl)
          refine (zJ_n rfl).trans ?_
          refine (zq_aln hm (pc' := 39) rfl rfl rfl rfl).trans ?_
          refine (zq_gr hm (pc' := 42) rfl lay_57 rfl rfl).trans ?_
          refine (zJ_n rfl).trans ?_
          refine (zq_iln hm (pc' := 43) rfl rfl rfl rfl).trans ?_
          refine (zq_iln hm (pc' := 44) rfl rfl rfl rfl).trans ?_
          refine (zq_ist hm (pc' := 45) rfl lay_82 rfl).trans (zite ?_ rfl)
          refine (zJ_n rfl).trans ?_
          refine (zq_ic hm (pc' := 46) rfl rfl rfl rfl).trans ?_
          exact (zc_is hm (ls' := [some (.inl (some 57)), some (.inr (.inl x1)), some (.inr (.inl x2)), some (.inr (.inl x3)), some (.inr (.inl 0))]) (pc' := 48) rfl rfl rfl rfl).trans rfl
set_option maxRecDepth 100000 in
set_option maxHeartbeats 4000000 in
theorem e_X12_row_48 (d : Nat) (y1 : Int) (y2 : Int) (σ : zF) : P_X12_row_48 d y1 y2 σ = (
if y2 < 60 then (
if 0 ≤ zw ((zw (60 * y1)) + y2) ∧ zw ((zw (60 * y1)) + y2) < 360 then (
P_X12_row_48 d y1 (zw (y2 + 1)) (zset σ 83 (zw ((zw (60 * y1)) + y2)) 0)) else (
none)) else (
zri 1 σ)) := by
  have hm := zexec_m zX2 zMT d
  show zrunL zX2 (zexec zX2 zMT d) K_X12_row U_X12_row 48 [some (.inl (some 57)), some (.inr (.inl y1)), none, none, some (.inr (.inl y2))] [] (LAY, σ) = _
  refine (zq_il hm (pc' := 50) rfl rfl rfl rfl).trans ?_
  refine (zq_bi hm (pc' := 52) rfl rfl rfl rfl).trans ?_
  refine (zq_ige hm (pc' := 55) rfl rfl).trans (zite ?_ ?_)
  · refine (zJ_n rfl).trans ?_
    refine (zq_aln hm (pc' := 56) rfl rfl rfl rfl).trans ?_
    refine (zq_gr hm (pc' := 59) rfl lay_57 rfl rfl).trans ?_
    refine (zJ_n rfl).trans ?_
    refine (zq_bi hm (pc' := 61) rfl rfl rfl rfl).trans ?_
    refine (zq_iln hm (pc' := 62) rfl rfl rfl rfl).trans ?_
    refine (zq_imul hm (pc' := 63) rfl rfl rfl).trans ?_
    refine (zq_il hm (pc' := 65) rfl rfl rfl rfl).trans ?_
    refine (zq_iadd hm (pc' := 66) rfl rfl rfl).trans ?_
    refine (zq_lc hm (pc' := 67) rfl rfl rfl rfl).trans ?_
    refine (zq_lst hm (pc' := 68) rfl lay_83 rfl).trans (zite ?_ rfl)
    refine (zJ_n rfl).trans ?_
    refine (zq_iinc hm (ls' := [some (.inl (some 57)), some (.inr (.inl y1)), none, none, some (.inr (.inl (zw (y2 + 1))))]) (pc' := 71) rfl rfl rfl rfl rfl rfl).trans ?_
    exact (zc_goto hm rfl rfl).trans rfl
  · refine (zJ_n rfl).trans ?_
    refine (zq_ic hm (pc' := 75) rfl rfl rfl rfl).trans ?_
    exact zq_ri hm rfl rfl
set_option maxRecDepth 100000 in
set_option maxHeartbeats 4000000 in
theorem e_X12_isRow (d : Nat) (x1 : Int) (σ : zF) : zx (d + 1) 246 [.inl (some 57), .inr (.inl x1)] σ = (
if 0 ≤ x1 ∧ x1 < 6 then (
zCI LAY (zx d 153 [.inr (.inl (σ 81 x1)), .inr (.inl 0), .inr (.inl 4)] σ) fun r2 s1 =>
if r2 = 0 ∨ r2 = 1 then (
zri r2 s1) else (
none)) else (
none)) := by
  unfold zx
  have hm := zexec_m zX2 zMT d
  refine (zexec_eq mt_246 _ rfl (LAY, σ) 0).trans ?_
  show zrunL zX2 (zexec zX2 zMT d) K_X12_isRow U_X12_isRow 0 [some (.inl (some 57)), some (.inr (.inl x1))] [] (LAY, σ) = _
  refine (zq_aln hm (pc' := 1) rfl rfl rfl rfl).trans ?_
  refine (zq_gr hm (pc' := 4) rfl lay_57 rfl rfl).trans ?_
  refine (zJ_n rfl).trans ?_
  refine (zq_iln hm (pc' := 5) rfl rfl rfl rfl).trans ?_
  refine (zq_ia hm (v := (σ 81 x1)) (pc' := 6) rfl lay_81 rfl rfl).trans (zite ?_ rfl)
  refine (zJ_n rfl).trans ?_
  refine (zq_ic hm (pc' := 7) rfl rfl rfl rfl).trans ?_
  refine (zq_ic hm (pc' := 8) rfl rfl rfl rfl).trans ?_
  refine (zq_s1 hm (pc' := 11) rfl rfl rfl rfl rfl rfl).trans (zCI_c rfl (fun r2 s1 => ?_))
  refine (zJ_n rfl).trans ?_
  exact zq_rb hm rfl rfl
set_option maxRecDepth 100000 in
set_option maxHeartbeats 4000000 in
theorem e_X12_kept (d : Nat) (x0 : Int) (x1 : Int) (σ : zF) : zx (d + 1) 247 [.inr (.inl x0), .inr (.inr x1)] σ = (
if x0 = 0 then (
zrj (zi2b (zw x1)) σ) else (
if x0 = 1 then (
zrj (zi2s (zw x1)) σ) else (
if x0 = 2 then (
zrj (zw x1) σ) else (
if x0 = 3 then (
zrj x1 σ) else (
if zcmpl x1 0 = 0 then (
zrj 0 σ) else (
zrj 1 σ)))))) := by
  unfold zx
  have hm := zexec_m zX2 zMT d
  refine (zexec_eq mt_247 _ rfl (LAY, σ) 0).trans ?_
  show zrunL zX2 (zexec zX2 zMT d) K_X12_kept U_X12_kept 0 [some (.inr (.inl x0)), some (.inr (.inr x1)), none] [] (LAY, σ) = _
  refine (zq_iln hm (pc' := 1) rfl rfl rfl rfl).trans ?_
  refine (zq_ts hm rfl).trans (zsw_c (k' := fun _ => none) ?_ (zsw_c (k' := fun _ => none) ?_ (zsw_c (k' := fun _ => none) ?_ (zsw_c (k' := fun _ => none) ?_ (zsw_n ?_)))))
  · refine (zJ_n rfl).trans ?_
    refine (zq_lln hm (pc' := 33) rfl rfl rfl rfl).trans ?_
    refine (zq_l2i hm (pc' := 34) rfl rfl rfl).trans ?_
    refine (zq_i2b hm (pc' := 35) rfl rfl rfl).trans ?_
    refine (zq_i2l hm (pc' := 36) rfl rfl rfl).trans ?_
    exact zq_rj hm rfl
  · refine (zJ_n rfl).trans ?_
    refine (zq_lln hm (pc' := 38) rfl rfl rfl rfl).trans ?_
    refine (zq_l2i hm (pc' := 39) rfl rfl rfl).trans ?_
    refine (zq_i2s hm (pc' := 40) rfl rfl rfl).trans ?_
    refine (zq_i2l hm (pc' := 41) rfl rfl rfl).trans ?_
    exact zq_rj hm rfl
  · refine (zJ_n rfl).trans ?_
    refine (zq_lln hm (pc' := 43) rfl rfl rfl rfl).trans ?_
    refine (zq_l2i hm (pc' := 44) rfl rfl rfl).trans ?_
    refine (zq_i2l hm (pc' := 45) rfl rfl rfl).trans ?_
    exact zq_rj hm rfl
  · refine (zJ_n rfl).trans ?_
    refine (zq_lln hm (pc' := 47) rfl rfl rfl rfl).trans ?_
    exact zq_rj hm rfl
  · refine (zJ_n rfl).trans ?_
    refine (zq_lln hm (pc' := 49) rfl rfl rfl rfl).trans ?_
    refine (zq_lc hm (pc' := 50) rfl rfl rfl rfl).trans ?_
    refine (zq_lcmp hm (pc' := 51) rfl rfl rfl).trans ?_
    refine (zq_zeq hm (pc' := 54) rfl rfl).trans (zite ?_ ?_)
    · refine (zJ_n rfl).trans ?_
      refine (zq_lc hm (pc' := 59) rfl rfl rfl rfl).trans ?_
      exact zq_rj hm rfl
    · refine (zJ_n rfl).trans ?_
      refine (zq_lc hm (pc' := 55) rfl rfl rfl rfl).trans ?_
      refine (zq_goto hm rfl rfl).trans ?_
      exact zq_rj hm rfl
set_option maxRecDepth 100000 in
set_option maxHeartbeats 4000000 in
theorem e_X12_put (d : Nat) (x1 : Int) (x2 : Int) (x3 : Int) (σ : zF) : zx (d + 1) 248 [.inl (some 57), .inr (.inl x1), .inr (.inl x2), .inr (.inr x3)] σ = (
zCI LAY (zx d 158 [.inr (.inl x1)] σ) fun r2 s1 =>
if r2 = 0 then (
zri (-1) s1) else (
if 0 ≤ x1 ∧ x1 < 6 then (
if (s1 81 x1) = (-1) then (
zri (-11) s1) else (
zCI LAY (zx d 246 [.inl (some 57), .inr (.inl x1)] s1) fun r4 s3 =>
if r4 = 0 then (
zri (-12) s3) else (
if 0 ≤ x1 ∧ x1 < 6 then (
zCI LAY (zx d 153 [.inr (.inl x2), .inr (.inl 0), .inr (.inl (zw ((s3 82 x1) - 1)))] s3) fun r6 s5 =>
if r6 = 0 then (
zri (-13) s5) else (
if 0 ≤ x1 ∧ x1 < 6 then (
zCJ LAY (zx d 247 [.inr (.inl (s5 81 x1)), .inr (.inr x3)] s5) fun r8 s7 =>
if 0 ≤ zw ((zw (60 * x1)) + x2) ∧ zw ((zw (60 * x1)) + x2) < 360 then (
zri 1 (zset s7 83 (zw ((zw (60 * x1)) + x2)) r8)) else (
none)) else (
none))) else (
none)))) else (
none))) := by
  unfold zx
  have hm := zexec_m zX2 zMT d
  refine (zexec_eq mt_248 _ rfl (LAY, σ) 0).trans ?_
  show zrunL zX2 (zexec zX2 zMT d) K_X12_put U_X12_put 0 [some (.inl (some 57)), some (.inr (.inl x1)), some (.inr (.inl x2)), some (.inr (.inr x3)), none] [] (LAY, σ) = _
  refine (zq_iln hm (pc' := 1) rfl rfl rfl rfl).trans ?_
  refine (zq_s1 hm (pc' := 4) rfl rfl rfl rfl rfl rfl).trans (zCI_c rfl (fun r2 s1 => ?_))
  refine (zJ_n rfl).trans ?_
  refine (zq_zne hm (pc' := 7) rfl rfl).trans (zite ?_ ?_)
  · refine (zJ_n rfl).trans ?_
    refine (zq_ic hm (pc' := 8) rfl rfl rfl rfl).trans ?_
    exact zq_ri hm rfl rfl
  · refine (zJ_n rfl).trans ?_
    refine (zq_aln hm (pc' := 10) rfl rfl rfl rfl).trans ?_
    refine (zq_gr hm (pc' := 13) rfl lay_57 rfl rfl).trans ?_
    refine (zJ_n rfl).trans ?_
    refine (zq_iln hm (pc' := 14) rfl rfl rfl rfl).trans ?_
    refine (zq_ia hm (v := (s1 81 x1)) (pc' := 15) rfl lay_81 rfl rfl).trans (zite ?_ rfl)
    refine (zJ_n rfl).trans ?_
    refine (zq_ic hm (pc' := 16) rfl rfl rfl rfl).trans ?_
    refine (zq_ine hm (pc' := 19) rfl rfl).trans (zite ?_ ?_)
    · refine (zJ_n rfl).trans ?_
      refine (zq_bi hm (pc' := 21) rfl rfl rfl rfl).trans ?_
      exact zq_ri hm rfl rfl
    · refine (zJ_n rfl).trans ?_
      refine (zq_aln hm (pc' := 23) rfl rfl rfl rfl).trans ?_
      refine (zq_iln hm (pc' := 24) rfl rfl rfl rfl).trans ?_
      refine (zq_v1 hm (pc' := 27) rfl rfl rfl (cls_57_12) rfl rfl).trans (zCI_c rfl (fun r4 s3 => ?_))
      refine (zJ_n rfl).trans ?_
      refine (zq_zne hm (pc' := 30) rfl rfl).trans (zite ?_ ?_)
      · refine (zJ_n rfl).trans ?_
        refine (zq_bi hm (pc' := 32) rfl rfl rfl rfl).trans ?_
        exact zq_ri hm rfl rfl
      · refine (zJ_n rfl).trans ?_
        refine (zq_iln hm (pc' := 34) rfl rfl rfl rfl).trans ?_
        refine (zq_ic hm (pc' := 35) rfl rfl rfl rfl).trans ?_
        refine (zq_aln hm (pc' := 36) rfl rfl rfl rfl).trans ?_
        refine (zq_gr hm (pc' := 39) rfl lay_57 rfl rfl).trans ?_
        refine (zJ_n rfl).trans ?_
        refine (zq_iln hm (pc' := 40) rfl rfl rfl rfl).trans ?_
        refine (zq_ia hm (v := (s3 82 x1)) (pc' := 41) rfl lay_82 rfl rfl).trans (zite ?_ rfl)
        refine (zJ_n rfl).trans ?_
        refine (zq_ic hm (pc' := 42) rfl rfl rfl rfl).trans ?_
        refine (zq_isub hm (pc' := 43) rfl rfl rfl).trans ?_
        refine (zq_s1 hm (pc' := 46) rfl rfl rfl rfl rfl rfl).trans (zCI_c rfl (fun r6 s5 => ?_))
        refine (zJ_n rfl).trans ?_
        refine (zq_zne hm (pc' := 49) rfl rfl).trans (zite ?_ ?_)
        · refine (zJ_n rfl).trans ?_
          refine (zq_bi hm (pc' := 51) rfl rfl rfl rfl).trans ?_
          exact zq_ri hm rfl rfl
        · refine (zJ_n rfl).trans ?_
          refine (zq_aln hm (pc' := 53) rfl rfl rfl rfl).trans ?_
          refine (zq_gr hm (pc' := 56) rfl lay_57 rfl rfl).trans ?_
          refine (zJ_n rfl).trans ?_
          refine (zq_bi hm (pc' := 58) rfl rfl rfl rfl).trans ?_
          refine (zq_iln hm (pc' := 59) rfl rfl rfl rfl).trans ?_
          refine (zq_imul hm (pc' := 60) rfl rfl rfl).trans ?_
          refine (zq_iln hm (pc' := 61) rfl rfl rfl rfl).trans ?_
          refine (zq_iadd hm (pc' := 62) rfl rfl rfl).trans ?_
          refine (zq_aln hm (pc' := 63) rfl rfl rfl rfl).trans ?_
          refine (zq_gr hm (pc' := 66) rfl lay_57 rfl rfl).trans ?_
          refine (zJ_n rfl).trans ?_
          refine (zq_iln hm (pc' := 67) rfl rfl rfl rfl).trans ?_
          refine (zq_ia hm (v := (s5 81 x1)) (pc' := 68) rfl lay_81 rfl rfl).trans (zite ?_ rfl)
          refine (zJ_n rfl).trans ?_
          refine (zq_lln hm (pc' := 69) rfl rfl rfl rfl).trans ?_
          refine (zq_s2 hm (pc' := 72) rfl rfl rfl rfl rfl rfl).trans (zCJ_c rfl (fun r8 s7 => ?_))
          refine (zJ_n rfl).trans ?_
          refine (zq_lst hm (pc' := 73) rfl lay_83 rfl).trans (zite ?_ rfl)
          refine (zJ_n rfl).trans ?_
          refine (zq_ic hm (pc' := 74) rfl rfl rfl rfl).trans ?_
          exact zq_ri hm rfl rfl
set_option maxRecDepth 100000 in
set_option maxHeartbeats 4000000 in
theorem e_X12_element (d : Nat) (x1 : Int) (x2 : Int) (σ : zF) : zx (d + 1) 249 [.inl (some 57), .inr (.inl x1), .inr (.inl x2)] σ = (
zCI LAY (zx d 158 [.inr (.inl x1)] σ) fun r2 s1 =>
if r2 = 0 then (
zrj (-9223372036854775808) s1) else (
zCI LAY (zx d 246 [.inl (some 57), .inr (.inl x1)] s1) fun r4 s3 =>
if r4 = 0 then (
zrj (-9223372036854775808) s3) else (
if 0 ≤ x1 ∧ x1 < 6 then (
zCI LAY (zx d 153 [.inr (.inl x2), .inr (.inl 0), .inr (.inl (zw ((s3 82 x1) - 1)))] s3) fun r6 s5 =>
if r6 = 0 then (
zrj (-9223372036854775808) s5) else (
if 0 ≤ zw ((zw (60 * x1)) + x2) ∧ zw ((zw (60 * x1)) + x2) < 360 then (
zrj (s5 83 (zw ((zw (60 * x1)) + x2))) s5) else (
none))) else (
none)))) := by
  unfold zx
  have hm := zexec_m zX2 zMT d
  refine (zexec_eq mt_249 _ rfl (LAY, σ) 0).trans ?_
  show zrunL zX2 (zexec zX2 zMT d) K_X12_element U_X12_element 0 [some (.inl (some 57)), some (.inr (.inl x1)), some (.inr (.inl x2))] [] (LAY, σ) = _
  refine (zq_iln hm (pc' := 1) rfl rfl rfl rfl).trans ?_
  refine (zq_s1 hm (pc' := 4) rfl rfl rfl rfl rfl rfl).trans (zCI_c rfl (fun r2 s1 => ?_))
  refine (zJ_n rfl).trans ?_
  refine (zq_zeq hm (pc' := 7) rfl rfl).trans (zite ?_ ?_)
  · refine (zJ_n rfl).trans ?_
    refine (zq_l2 hm (pc' := 48) rfl rfl rfl rfl).trans ?_
    exact zq_rj hm rfl
  · refine (zJ_n rfl).trans ?_
    refine (zq_aln hm (pc' := 8) rfl rfl rfl rfl).trans ?_
    refine (zq_iln hm (pc' := 9) rfl rfl rfl rfl).trans ?_
    refine (zq_v1 hm (pc' := 12) rfl rfl rfl (cls_57_12) rfl rfl).trans (zCI_c rfl (fun r4 s3 => ?_))
    refine (zJ_n rfl).trans ?_
    refine (zq_zeq hm (pc' := 15) rfl rfl).trans (zite ?_ ?_)
    · refine (zJ_n rfl).trans ?_
      refine (zq_l2 hm (pc' := 48) rfl rfl rfl rfl).trans ?_
      exact zq_rj hm rfl
    · refine (zJ_n rfl).trans ?_
      refine (zq_iln hm (pc' := 16) rfl rfl rfl rfl).trans ?_
      refine (zq_ic hm (pc' := 17) rfl rfl rfl rfl).trans ?_
      refine (zq_aln hm (pc' := 18) rfl rfl rfl rfl).trans ?_
      refine (zq_gr hm (pc' := 21) rfl lay_57 rfl rfl).trans ?_
      refine (zJ_n rfl).trans ?_
      refine (zq_iln hm (pc' := 22) rfl rfl rfl rfl).trans ?_
      refine (zq_ia hm (v := (s3 82 x1)) (pc' := 23) rfl lay_82 rfl rfl).trans (zite ?_ rfl)
      refine (zJ_n rfl).trans ?_
      refine (zq_ic hm (pc' := 24) rfl rfl rfl rfl).trans ?_
      refine (zq_isub hm (pc' := 25) rfl rfl rfl).trans ?_
      refine (zq_s1 hm (pc' := 28) rfl rfl rfl rfl rfl rfl).trans (zCI_c rfl (fun r6 s5 => ?_))
      refine (zJ_n rfl).trans ?_
      refine (zq_zeq hm (pc' := 31) rfl rfl).trans (zite ?_ ?_)
      · refine (zJ_n rfl).trans ?_
        refine (zq_l2 hm (pc' := 48) rfl rfl rfl rfl).trans ?_
        exact zq_rj hm rfl
      · refine (zJ_n rfl).trans ?_
        refine (zq_aln hm (pc' := 32) rfl rfl rfl rfl).trans ?_
        refine (zq_gr hm (pc' := 35) rfl lay_57 rfl rfl).trans ?_
        refine (zJ_n rfl).trans ?_
        refine (zq_bi hm (pc' := 37) rfl rfl rfl rfl).trans ?_
        refine (zq_iln hm (pc' := 38) rfl rfl rfl rfl).trans ?_
        refine (zq_imul hm (pc' := 39) rfl rfl rfl).trans ?_
        refine (zq_iln hm (pc' := 40) rfl rfl rfl rfl).trans ?_
        refine (zq_iadd hm (pc' := 41) rfl rfl rfl).trans ?_
        refine (zq_lal hm (v := (s5 83 (zw ((zw (60 * x1)) + x2)))) (pc' := 42) rfl lay_83 rfl rfl).trans (zite ?_ rfl)
        refine (zJ_n rfl).trans ?_
        refine (zq_goto hm rfl rfl).trans ?_
        exact zq_rj hm rfl
noncomputable def P_X12_shift_188 (d : Nat) (y1 : Int) (y2 : Int) (y3 : Int) (y4 : Int) (y5 : Int) (y6 : Int) (σ : zF) : Option zR := zrunL zX2 (zexec zX2 zMT d) K_X12_shift U_X12_shift 188 [some (.inl (some 57)), some (.inr (.inl y1)), some (.inr (.inl y2)), some (.inr (.inl y3)), some (.inr (.inl y4)), some (.inr (.inl y5)), some (.inr (.inl y6))] [] (LAY, σ)
noncomputable def P_X12_shift_142 (d : Nat) (y1 : Int) (y2 : Int) (y3 : Int) (y4 : Int) (y5 : Int) (y6 : Int) (σ : zF) : Option zR := zrunL zX2 (zexec zX2 zMT d) K_X12_shift U_X12_shift 142 [some (.inl (some 57)), some (.inr (.inl y1)), some (.inr (.inl y2)), some (.inr (.inl y3)), some (.inr (.inl y4)), some (.inr (.inl y5)), some (.inr (.inl y6))] [] (LAY, σ)
set_option maxRecDepth 100000 in
set_option maxHeartbeats 4000000 in
theorem e_X12_shift (d : Nat) (x1 : Int) (x2 : Int) (x3 : Int) (x4 : Int) (x5 : Int) (σ : zF) : zx (d + 1) 250 [.inl (some 57), .inr (.inl x1), .inr (.inl x2), .inr (.inl x3), .inr (.inl x4), .inr (.inl x5)] σ = (
zCI LAY (zx d 158 [.inr (.inl x1)] σ) fun r2 s1 =>
if r2 = 0 then (
zri (-1) s1) else (
zCI LAY (zx d 158 [.inr (.inl x3)] s1) fun r4 s3 =>
if r4 = 0 then (
zri (-1) s3) else (
if 0 ≤ x1 ∧ x1 < 6 then (
if (s3 81 x1) = (-1) then (
zri (-11) s3) else (
if 0 ≤ x3 ∧ x3 < 6 then (
if (s3 81 x3) = (-1) then (
zri (-11) s3) else (
zCI LAY (zx d 246 [.inl (some 57), .inr (.inl x1)] s3) fun r6 s5 =>
if r6 = 0 then (
zri (-12) s5) else (
zCI LAY (zx d 246 [.inl (some 57), .inr (.inl x3)] s5) fun r8 s7 =>
if r8 = 0 then (
zri (-12) s7) else (
if 0 ≤ x1 ∧ x1 < 6 then (
if 0 ≤ x3 ∧ x3 < 6 then (
if (s7 81 x1) = (s7 81 x3) then (
if x5 < 0 then (
zri (-13) s7) else (
if x2 < 0 then (
zri (-13) s7) else (
if x4 < 0 then (
zri (-13) s7) else (
if 0 ≤ x1 ∧ x1 < 6 then (
if (0 : Int) < zcmpl (zwl (x2 + x5)) (s7 82 x1) then (
zri (-13) s7) else (
if 0 ≤ x3 ∧ x3 < 6 then (
if (0 : Int) < zcmpl (zwl (x4 + x5)) (s7 82 x3) then (
zri (-13) s7) else (
if x1 = x3 then (
if x2 < x4 then (
P_X12_shift_142 d x1 x2 x3 x4 x5 (zw (x5 - 1)) s7) else (
P_X12_shift_188 d x1 x2 x3 x4 x5 0 s7)) else (
P_X12_shift_188 d x1 x2 x3 x4 x5 0 s7))) else (
none))) else (
none))))) else (
zri (-12) s7)) else (
none)) else (
none))))) else (
none))) else (
none)))) := by
  unfold zx
  have hm := zexec_m zX2 zMT d
  refine (zexec_eq mt_250 _ rfl (LAY, σ) 0).trans ?_
  show zrunL zX2 (zexec zX2 zMT d) K_X12_shift U_X12_shift 0 [some (.inl (some 57)), some (.inr (.inl x1)), some (.inr (.inl x2)), some (.inr (.inl x3)), some (.inr (.inl x4)), some (.inr (.inl x5)), none] [] (LAY, σ) = _
  refine (zq_iln hm (pc' := 1) rfl rfl rfl rfl).trans ?_
  refine (zq_s1 hm (pc' := 4) rfl rfl rfl rfl rfl rfl).trans (zCI_c rfl (fun r2 s1 => ?_))
  refine (zJ_n rfl).trans ?_
  refine (zq_zeq hm (pc' := 7) rfl rfl).trans (zite ?_ ?_)
  · refine (zJ_n rfl).trans ?_
    refine (zq_ic hm (pc' := 15) rfl rfl rfl rfl).trans ?_
    exact zq_ri hm rfl rfl
  · refine (zJ_n rfl).trans ?_
    refine (zq_iln hm (pc' := 8) rfl rfl rfl rfl).trans ?_
    refine (zq_s1 hm (pc' := 11) rfl rfl rfl rfl rfl rfl).trans (zCI_c rfl (fun r4 s3 => ?_))
    refine (zJ_n rfl).trans ?_
    refine (zq_zne hm (pc' := 14) rfl rfl).trans (zite ?_ ?_)
    · refine (zJ_n rfl).trans ?_
      refine (zq_ic hm (pc' := 15) rfl rfl rfl rfl).trans ?_
      exact zq_ri hm rfl rfl
    · refine (zJ_n rfl).trans ?_
      refine (zq_aln hm (pc' := 17) rfl rfl rfl rfl).trans ?_
      refine (zq_gr hm (pc' := 20) rfl lay_57 rfl rfl).trans ?_
      refine (zJ_n rfl).trans ?_
      refine (zq_iln hm (pc' := 21) rfl rfl rfl rfl).trans ?_
      refine (zq_ia hm (v := (s3 81 x1)) (pc' := 22) rfl lay_81 rfl rfl).trans (zite ?_ rfl)
      refine (zJ_n rfl).trans ?_
      refine (zq_ic hm (pc' := 23) rfl rfl rfl rfl).trans ?_
      refine (zq_ieq hm (pc' := 26) rfl rfl).trans (zite ?_ ?_)
      · refine (zJ_n rfl).trans ?_
        refine (zq_bi hm (pc' := 38) rfl rfl rfl rfl).trans ?_
        exact zq_ri hm rfl rfl
      · refine (zJ_n rfl).trans ?_
        refine (zq_aln hm (pc' := 27) rfl rfl rfl rfl).trans ?_
        refine (zq_gr hm (pc' := 30) rfl lay_57 rfl rfl).trans ?_
        refine (zJ_n rfl).trans ?_
        refine (zq_iln hm (pc' := 31) rfl rfl rfl rfl).trans ?_
        refine (zq_ia hm (v := (s3 81 x3)) (pc' := 32) rfl lay_81 rfl rfl).trans (zite ?_ rfl)
        refine (zJ_n rfl).trans ?_
        refine (zq_ic hm (pc' := 33) rfl rfl rfl rfl).trans ?_
        refine (zq_ine hm (pc' := 36) rfl rfl).trans (zite ?_ ?_)
        · refine (zJ_n rfl).trans ?_
          refine (zq_bi hm (pc' := 38) rfl rfl rfl rfl).trans ?_
          exact zq_ri hm rfl rfl
        · refine (zJ_n rfl).trans ?_
          refine (zq_aln hm (pc' := 40) rfl rfl rfl rfl).trans ?_
          refine (zq_iln hm (pc' := 41) rfl rfl rfl rfl).trans ?_
          refine (zq_v1 hm (pc' := 44) rfl rfl rfl (cls_57_12) rfl rfl).trans (zCI_c rfl (fun r6 s5 => ?_))
          refine (zJ_n rfl).trans ?_
          refine (zq_zeq hm (pc' := 47) rfl rfl).trans (zite ?_ ?_)
          · refine (zJ_n rfl).trans ?_
            refine (zq_bi hm (pc' := 72) rfl rfl rfl rfl).trans ?_
            exact zq_ri hm rfl rfl
          · refine (zJ_n rfl).trans ?_
            refine (zq_aln hm (pc' := 48) rfl rfl rfl rfl).trans ?_
            refine (zq_iln hm (pc' := 49) rfl rfl rfl rfl).trans ?_
            refine (zq_v1 hm (pc' := 52) rfl rfl rfl (cls_57_12) rfl rfl).trans (zCI_c rfl (fun r8 s7 => ?_))
            refine (zJ_n rfl).trans ?_
            refine (zq_zeq hm (pc' := 55) rfl rfl).trans (zite ?_ ?_)
            · refine (zJ_n rfl).trans ?_
              refine (zq_bi hm (pc' := 72) rfl rfl rfl rfl).trans ?_
              exact zq_ri hm rfl rfl
            · refine (zJ_n rfl).trans ?_
              refine (zq_aln hm (pc' := 56) rfl rfl rfl rfl).trans ?_
              refine (zq_gr hm (pc' := 59) rfl lay_57 rfl rfl).trans ?_
              refine (zJ_n rfl).trans ?_
              refine (zq_iln hm (pc' := 60) rfl rfl rfl rfl).trans ?_
              refine (zq_ia hm (v := (s7 81 x1)) (pc' := 61) rfl lay_81 rfl rfl).trans (zite ?_ rfl)
              refine (zJ_n rfl).trans ?_
              refine (zq_aln hm (pc' := 62) rfl rfl rfl rfl).trans ?_
              refine (zq_gr hm (pc' := 65) rfl lay_57 rfl rfl).trans ?_
              refine (zJ_n rfl).trans ?_
              refine (zq_iln hm (pc' := 66) rfl rfl rfl rfl).trans ?_
              refine (zq_ia hm (v := (s7 81 x3)) (pc' := 67) rfl lay_81 rfl rfl).trans (zite ?_ rfl)
              refine (zJ_n rfl).trans ?_
              refine (zq_ieq hm (pc' := 70) rfl rfl).trans (zite ?_ ?_)
              · refine (zJ_n rfl).trans ?_
                refine (zq_il hm (pc' := 75) rfl rfl rfl rfl).trans ?_
                refine (zq_zlt hm (pc' := 78) rfl rfl).trans (zite ?_ ?_)
                · refine (zJ_n rfl).trans ?_
                  refine (zq_bi hm (pc' := 124) rfl rfl rfl rfl).trans ?_
                  exact zq_ri hm rfl rfl
                · refine (zJ_n rfl).trans ?_
                  refine (zq_iln hm (pc' := 79) rfl rfl rfl rfl).trans ?_
                  refine (zq_zlt hm (pc' := 82) rfl rfl).trans (zite ?_ ?_)
                  · refine (zJ_n rfl).trans ?_
                    refine (zq_bi hm (pc' := 124) rfl rfl rfl rfl).trans ?_
                    exact zq_ri hm rfl rfl
                  · refine (zJ_n rfl).trans ?_
                    refine (zq_il hm (pc' := 84) rfl rfl rfl rfl).trans ?_
                    refine (zq_zlt hm (pc' := 87) rfl rfl).trans (zite ?_ ?_)
                    · refine (zJ_n rfl).trans ?_
                      refine (zq_bi hm (pc' := 124) rfl rfl rfl rfl).trans ?_
                      exact zq_ri hm rfl rfl
                    · refine (zJ_n rfl).trans ?_
                      refine (zq_iln hm (pc' := 88) rfl rfl rfl rfl).trans ?_
                      refine (zq_i2l hm (pc' := 89) rfl rfl rfl).trans ?_
                      refine (zq_il hm (pc' := 91) rfl rfl rfl rfl).trans ?_
                      refine (zq_i2l hm (pc' := 92) rfl rfl rfl).trans ?_
                      refine (zq_ladd hm (pc' := 93) rfl rfl rfl).trans ?_
                      refine (zq_aln hm (pc' := 94) rfl rfl rfl rfl).trans ?_
                      refine (zq_gr hm (pc' := 97) rfl lay_57 rfl rfl).trans ?_
                      refine (zJ_n rfl).trans ?_
                      refine (zq_iln hm (pc' := 98) rfl rfl rfl rfl).trans ?_
                      refine (zq_ia hm (v := (s7 82 x1)) (pc' := 99) rfl lay_82 rfl rfl).trans (zite ?_ rfl)
                      refine (zJ_n rfl).trans ?_
                      refine (zq_i2l hm (pc' := 100) rfl rfl rfl).trans ?_
                      refine (zq_lcmp hm (pc' := 101) rfl rfl rfl).trans ?_
                      refine (zq_zgt hm (pc' := 104) rfl rfl).trans (zite ?_ ?_)
                      · refine (zJ_n rfl).trans ?_
                        refine (zq_bi hm (pc' := 124) rfl rfl rfl rfl).trans ?_
                        exact zq_ri hm rfl rfl
                      · refine (zJ_n rfl).trans ?_
                        refine (zq_il hm (pc' := 106) rfl rfl rfl rfl).trans ?_
                        refine (zq_i2l hm (pc' := 107) rfl rfl rfl).trans ?_
                        refine (zq_il hm (pc' := 109) rfl rfl rfl rfl).trans ?_
                        refine (zq_i2l hm (pc' := 110) rfl rfl rfl).trans ?_
                        refine (zq_ladd hm (pc' := 111) rfl rfl rfl).trans ?_
                        refine (zq_aln hm (pc' := 112) rfl rfl rfl rfl).trans ?_
                        refine (zq_gr hm (pc' := 115) rfl lay_57 rfl rfl).trans ?_
                        refine (zJ_n rfl).trans ?_
                        refine (zq_iln hm (pc' := 116) rfl rfl rfl rfl).trans ?_
                        refine (zq_ia hm (v := (s7 82 x3)) (pc' := 117) rfl lay_82 rfl rfl).trans (zite ?_ rfl)
                        refine (zJ_n rfl).trans ?_
                        refine (zq_i2l hm (pc' := 118) rfl rfl rfl).trans ?_
                        refine (zq_lcmp hm (pc' := 119) rfl rfl rfl).trans ?_
                        refine (zq_zle hm (pc' := 122) rfl rfl).trans (zite ?_ ?_)
                        · refine (zJ_n rfl).trans ?_
                          refine (zq_bi hm (pc' := 124) rfl rfl rfl rfl).trans ?_
                          exact zq_ri hm rfl rfl
                        · refine (zJ_n rfl).trans ?_
                          refine (zq_iln hm (pc' := 126) rfl rfl rfl rfl).trans ?_
                          refine (zq_iln hm (pc' := 127) rfl rfl rfl rfl).trans ?_
                          refine (zq_ine hm (pc' := 130) rfl rfl).trans (zite ?_ ?_)
                          · refine (zJ_n rfl).trans ?_
                            refine (zq_iln hm (pc' := 131) rfl rfl rfl rfl).trans ?_
                            refine (zq_il hm (pc' := 133) rfl rfl rfl rfl).trans ?_
                            refine (zq_ige hm (pc' := 136) rfl rfl).trans (zite ?_ ?_)
                            · refine (zJ_n rfl).trans ?_
                              refine (zq_il hm (pc' := 138) rfl rfl rfl rfl).trans ?_
                              refine (zq_ic hm (pc' := 139) rfl rfl rfl rfl).trans ?_
                              refine (zq_isub hm (pc' := 140) rfl rfl rfl).trans ?_
                              exact (zc_is hm (ls' := [some (.inl (some 57)), some (.inr (.inl x1)), some (.inr (.inl x2)), some (.inr (.inl x3)), some (.inr (.inl x4)), some (.inr (.inl x5)), some (.inr (.inl (zw (x5 - 1))))]) (pc' := 142) rfl rfl rfl rfl).trans rfl
                            · refine (zJ_n rfl).trans ?_
                              refine (zq_ic hm (pc' := 186) rfl rfl rfl rfl).trans ?_
                              exact (zc_is hm (ls' := [some (.inl (some 57)), some (.inr (.inl x1)), some (.inr (.inl x2)), some (.inr (.inl x3)), some (.inr (.inl x4)), some (.inr (.inl x5)), some (.inr (.inl 0))]) (pc' := 188) rfl rfl rfl rfl).trans rfl
                          · refine (zJ_n rfl).trans ?_
                            refine (zq_ic hm (pc' := 186) rfl rfl rfl rfl).trans ?_
                            exact (zc_is hm (ls' := [some (.inl (some 57)), some (.inr (.inl x1)), some (.inr (.inl x2)), some (.inr (.inl x3)), some (.inr (.inl x4)), some (.inr (.inl x5)), some (.inr (.inl 0))]) (pc' := 188) rfl rfl rfl rfl).trans rfl
              · refine (zJ_n rfl).trans ?_
                refine (zq_bi hm (pc' := 72) rfl rfl rfl rfl).trans ?_
                exact zq_ri hm rfl rfl
set_option maxRecDepth 100000 in
set_option maxHeartbeats 4000000 in
theorem e_X12_shift_188 (d : Nat) (y1 : Int) (y2 : Int) (y3 : Int) (y4 : Int) (y5 : Int) (y6 : Int) (σ : zF) : P_X12_shift_188 d y1 y2 y3 y4 y5 y6 σ = (
if y6 < y5 then (
if 0 ≤ zw ((zw ((zw (60 * y1)) + y2)) + y6) ∧ zw ((zw ((zw (60 * y1)) + y2)) + y6) < 360 then (
if 0 ≤ zw ((zw ((zw (60 * y3)) + y4)) + y6) ∧ zw ((zw ((zw (60 * y3)) + y4)) + y6) < 360 then (
P_X12_shift_188 d y1 y2 y3 y4 y5 (zw (y6 + 1)) (zset σ 83 (zw ((zw ((zw (60 * y3)) + y4)) + y6)) (σ 83 (zw ((zw ((zw (60 * y1)) + y2)) + y6))))) else (
none)) else (
none)) else (
zri y5 σ)) := by
  have hm := zexec_m zX2 zMT d
  show zrunL zX2 (zexec zX2 zMT d) K_X12_shift U_X12_shift 188 [some (.inl (some 57)), some (.inr (.inl y1)), some (.inr (.inl y2)), some (.inr (.inl y3)), some (.inr (.inl y4)), some (.inr (.inl y5)), some (.inr (.inl y6))] [] (LAY, σ) = _
  refine (zq_il hm (pc' := 190) rfl rfl rfl rfl).trans ?_
  refine (zq_il hm (pc' := 192) rfl rfl rfl rfl).trans ?_
  refine (zq_ige hm (pc' := 195) rfl rfl).trans (zite ?_ ?_)
  · refine (zJ_n rfl).trans ?_
    refine (zq_aln hm (pc' := 196) rfl rfl rfl rfl).trans ?_
    refine (zq_gr hm (pc' := 199) rfl lay_57 rfl rfl).trans ?_
    refine (zJ_n rfl).trans ?_
    refine (zq_bi hm (pc' := 201) rfl rfl rfl rfl).trans ?_
    refine (zq_iln hm (pc' := 202) rfl rfl rfl rfl).trans ?_
    refine (zq_imul hm (pc' := 203) rfl rfl rfl).trans ?_
    refine (zq_il hm (pc' := 205) rfl rfl rfl rfl).trans ?_
    refine (zq_iadd hm (pc' := 206) rfl rfl rfl).trans ?_
    refine (zq_il hm (pc' := 208) rfl rfl rfl rfl).trans ?_
    refine (zq_iadd hm (pc' := 209) rfl rfl rfl).trans ?_
    refine (zq_aln hm (pc' := 210) rfl rfl rfl rfl).trans ?_
    refine (zq_gr hm (pc' := 213) rfl lay_57 rfl rfl).trans ?_
    refine (zJ_n rfl).trans ?_
    refine (zq_bi hm (pc' := 215) rfl rfl rfl rfl).trans ?_
    refine (zq_iln hm (pc' := 216) rfl rfl rfl rfl).trans ?_
    refine (zq_imul hm (pc' := 217) rfl rfl rfl).trans ?_
    refine (zq_iln hm (pc' := 218) rfl rfl rfl rfl).trans ?_
    refine (zq_iadd hm (pc' := 219) rfl rfl rfl).trans ?_
    refine (zq_il hm (pc' := 221) rfl rfl rfl rfl).trans ?_
    refine (zq_iadd hm (pc' := 222) rfl rfl rfl).trans ?_
    refine (zq_lal hm (v := (σ 83 (zw ((zw ((zw (60 * y1)) + y2)) + y6)))) (pc' := 223) rfl lay_83 rfl rfl).trans (zite ?_ rfl)
    refine (zJ_n rfl).trans ?_
    refine (zq_lst hm (pc' := 224) rfl lay_83 rfl).trans (zite ?_ rfl)
    refine (zJ_n rfl).trans ?_
    refine (zq_iinc hm (ls' := [some (.inl (some 57)), some (.inr (.inl y1)), some (.inr (.inl y2)), some (.inr (.inl y3)), some (.inr (.inl y4)), some (.inr (.inl y5)), some (.inr (.inl (zw (y6 + 1))))]) (pc' := 227) rfl rfl rfl rfl rfl rfl).trans ?_
    exact (zc_goto hm rfl rfl).trans rfl
  · refine (zJ_n rfl).trans ?_
    refine (zq_il hm (pc' := 232) rfl rfl rfl rfl).trans ?_
    exact zq_ri hm rfl rfl
set_option maxRecDepth 100000 in
set_option maxHeartbeats 4000000 in
theorem e_X12_shift_142 (d : Nat) (y1 : Int) (y2 : Int) (y3 : Int) (y4 : Int) (y5 : Int) (y6 : Int) (σ : zF) : P_X12_shift_142 d y1 y2 y3 y4 y5 y6 σ = (
if y6 < 0 then (
zri y5 σ) else (
if 0 ≤ zw ((zw ((zw (60 * y1)) + y2)) + y6) ∧ zw ((zw ((zw (60 * y1)) + y2)) + y6) < 360 then (
if 0 ≤ zw ((zw ((zw (60 * y3)) + y4)) + y6) ∧ zw ((zw ((zw (60 * y3)) + y4)) + y6) < 360 then (
P_X12_shift_142 d y1 y2 y3 y4 y5 (zw (y6 + (-1))) (zset σ 83 (zw ((zw ((zw (60 * y3)) + y4)) + y6)) (σ 83 (zw ((zw ((zw (60 * y1)) + y2)) + y6))))) else (
none)) else (
none))) := by
  have hm := zexec_m zX2 zMT d
  show zrunL zX2 (zexec zX2 zMT d) K_X12_shift U_X12_shift 142 [some (.inl (some 57)), some (.inr (.inl y1)), some (.inr (.inl y2)), some (.inr (.inl y3)), some (.inr (.inl y4)), some (.inr (.inl y5)), some (.inr (.inl y6))] [] (LAY, σ) = _
  refine (zq_il hm (pc' := 144) rfl rfl rfl rfl).trans ?_
  refine (zq_zlt hm (pc' := 147) rfl rfl).trans (zite ?_ ?_)
  · refine (zJ_n rfl).trans ?_
    refine (zq_goto hm rfl rfl).trans ?_
    refine (zq_il hm (pc' := 232) rfl rfl rfl rfl).trans ?_
    exact zq_ri hm rfl rfl
  · refine (zJ_n rfl).trans ?_
    refine (zq_aln hm (pc' := 148) rfl rfl rfl rfl).trans ?_
    refine (zq_gr hm (pc' := 151) rfl lay_57 rfl rfl).trans ?_
    refine (zJ_n rfl).trans ?_
    refine (zq_bi hm (pc' := 153) rfl rfl rfl rfl).trans ?_
    refine (zq_iln hm (pc' := 154) rfl rfl rfl rfl).trans ?_
    refine (zq_imul hm (pc' := 155) rfl rfl rfl).trans ?_
    refine (zq_il hm (pc' := 157) rfl rfl rfl rfl).trans ?_
    refine (zq_iadd hm (pc' := 158) rfl rfl rfl).trans ?_
    refine (zq_il hm (pc' := 160) rfl rfl rfl rfl).trans ?_
    refine (zq_iadd hm (pc' := 161) rfl rfl rfl).trans ?_
    refine (zq_aln hm (pc' := 162) rfl rfl rfl rfl).trans ?_
    refine (zq_gr hm (pc' := 165) rfl lay_57 rfl rfl).trans ?_
    refine (zJ_n rfl).trans ?_
    refine (zq_bi hm (pc' := 167) rfl rfl rfl rfl).trans ?_
    refine (zq_iln hm (pc' := 168) rfl rfl rfl rfl).trans ?_
    refine (zq_imul hm (pc' := 169) rfl rfl rfl).trans ?_
    refine (zq_iln hm (pc' := 170) rfl rfl rfl rfl).trans ?_
    refine (zq_iadd hm (pc' := 171) rfl rfl rfl).trans ?_
    refine (zq_il hm (pc' := 173) rfl rfl rfl rfl).trans ?_
    refine (zq_iadd hm (pc' := 174) rfl rfl rfl).trans ?_
    refine (zq_lal hm (v := (σ 83 (zw ((zw ((zw (60 * y1)) + y2)) + y6)))) (pc' := 175) rfl lay_83 rfl rfl).trans (zite ?_ rfl)
    refine (zJ_n rfl).trans ?_
    refine (zq_lst hm (pc' := 176) rfl lay_83 rfl).trans (zite ?_ rfl)
    refine (zJ_n rfl).trans ?_
    refine (zq_iinc hm (ls' := [some (.inl (some 57)), some (.inr (.inl y1)), some (.inr (.inl y2)), some (.inr (.inl y3)), some (.inr (.inl y4)), some (.inr (.inl y5)), some (.inr (.inl (zw (y6 + (-1)))))]) (pc' := 179) rfl rfl rfl rfl rfl rfl).trans ?_
    exact (zc_goto hm rfl rfl).trans rfl
noncomputable def P_X12_taken_61 (d : Nat) (y0 : Int) (y1 : Int) (y2 : Int) (σ : zF) : Option zR := zrunL zX2 (zexec zX2 zMT d) K_X12_taken U_X12_taken 61 [none, none, some (.inr (.inl y0)), some (.inr (.inl y1)), some (.inr (.inl y2))] [] (LAY, σ)
set_option maxRecDepth 100000 in
set_option maxHeartbeats 4000000 in
theorem e_X12_taken (d : Nat) (x1 : Int) (x2 : Int) (σ : zF) : zx (d + 1) 251 [.inl (some 57), .inr (.inl x1), .inr (.inl x2)] σ = (
zCI LAY (zx d 158 [.inr (.inl x1)] σ) fun r2 s1 =>
if r2 = 0 then (
zri (-1) s1) else (
zCI LAY (zx d 153 [.inr (.inl x2), .inr (.inl 0), .inr (.inl 7)] s1) fun r4 s3 =>
if r4 = 0 then (
zri (-1) s3) else (
if 0 ≤ x1 ∧ x1 < 6 then (
if (s3 81 x1) = (-1) then (
zri (-11) s3) else (
zCI LAY (zx d 246 [.inl (some 57), .inr (.inl x1)] s3) fun r6 s5 =>
if r6 = 0 then (
if 0 ≤ x1 ∧ x1 < 6 then (
if 0 ≤ zw ((s5 81 x1) - 10) ∧ zw ((s5 81 x1) - 10) < 50 then (
P_X12_taken_61 d x2 (s5 79 (zw ((s5 81 x1) - 10))) (s5 79 (zw ((s5 81 x1) - 10))) s5) else (
none)) else (
none)) else (
zri (-12) s5))) else (
none)))) := by
  unfold zx
  have hm := zexec_m zX2 zMT d
  refine (zexec_eq mt_251 _ rfl (LAY, σ) 0).trans ?_
  show zrunL zX2 (zexec zX2 zMT d) K_X12_taken U_X12_taken 0 [some (.inl (some 57)), some (.inr (.inl x1)), some (.inr (.inl x2)), none, none] [] (LAY, σ) = _
  refine (zq_iln hm (pc' := 1) rfl rfl rfl rfl).trans ?_
  refine (zq_s1 hm (pc' := 4) rfl rfl rfl rfl rfl rfl).trans (zCI_c rfl (fun r2 s1 => ?_))
  refine (zJ_n rfl).trans ?_
  refine (zq_zeq hm (pc' := 7) rfl rfl).trans (zite ?_ ?_)
  · refine (zJ_n rfl).trans ?_
    refine (zq_ic hm (pc' := 18) rfl rfl rfl rfl).trans ?_
    exact zq_ri hm rfl rfl
  · refine (zJ_n rfl).trans ?_
    refine (zq_iln hm (pc' := 8) rfl rfl rfl rfl).trans ?_
    refine (zq_ic hm (pc' := 9) rfl rfl rfl rfl).trans ?_
    refine (zq_bi hm (pc' := 11) rfl rfl rfl rfl).trans ?_
    refine (zq_s1 hm (pc' := 14) rfl rfl rfl rfl rfl rfl).trans (zCI_c rfl (fun r4 s3 => ?_))
    refine (zJ_n rfl).trans ?_
    refine (zq_zne hm (pc' := 17) rfl rfl).trans (zite ?_ ?_)
    · refine (zJ_n rfl).trans ?_
      refine (zq_ic hm (pc' := 18) rfl rfl rfl rfl).trans ?_
      exact zq_ri hm rfl rfl
    · refine (zJ_n rfl).trans ?_
      refine (zq_aln hm (pc' := 20) rfl rfl rfl rfl).trans ?_
      refine (zq_gr hm (pc' := 23) rfl lay_57 rfl rfl).trans ?_
      refine (zJ_n rfl).trans ?_
      refine (zq_iln hm (pc' := 24) rfl rfl rfl rfl).trans ?_
      refine (zq_ia hm (v := (s3 81 x1)) (pc' := 25) rfl lay_81 rfl rfl).trans (zite ?_ rfl)
      refine (zJ_n rfl).trans ?_
      refine (zq_ic hm (pc' := 26) rfl rfl rfl rfl).trans ?_
      refine (zq_ine hm (pc' := 29) rfl rfl).trans (zite ?_ ?_)
      · refine (zJ_n rfl).trans ?_
        refine (zq_bi hm (pc' := 31) rfl rfl rfl rfl).trans ?_
        exact zq_ri hm rfl rfl
      · refine (zJ_n rfl).trans ?_
        refine (zq_aln hm (pc' := 33) rfl rfl rfl rfl).trans ?_
        refine (zq_iln hm (pc' := 34) rfl rfl rfl rfl).trans ?_
        refine (zq_v1 hm (pc' := 37) rfl rfl rfl (cls_57_12) rfl rfl).trans (zCI_c rfl (fun r6 s5 => ?_))
        refine (zJ_n rfl).trans ?_
        refine (zq_zeq hm (pc' := 40) rfl rfl).trans (zite ?_ ?_)
        · refine (zJ_n rfl).trans ?_
          refine (zq_aln hm (pc' := 44) rfl rfl rfl rfl).trans ?_
          refine (zq_gr hm (pc' := 47) rfl lay_57 rfl rfl).trans ?_
          refine (zJ_n rfl).trans ?_
          refine (zq_aln hm (pc' := 48) rfl rfl rfl rfl).trans ?_
          refine (zq_gr hm (pc' := 51) rfl lay_57 rfl rfl).trans ?_
          refine (zJ_n rfl).trans ?_
          refine (zq_iln hm (pc' := 52) rfl rfl rfl rfl).trans ?_
          refine (zq_ia hm (v := (s5 81 x1)) (pc' := 53) rfl lay_81 rfl rfl).trans (zite ?_ rfl)
          refine (zJ_n rfl).trans ?_
          refine (zq_bi hm (pc' := 55) rfl rfl rfl rfl).trans ?_
          refine (zq_isub hm (pc' := 56) rfl rfl rfl).trans ?_
          refine (zq_ia hm (v := (s5 79 (zw ((s5 81 x1) - 10)))) (pc' := 57) rfl lay_79 rfl rfl).trans (zite ?_ rfl)
          refine (zJ_n rfl).trans ?_
          refine (zq_isn hm (ls' := [some (.inl (some 57)), some (.inr (.inl x1)), some (.inr (.inl x2)), some (.inr (.inl (s5 79 (zw ((s5 81 x1) - 10))))), none]) (pc' := 58) rfl rfl rfl rfl).trans ?_
          refine (zq_iln hm (pc' := 59) rfl rfl rfl rfl).trans ?_
          exact (zc_is hm (ls' := [some (.inl (some 57)), some (.inr (.inl x1)), some (.inr (.inl x2)), some (.inr (.inl (s5 79 (zw ((s5 81 x1) - 10))))), some (.inr (.inl (s5 79 (zw ((s5 81 x1) - 10)))))]) (pc' := 61) rfl rfl rfl rfl).trans rfl
        · refine (zJ_n rfl).trans ?_
          refine (zq_bi hm (pc' := 42) rfl rfl rfl rfl).trans ?_
          exact zq_ri hm rfl rfl
set_option maxRecDepth 100000 in
set_option maxHeartbeats 4000000 in
theorem e_X12_taken_61 (d : Nat) (y0 : Int) (y1 : Int) (y2 : Int) (σ : zF) : P_X12_taken_61 d y0 y1 y2 σ = (
if y2 = y0 then (
if y2 = y0 then (
zri y1 σ) else (
zri (-12) σ)) else (
if (0 : Int) < y2 then (
zCI LAY (zx d 235 [.inr (.inl y2)] σ) fun r102 s101 =>
P_X12_taken_61 d y0 y1 r102 s101) else (
if y2 = y0 then (
zri y1 σ) else (
zri (-12) σ)))) := by
  have hm := zexec_m zX2 zMT d
  show zrunL zX2 (zexec zX2 zMT d) K_X12_taken U_X12_taken 61 [none, none, some (.inr (.inl y0)), some (.inr (.inl y1)), some (.inr (.inl y2))] [] (LAY, σ) = _
  refine (zq_il hm (pc' := 63) rfl rfl rfl rfl).trans ?_
  refine (zq_iln hm (pc' := 64) rfl rfl rfl rfl).trans ?_
  refine (zq_ieq hm (pc' := 67) rfl rfl).trans (zite ?_ ?_)
  · refine (zJ_n rfl).trans ?_
    refine (zq_il hm (pc' := 84) rfl rfl rfl rfl).trans ?_
    refine (zq_iln hm (pc' := 85) rfl rfl rfl rfl).trans ?_
    refine (zq_ine hm (pc' := 88) rfl rfl).trans (zite ?_ ?_)
    · refine (zJ_n rfl).trans ?_
      refine (zq_iln hm (pc' := 89) rfl rfl rfl rfl).trans ?_
      refine (zq_goto hm rfl rfl).trans ?_
      exact zq_ri hm rfl rfl
    · refine (zJ_n rfl).trans ?_
      refine (zq_bi hm (pc' := 94) rfl rfl rfl rfl).trans ?_
      exact zq_ri hm rfl rfl
  · refine (zJ_n rfl).trans ?_
    refine (zq_il hm (pc' := 69) rfl rfl rfl rfl).trans ?_
    refine (zq_zle hm (pc' := 72) rfl rfl).trans (zite ?_ ?_)
    · refine (zJ_n rfl).trans ?_
      refine (zq_il hm (pc' := 74) rfl rfl rfl rfl).trans ?_
      refine (zq_s1 hm (pc' := 77) rfl rfl rfl rfl rfl rfl).trans (zCI_c rfl (fun r102 s101 => ?_))
      refine (zJ_n rfl).trans ?_
      refine (zq_is hm (ls' := [none, none, some (.inr (.inl y0)), some (.inr (.inl y1)), some (.inr (.inl r102))]) (pc' := 79) rfl rfl rfl rfl).trans ?_
      exact (zc_goto hm rfl rfl).trans rfl
    · refine (zJ_n rfl).trans ?_
      refine (zq_il hm (pc' := 84) rfl rfl rfl rfl).trans ?_
      refine (zq_iln hm (pc' := 85) rfl rfl rfl rfl).trans ?_
      refine (zq_ine hm (pc' := 88) rfl rfl).trans (zite ?_ ?_)
      · refine (zJ_n rfl).trans ?_
        refine (zq_iln hm (pc' := 89) rfl rfl rfl rfl).trans ?_
        refine (zq_goto hm rfl rfl).trans ?_
        exact zq_ri hm rfl rfl
      · refine (zJ_n rfl).trans ?_
        refine (zq_bi hm (pc' := 94) rfl rfl rfl rfl).trans ?_
        exact zq_ri hm rfl rfl
set_option maxRecDepth 100000 in
set_option maxHeartbeats 4000000 in
theorem e_X12_count (d : Nat) (x1 : Int) (σ : zF) : zx (d + 1) 252 [.inl (some 57), .inr (.inl x1)] σ = (
if x1 = 0 then (
zri (σ 57 0) σ) else (
if x1 = 1 then (
zri (σ 57 4) σ) else (
if x1 = 2 then (
zri (σ 57 7) σ) else (
if x1 = 3 then (
zri (σ 57 33) σ) else (
if x1 = 4 then (
zri (σ 57 35) σ) else (
if x1 = 5 then (
zri (σ 57 37) σ) else (
zri (-1) σ))))))) := by
  unfold zx
  have hm := zexec_m zX2 zMT d
  refine (zexec_eq mt_252 _ rfl (LAY, σ) 0).trans ?_
  show zrunL zX2 (zexec zX2 zMT d) K_X12_count U_X12_count 0 [some (.inl (some 57)), some (.inr (.inl x1))] [] (LAY, σ) = _
  refine (zq_iln hm (pc' := 1) rfl rfl rfl rfl).trans ?_
  refine (zq_ts hm rfl).trans (zsw_c (k' := fun _ => none) ?_ (zsw_c (k' := fun _ => none) ?_ (zsw_c (k' := fun _ => none) ?_ (zsw_c (k' := fun _ => none) ?_ (zsw_c (k' := fun _ => none) ?_ (zsw_c (k' := fun _ => none) ?_ (zsw_n ?_)))))))
  · refine (zJ_n rfl).trans ?_
    refine (zq_aln hm (pc' := 41) rfl rfl rfl rfl).trans ?_
    refine (zq_gf hm (v := (σ 57 0)) (pc' := 44) rfl lay_57 rfl rfl rfl).trans ?_
    refine (zJ_n rfl).trans ?_
    exact zq_ri hm rfl rfl
  · refine (zJ_n rfl).trans ?_
    refine (zq_aln hm (pc' := 46) rfl rfl rfl rfl).trans ?_
    refine (zq_gf hm (v := (σ 57 4)) (pc' := 49) rfl lay_57 rfl rfl rfl).trans ?_
    refine (zJ_n rfl).trans ?_
    exact zq_ri hm rfl rfl
  · refine (zJ_n rfl).trans ?_
    refine (zq_aln hm (pc' := 51) rfl rfl rfl rfl).trans ?_
    refine (zq_gf hm (v := (σ 57 7)) (pc' := 54) rfl lay_57 rfl rfl rfl).trans ?_
    refine (zJ_n rfl).trans ?_
    exact zq_ri hm rfl rfl
  · refine (zJ_n rfl).trans ?_
    refine (zq_aln hm (pc' := 56) rfl rfl rfl rfl).trans ?_
    refine (zq_gf hm (v := (σ 57 33)) (pc' := 59) rfl lay_57 rfl rfl rfl).trans ?_
    refine (zJ_n rfl).trans ?_
    exact zq_ri hm rfl rfl
  · refine (zJ_n rfl).trans ?_
    refine (zq_aln hm (pc' := 61) rfl rfl rfl rfl).trans ?_
    refine (zq_gf hm (v := (σ 57 35)) (pc' := 64) rfl lay_57 rfl rfl rfl).trans ?_
    refine (zJ_n rfl).trans ?_
    exact zq_ri hm rfl rfl
  · refine (zJ_n rfl).trans ?_
    refine (zq_aln hm (pc' := 66) rfl rfl rfl rfl).trans ?_
    refine (zq_gf hm (v := (σ 57 37)) (pc' := 69) rfl lay_57 rfl rfl rfl).trans ?_
    refine (zJ_n rfl).trans ?_
    exact zq_ri hm rfl rfl
  · refine (zJ_n rfl).trans ?_
    refine (zq_ic hm (pc' := 71) rfl rfl rfl rfl).trans ?_
    exact zq_ri hm rfl rfl
set_option maxRecDepth 100000 in
set_option maxHeartbeats 4000000 in
theorem e_J6_bitCount_0f7a4 (d : Nat) (x0 : Int) (σ : zF) : zx (d + 1) 253 [.inr (.inl x0)] σ = (
zri (zand (zw ((zw ((zand (zw ((zw ((zand (zw (x0 - (zand (zushr x0 1) 1431655765))) 858993459) + (zand (zushr (zw (x0 - (zand (zushr x0 1) 1431655765))) 2) 858993459))) + (zushr (zw ((zand (zw (x0 - (zand (zushr x0 1) 1431655765))) 858993459) + (zand (zushr (zw (x0 - (zand (zushr x0 1) 1431655765))) 2) 858993459))) 4))) 252645135) + (zushr (zand (zw ((zw ((zand (zw (x0 - (zand (zushr x0 1) 1431655765))) 858993459) + (zand (zushr (zw (x0 - (zand (zushr x0 1) 1431655765))) 2) 858993459))) + (zushr (zw ((zand (zw (x0 - (zand (zushr x0 1) 1431655765))) 858993459) + (zand (zushr (zw (x0 - (zand (zushr x0 1) 1431655765))) 2) 858993459))) 4))) 252645135) 8))) + (zushr (zw ((zand (zw ((zw ((zand (zw (x0 - (zand (zushr x0 1) 1431655765))) 858993459) + (zand (zushr (zw (x0 - (zand (zushr x0 1) 1431655765))) 2) 858993459))) + (zushr (zw ((zand (zw (x0 - (zand (zushr x0 1) 1431655765))) 858993459) + (zand (zushr (zw (x0 - (zand (zushr x0 1) 1431655765))) 2) 858993459))) 4))) 252645135) + (zushr (zand (zw ((zw ((zand (zw (x0 - (zand (zushr x0 1) 1431655765))) 858993459) + (zand (zushr (zw (x0 - (zand (zushr x0 1) 1431655765))) 2) 858993459))) + (zushr (zw ((zand (zw (x0 - (zand (zushr x0 1) 1431655765))) 858993459) + (zand (zushr (zw (x0 - (zand (zushr x0 1) 1431655765))) 2) 858993459))) 4))) 252645135) 8))) 16))) 63) σ) := by
  unfold zx
  have hm := zexec_m zX2 zMT d
  refine (zexec_eq mt_253 _ rfl (LAY, σ) 0).trans ?_
  show zrunL zX2 (zexec zX2 zMT d) K_J6_bitCount_0f7a4 U_J6_bitCount_0f7a4 0 [some (.inr (.inl x0))] [] (LAY, σ) = _
  refine (zq_iln hm (pc' := 1) rfl rfl rfl rfl).trans ?_
  refine (zq_iln hm (pc' := 2) rfl rfl rfl rfl).trans ?_
  refine (zq_ic hm (pc' := 3) rfl rfl rfl rfl).trans ?_
  refine (zq_iushr hm (pc' := 4) rfl rfl rfl).trans ?_
  refine (zq_lw hm (pc' := 7) rfl rfl rfl rfl).trans ?_
  refine (zq_iand hm (pc' := 8) rfl rfl rfl).trans ?_
  refine (zq_isub hm (pc' := 9) rfl rfl rfl).trans ?_
  refine (zq_isn hm (ls' := [some (.inr (.inl (zw (x0 - (zand (zushr x0 1) 1431655765)))))]) (pc' := 10) rfl rfl rfl rfl).trans ?_
  refine (zq_iln hm (pc' := 11) rfl rfl rfl rfl).trans ?_
  refine (zq_lw hm (pc' := 14) rfl rfl rfl rfl).trans ?_
  refine (zq_iand hm (pc' := 15) rfl rfl rfl).trans ?_
  refine (zq_iln hm (pc' := 16) rfl rfl rfl rfl).trans ?_
  refine (zq_ic hm (pc' := 17) rfl rfl rfl rfl).trans ?_
  refine (zq_iushr hm (pc' := 18) rfl rfl rfl).trans ?_
  refine (zq_lw hm (pc' := 21) rfl rfl rfl rfl).trans ?_
  refine (zq_iand hm (pc' := 22) rfl rfl rfl).trans ?_
  refine (zq_iadd hm (pc' := 23) rfl rfl rfl).trans ?_
  refine (zq_isn hm (ls' := [some (.inr (.inl (zw ((zand (zw (x0 - (zand (zushr x0 1) 1431655765))) 858993459) + (zand (zushr (zw (x0 - (zand (zushr x0 1) 1431655765))) 2) 858993459)))))]) (pc' := 24) rfl rfl rfl rfl).trans ?_
  refine (zq_iln hm (pc' := 25) rfl rfl rfl rfl).trans ?_
  refine (zq_iln hm (pc' := 26) rfl rfl rfl rfl).trans ?_
  refine (zq_ic hm (pc' := 27) rfl rfl rfl rfl).trans ?_
  refine (zq_iushr hm (pc' := 28) rfl rfl rfl).trans ?_
  refine (zq_iadd hm (pc' := 29) rfl rfl rfl).trans ?_
  refine (zq_lw hm (pc' := 32) rfl rfl rfl rfl).trans ?_
  refine (zq_iand hm (pc' := 33) rfl rfl rfl).trans ?_
  refine (zq_isn hm (ls' := [some (.inr (.inl (zand (zw ((zw ((zand (zw (x0 - (zand (zushr x0 1) 1431655765))) 858993459) + (zand (zushr (zw (x0 - (zand (zushr x0 1) 1431655765))) 2) 858993459))) + (zushr (zw ((zand (zw (x0 - (zand (zushr x0 1) 1431655765))) 858993459) + (zand (zushr (zw (x0 - (zand (zushr x0 1) 1431655765))) 2) 858993459))) 4))) 252645135)))]) (pc' := 34) rfl rfl rfl rfl).trans ?_
  refine (zq_iln hm (pc' := 35) rfl rfl rfl rfl).trans ?_
  refine (zq_iln hm (pc' := 36) rfl rfl rfl rfl).trans ?_
  refine (zq_bi hm (pc' := 38) rfl rfl rfl rfl).trans ?_
  refine (zq_iushr hm (pc' := 39) rfl rfl rfl).trans ?_
  refine (zq_iadd hm (pc' := 40) rfl rfl rfl).trans ?_
  refine (zq_isn hm (ls' := [some (.inr (.inl (zw ((zand (zw ((zw ((zand (zw (x0 - (zand (zushr x0 1) 1431655765))) 858993459) + (zand (zushr (zw (x0 - (zand (zushr x0 1) 1431655765))) 2) 858993459))) + (zushr (zw ((zand (zw (x0 - (zand (zushr x0 1) 1431655765))) 858993459) + (zand (zushr (zw (x0 - (zand (zushr x0 1) 1431655765))) 2) 858993459))) 4))) 252645135) + (zushr (zand (zw ((zw ((zand (zw (x0 - (zand (zushr x0 1) 1431655765))) 858993459) + (zand (zushr (zw (x0 - (zand (zushr x0 1) 1431655765))) 2) 858993459))) + (zushr (zw ((zand (zw (x0 - (zand (zushr x0 1) 1431655765))) 858993459) + (zand (zushr (zw (x0 - (zand (zushr x0 1) 1431655765))) 2) 858993459))) 4))) 252645135) 8)))))]) (pc' := 41) rfl rfl rfl rfl).trans ?_
  refine (zq_iln hm (pc' := 42) rfl rfl rfl rfl).trans ?_
  refine (zq_iln hm (pc' := 43) rfl rfl rfl rfl).trans ?_
  refine (zq_bi hm (pc' := 45) rfl rfl rfl rfl).trans ?_
  refine (zq_iushr hm (pc' := 46) rfl rfl rfl).trans ?_
  refine (zq_iadd hm (pc' := 47) rfl rfl rfl).trans ?_
  refine (zq_isn hm (ls' := [some (.inr (.inl (zw ((zw ((zand (zw ((zw ((zand (zw (x0 - (zand (zushr x0 1) 1431655765))) 858993459) + (zand (zushr (zw (x0 - (zand (zushr x0 1) 1431655765))) 2) 858993459))) + (zushr (zw ((zand (zw (x0 - (zand (zushr x0 1) 1431655765))) 858993459) + (zand (zushr (zw (x0 - (zand (zushr x0 1) 1431655765))) 2) 858993459))) 4))) 252645135) + (zushr (zand (zw ((zw ((zand (zw (x0 - (zand (zushr x0 1) 1431655765))) 858993459) + (zand (zushr (zw (x0 - (zand (zushr x0 1) 1431655765))) 2) 858993459))) + (zushr (zw ((zand (zw (x0 - (zand (zushr x0 1) 1431655765))) 858993459) + (zand (zushr (zw (x0 - (zand (zushr x0 1) 1431655765))) 2) 858993459))) 4))) 252645135) 8))) + (zushr (zw ((zand (zw ((zw ((zand (zw (x0 - (zand (zushr x0 1) 1431655765))) 858993459) + (zand (zushr (zw (x0 - (zand (zushr x0 1) 1431655765))) 2) 858993459))) + (zushr (zw ((zand (zw (x0 - (zand (zushr x0 1) 1431655765))) 858993459) + (zand (zushr (zw (x0 - (zand (zushr x0 1) 1431655765))) 2) 858993459))) 4))) 252645135) + (zushr (zand (zw ((zw ((zand (zw (x0 - (zand (zushr x0 1) 1431655765))) 858993459) + (zand (zushr (zw (x0 - (zand (zushr x0 1) 1431655765))) 2) 858993459))) + (zushr (zw ((zand (zw (x0 - (zand (zushr x0 1) 1431655765))) 858993459) + (zand (zushr (zw (x0 - (zand (zushr x0 1) 1431655765))) 2) 858993459))) 4))) 252645135) 8))) 16)))))]) (pc' := 48) rfl rfl rfl rfl).trans ?_
  refine (zq_iln hm (pc' := 49) rfl rfl rfl rfl).trans ?_
  refine (zq_bi hm (pc' := 51) rfl rfl rfl rfl).trans ?_
  refine (zq_iand hm (pc' := 52) rfl rfl rfl).trans ?_
  exact zq_ri hm rfl rfl
noncomputable def P_J7_fill_d0a16_6 (d : Nat) (y0 : Nat) (y1 : Int) (y2 : Int) (y3 : Int) (σ : zF) : Option zR := zrunL zX2 (zexec zX2 zMT d) K_J7_fill_d0a16 U_J7_fill_d0a16 6 [some (.inl (some y0)), some (.inr (.inr y1)), none, some (.inr (.inl y2)), some (.inr (.inl y3))] [] (LAY, σ)
set_option maxRecDepth 100000 in
set_option maxHeartbeats 4000000 in
theorem e_J7_fill_d0a16 (d : Nat) (k : Nat) (x1 : Int) (σ : zF) : zx (d + 1) 254 [.inl (some k), .inr (.inr x1)] σ = (
zlen zX2 LAY k (fun n1 =>
P_J7_fill_d0a16_6 d k x1 0 (n1 : Int) σ)) := by
  unfold zx
  have hm := zexec_m zX2 zMT d
  refine (zexec_eq mt_254 _ rfl (LAY, σ) 0).trans ?_
  show zrunL zX2 (zexec zX2 zMT d) K_J7_fill_d0a16 U_J7_fill_d0a16 0 [some (.inl (some k)), some (.inr (.inr x1)), none, none, none] [] (LAY, σ) = _
  refine (zq_ic hm (pc' := 1) rfl rfl rfl rfl).trans ?_
  refine (zq_isn hm (ls' := [some (.inl (some k)), some (.inr (.inr x1)), none, some (.inr (.inl 0)), none]) (pc' := 2) rfl rfl rfl rfl).trans ?_
  refine (zq_aln hm (pc' := 3) rfl rfl rfl rfl).trans ?_
  refine (zq_leny hm (pc' := 4) rfl rfl).trans (zlen_c (fun n1 => ?_))
  refine (zJ_n rfl).trans ?_
  exact (zc_is hm (ls' := [some (.inl (some k)), some (.inr (.inr x1)), none, some (.inr (.inl 0)), some (.inr (.inl (n1 : Int)))]) (pc' := 6) rfl rfl rfl rfl).trans rfl
set_option maxRecDepth 100000 in
set_option maxHeartbeats 4000000 in
theorem e_J7_fill_d0a16_6 (d : Nat) (y0 : Nat) (y1 : Int) (y2 : Int) (y3 : Int) (σ : zF) : P_J7_fill_d0a16_6 d y0 y1 y2 y3 σ = (
if y2 < y3 then (
zar LAY 1 y0 y2 (
P_J7_fill_d0a16_6 d y0 y1 (zw (y2 + 1)) y3 (zset σ y0 y2 y1))) else (
zrv σ)) := by
  have hm := zexec_m zX2 zMT d
  show zrunL zX2 (zexec zX2 zMT d) K_J7_fill_d0a16 U_J7_fill_d0a16 6 [some (.inl (some y0)), some (.inr (.inr y1)), none, some (.inr (.inl y2)), some (.inr (.inl y3))] [] (LAY, σ) = _
  refine (zq_iln hm (pc' := 7) rfl rfl rfl rfl).trans ?_
  refine (zq_il hm (pc' := 9) rfl rfl rfl rfl).trans ?_
  refine (zq_ige hm (pc' := 12) rfl rfl).trans (zite ?_ ?_)
  · refine (zJ_n rfl).trans ?_
    refine (zq_aln hm (pc' := 13) rfl rfl rfl rfl).trans ?_
    refine (zq_iln hm (pc' := 14) rfl rfl rfl rfl).trans ?_
    refine (zq_lln hm (pc' := 15) rfl rfl rfl rfl).trans ?_
    refine (zq_lsy hm (pc' := 16) rfl rfl).trans (zar_c ?_)
    refine (zJ_n rfl).trans ?_
    refine (zq_iinc hm (ls' := [some (.inl (some y0)), some (.inr (.inr y1)), none, some (.inr (.inl (zw (y2 + 1)))), some (.inr (.inl y3))]) (pc' := 19) rfl rfl rfl rfl rfl rfl).trans ?_
    exact (zc_goto hm rfl rfl).trans rfl
  · refine (zJ_n rfl).trans ?_
    exact zq_rv hm rfl
noncomputable def P_J7_fill_53178_21_5 (d : Nat) (y1 : Int) (y2 : Int) (y3 : Int) (σ : zF) : Option zR := zrunL zX2 (zexec zX2 zMT d) K_J7_fill_53178 U_J7_fill_53178 5 [some (.inl (some 21)), some (.inr (.inl y1)), some (.inr (.inl y2)), some (.inr (.inl y3))] [] (LAY, σ)
set_option maxRecDepth 100000 in
set_option maxHeartbeats 4000000 in
theorem e_J7_fill_53178_21 (d : Nat) (x1 : Int) (σ : zF) : zx (d + 1) 255 [.inl (some 21), .inr (.inl x1)] σ = (
P_J7_fill_53178_21_5 d x1 0 12 σ) := by
  unfold zx
  have hm := zexec_m zX2 zMT d
  refine (zexec_eq mt_255 _ rfl (LAY, σ) 0).trans ?_
  show zrunL zX2 (zexec zX2 zMT d) K_J7_fill_53178 U_J7_fill_53178 0 [some (.inl (some 21)), some (.inr (.inl x1)), none, none] [] (LAY, σ) = _
  refine (zq_ic hm (pc' := 1) rfl rfl rfl rfl).trans ?_
  refine (zq_isn hm (ls' := [some (.inl (some 21)), some (.inr (.inl x1)), some (.inr (.inl 0)), none]) (pc' := 2) rfl rfl rfl rfl).trans ?_
  refine (zq_aln hm (pc' := 3) rfl rfl rfl rfl).trans ?_
  refine (zq_len hm (v := 12) (pc' := 4) rfl lay_21 rfl rfl).trans ?_
  refine (zJ_n rfl).trans ?_
  exact (zc_isn hm (ls' := [some (.inl (some 21)), some (.inr (.inl x1)), some (.inr (.inl 0)), some (.inr (.inl 12))]) (pc' := 5) rfl rfl rfl rfl).trans rfl
set_option maxRecDepth 100000 in
set_option maxHeartbeats 4000000 in
theorem e_J7_fill_53178_21_5 (d : Nat) (y1 : Int) (y2 : Int) (y3 : Int) (σ : zF) : P_J7_fill_53178_21_5 d y1 y2 y3 σ = (
if y2 < y3 then (
if 0 ≤ y2 ∧ y2 < 12 then (
P_J7_fill_53178_21_5 d y1 (zw (y2 + 1)) y3 (zset σ 21 y2 y1)) else (
none)) else (
zrv σ)) := by
  have hm := zexec_m zX2 zMT d
  show zrunL zX2 (zexec zX2 zMT d) K_J7_fill_53178 U_J7_fill_53178 5 [some (.inl (some 21)), some (.inr (.inl y1)), some (.inr (.inl y2)), some (.inr (.inl y3))] [] (LAY, σ) = _
  refine (zq_iln hm (pc' := 6) rfl rfl rfl rfl).trans ?_
  refine (zq_iln hm (pc' := 7) rfl rfl rfl rfl).trans ?_
  refine (zq_ige hm (pc' := 10) rfl rfl).trans (zite ?_ ?_)
  · refine (zJ_n rfl).trans ?_
    refine (zq_aln hm (pc' := 11) rfl rfl rfl rfl).trans ?_
    refine (zq_iln hm (pc' := 12) rfl rfl rfl rfl).trans ?_
    refine (zq_iln hm (pc' := 13) rfl rfl rfl rfl).trans ?_
    refine (zq_ist hm (pc' := 14) rfl lay_21 rfl).trans (zite ?_ rfl)
    refine (zJ_n rfl).trans ?_
    refine (zq_iinc hm (ls' := [some (.inl (some 21)), some (.inr (.inl y1)), some (.inr (.inl (zw (y2 + 1)))), some (.inr (.inl y3))]) (pc' := 17) rfl rfl rfl rfl rfl rfl).trans ?_
    exact (zc_goto hm rfl rfl).trans rfl
  · refine (zJ_n rfl).trans ?_
    exact zq_rv hm rfl
noncomputable def P_J7_fill_53178_23_5 (d : Nat) (y1 : Int) (y2 : Int) (y3 : Int) (σ : zF) : Option zR := zrunL zX2 (zexec zX2 zMT d) K_J7_fill_53178 U_J7_fill_53178 5 [some (.inl (some 23)), some (.inr (.inl y1)), some (.inr (.inl y2)), some (.inr (.inl y3))] [] (LAY, σ)
set_option maxRecDepth 100000 in
set_option maxHeartbeats 4000000 in
theorem e_J7_fill_53178_23 (d : Nat) (x1 : Int) (σ : zF) : zx (d + 1) 255 [.inl (some 23), .inr (.inl x1)] σ = (
P_J7_fill_53178_23_5 d x1 0 8 σ) := by
  unfold zx
  have hm := zexec_m zX2 zMT d
  refine (zexec_eq mt_255 _ rfl (LAY, σ) 0).trans ?_
  show zrunL zX2 (zexec zX2 zMT d) K_J7_fill_53178 U_J7_fill_53178 0 [some (.inl (some 23)), some (.inr (.inl x1)), none, none] [] (LAY, σ) = _
  refine (zq_ic hm (pc' := 1) rfl rfl rfl rfl).trans ?_
  refine (zq_isn hm (ls' := [some (.inl (some 23)), some (.inr (.inl x1)), some (.inr (.inl 0)), none]) (pc' := 2) rfl rfl rfl rfl).trans ?_
  refine (zq_aln hm (pc' := 3) rfl rfl rfl rfl).trans ?_
  refine (zq_len hm (v := 8) (pc' := 4) rfl lay_23 rfl rfl).trans ?_
  refine (zJ_n rfl).trans ?_
  exact (zc_isn hm (ls' := [some (.inl (some 23)), some (.inr (.inl x1)), some (.inr (.inl 0)), some (.inr (.inl 8))]) (pc' := 5) rfl rfl rfl rfl).trans rfl
set_option maxRecDepth 100000 in
set_option maxHeartbeats 4000000 in
theorem e_J7_fill_53178_23_5 (d : Nat) (y1 : Int) (y2 : Int) (y3 : Int) (σ : zF) : P_J7_fill_53178_23_5 d y1 y2 y3 σ = (
if y2 < y3 then (
if 0 ≤ y2 ∧ y2 < 8 then (
P_J7_fill_53178_23_5 d y1 (zw (y2 + 1)) y3 (zset σ 23 y2 y1)) else (
none)) else (
zrv σ)) := by
  have hm := zexec_m zX2 zMT d
  show zrunL zX2 (zexec zX2 zMT d) K_J7_fill_53178 U_J7_fill_53178 5 [some (.inl (some 23)), some (.inr (.inl y1)), some (.inr (.inl y2)), some (.inr (.inl y3))] [] (LAY, σ) = _
  refine (zq_iln hm (pc' := 6) rfl rfl rfl rfl).trans ?_
  refine (zq_iln hm (pc' := 7) rfl rfl rfl rfl).trans ?_
  refine (zq_ige hm (pc' := 10) rfl rfl).trans (zite ?_ ?_)
  · refine (zJ_n rfl).trans ?_
    refine (zq_aln hm (pc' := 11) rfl rfl rfl rfl).trans ?_
    refine (zq_iln hm (pc' := 12) rfl rfl rfl rfl).trans ?_
    refine (zq_iln hm (pc' := 13) rfl rfl rfl rfl).trans ?_
    refine (zq_ist hm (pc' := 14) rfl lay_23 rfl).trans (zite ?_ rfl)
    refine (zJ_n rfl).trans ?_
    refine (zq_iinc hm (ls' := [some (.inl (some 23)), some (.inr (.inl y1)), some (.inr (.inl (zw (y2 + 1)))), some (.inr (.inl y3))]) (pc' := 17) rfl rfl rfl rfl rfl rfl).trans ?_
    exact (zc_goto hm rfl rfl).trans rfl
  · refine (zJ_n rfl).trans ?_
    exact zq_rv hm rfl
noncomputable def P_J7_fill_53178_25_5 (d : Nat) (y1 : Int) (y2 : Int) (y3 : Int) (σ : zF) : Option zR := zrunL zX2 (zexec zX2 zMT d) K_J7_fill_53178 U_J7_fill_53178 5 [some (.inl (some 25)), some (.inr (.inl y1)), some (.inr (.inl y2)), some (.inr (.inl y3))] [] (LAY, σ)
set_option maxRecDepth 100000 in
set_option maxHeartbeats 4000000 in
theorem e_J7_fill_53178_25 (d : Nat) (x1 : Int) (σ : zF) : zx (d + 1) 255 [.inl (some 25), .inr (.inl x1)] σ = (
P_J7_fill_53178_25_5 d x1 0 3 σ) := by
  unfold zx
  have hm := zexec_m zX2 zMT d
  refine (zexec_eq mt_255 _ rfl (LAY, σ) 0).trans ?_
  show zrunL zX2 (zexec zX2 zMT d) K_J7_fill_53178 U_J7_fill_53178 0 [some (.inl (some 25)), some (.inr (.inl x1)), none, none] [] (LAY, σ) = _
  refine (zq_ic hm (pc' := 1) rfl rfl rfl rfl).trans ?_
  refine (zq_isn hm (ls' := [some (.inl (some 25)), some (.inr (.inl x1)), some (.inr (.inl 0)), none]) (pc' := 2) rfl rfl rfl rfl).trans ?_
  refine (zq_aln hm (pc' := 3) rfl rfl rfl rfl).trans ?_
  refine (zq_len hm (v := 3) (pc' := 4) rfl lay_25 rfl rfl).trans ?_
  refine (zJ_n rfl).trans ?_
  exact (zc_isn hm (ls' := [some (.inl (some 25)), some (.inr (.inl x1)), some (.inr (.inl 0)), some (.inr (.inl 3))]) (pc' := 5) rfl rfl rfl rfl).trans rfl
set_option maxRecDepth 100000 in
set_option maxHeartbeats 4000000 in
theorem e_J7_fill_53178_25_5 (d : Nat) (y1 : Int) (y2 : Int) (y3 : Int) (σ : zF) : P_J7_fill_53178_25_5 d y1 y2 y3 σ = (
if y2 < y3 then (
if 0 ≤ y2 ∧ y2 < 3 then (
P_J7_fill_53178_25_5 d y1 (zw (y2 + 1)) y3 (zset σ 25 y2 y1)) else (
none)) else (
zrv σ)) := by
  have hm := zexec_m zX2 zMT d
  show zrunL zX2 (zexec zX2 zMT d) K_J7_fill_53178 U_J7_fill_53178 5 [some (.inl (some 25)), some (.inr (.inl y1)), some (.inr (.inl y2)), some (.inr (.inl y3))] [] (LAY, σ) = _
  refine (zq_iln hm (pc' := 6) rfl rfl rfl rfl).trans ?_
  refine (zq_iln hm (pc' := 7) rfl rfl rfl rfl).trans ?_
  refine (zq_ige hm (pc' := 10) rfl rfl).trans (zite ?_ ?_)
  · refine (zJ_n rfl).trans ?_
    refine (zq_aln hm (pc' := 11) rfl rfl rfl rfl).trans ?_
    refine (zq_iln hm (pc' := 12) rfl rfl rfl rfl).trans ?_
    refine (zq_iln hm (pc' := 13) rfl rfl rfl rfl).trans ?_
    refine (zq_ist hm (pc' := 14) rfl lay_25 rfl).trans (zite ?_ rfl)
    refine (zJ_n rfl).trans ?_
    refine (zq_iinc hm (ls' := [some (.inl (some 25)), some (.inr (.inl y1)), some (.inr (.inl (zw (y2 + 1)))), some (.inr (.inl y3))]) (pc' := 17) rfl rfl rfl rfl rfl rfl).trans ?_
    exact (zc_goto hm rfl rfl).trans rfl
  · refine (zJ_n rfl).trans ?_
    exact zq_rv hm rfl
