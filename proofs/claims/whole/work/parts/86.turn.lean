/-! the law's loop: one turn -/
theorem zlx {n : Nat} {xs : Nat → Int} {k : Nat → Option zR} : zlen (zXL n xs) LAY 1002 k = k n := rfl
noncomputable def P_L_law_18 (n : Nat) (xs : Nat → Int) (i : Int) (σ : zF) : Option zR := zrunL (zXL n xs) (zexec zX2 zMT 200) K_L_law U_L_law 18 [some (.inl (some 1002)), some (.inl (some 0)), some (.inl (some 57)), some (.inr (.inl i))] [] (LAY, σ)
noncomputable def C_L_law_208 (n : Nat) (xs : Nat → Int) (i : Int) (σ : zF) : Option zR := zrunL (zXL n xs) (zexec zX2 zMT 200) K_L_law U_L_law 208 [some (.inl (some 1002)), some (.inl (some 0)), some (.inl (some 57)), some (.inr (.inl i))] [] (LAY, σ)
noncomputable def C_L_law_241 (n : Nat) (xs : Nat → Int) (i : Int) (σ : zF) : Option zR := zrunL (zXL n xs) (zexec zX2 zMT 200) K_L_law U_L_law 241 [some (.inl (some 1002)), some (.inl (some 0)), some (.inl (some 57)), some (.inr (.inl i))] [] (LAY, σ)
noncomputable def C_L_law_284 (n : Nat) (xs : Nat → Int) (i : Int) (σ : zF) : Option zR := zrunL (zXL n xs) (zexec zX2 zMT 200) K_L_law U_L_law 284 [some (.inl (some 1002)), some (.inl (some 0)), some (.inl (some 57)), some (.inr (.inl i))] [] (LAY, σ)
noncomputable def C_L_law_307 (n : Nat) (xs : Nat → Int) (i : Int) (σ : zF) : Option zR := zrunL (zXL n xs) (zexec zX2 zMT 200) K_L_law U_L_law 307 [some (.inl (some 1002)), some (.inl (some 0)), some (.inl (some 57)), some (.inr (.inl i))] [] (LAY, σ)
noncomputable def C_L_law_350 (n : Nat) (xs : Nat → Int) (i : Int) (σ : zF) : Option zR := zrunL (zXL n xs) (zexec zX2 zMT 200) K_L_law U_L_law 350 [some (.inl (some 1002)), some (.inl (some 0)), some (.inl (some 57)), some (.inr (.inl i))] [] (LAY, σ)
noncomputable def C_L_law_383 (n : Nat) (xs : Nat → Int) (i : Int) (σ : zF) : Option zR := zrunL (zXL n xs) (zexec zX2 zMT 200) K_L_law U_L_law 383 [some (.inl (some 1002)), some (.inl (some 0)), some (.inl (some 57)), some (.inr (.inl i))] [] (LAY, σ)
noncomputable def C_L_law_406 (n : Nat) (xs : Nat → Int) (i : Int) (σ : zF) : Option zR := zrunL (zXL n xs) (zexec zX2 zMT 200) K_L_law U_L_law 406 [some (.inl (some 1002)), some (.inl (some 0)), some (.inl (some 57)), some (.inr (.inl i))] [] (LAY, σ)
noncomputable def C_L_law_419 (n : Nat) (xs : Nat → Int) (i : Int) (σ : zF) : Option zR := zrunL (zXL n xs) (zexec zX2 zMT 200) K_L_law U_L_law 419 [some (.inl (some 1002)), some (.inl (some 0)), some (.inl (some 57)), some (.inr (.inl i))] [] (LAY, σ)
noncomputable def C_L_law_442 (n : Nat) (xs : Nat → Int) (i : Int) (σ : zF) : Option zR := zrunL (zXL n xs) (zexec zX2 zMT 200) K_L_law U_L_law 442 [some (.inl (some 1002)), some (.inl (some 0)), some (.inl (some 57)), some (.inr (.inl i))] [] (LAY, σ)
noncomputable def C_L_law_475 (n : Nat) (xs : Nat → Int) (i : Int) (σ : zF) : Option zR := zrunL (zXL n xs) (zexec zX2 zMT 200) K_L_law U_L_law 475 [some (.inl (some 1002)), some (.inl (some 0)), some (.inl (some 57)), some (.inr (.inl i))] [] (LAY, σ)
noncomputable def C_L_law_518 (n : Nat) (xs : Nat → Int) (i : Int) (σ : zF) : Option zR := zrunL (zXL n xs) (zexec zX2 zMT 200) K_L_law U_L_law 518 [some (.inl (some 1002)), some (.inl (some 0)), some (.inl (some 57)), some (.inr (.inl i))] [] (LAY, σ)
noncomputable def C_L_law_541 (n : Nat) (xs : Nat → Int) (i : Int) (σ : zF) : Option zR := zrunL (zXL n xs) (zexec zX2 zMT 200) K_L_law U_L_law 541 [some (.inl (some 1002)), some (.inl (some 0)), some (.inl (some 57)), some (.inr (.inl i))] [] (LAY, σ)
noncomputable def C_L_law_574 (n : Nat) (xs : Nat → Int) (i : Int) (σ : zF) : Option zR := zrunL (zXL n xs) (zexec zX2 zMT 200) K_L_law U_L_law 574 [some (.inl (some 1002)), some (.inl (some 0)), some (.inl (some 57)), some (.inr (.inl i))] [] (LAY, σ)
noncomputable def C_L_law_617 (n : Nat) (xs : Nat → Int) (i : Int) (σ : zF) : Option zR := zrunL (zXL n xs) (zexec zX2 zMT 200) K_L_law U_L_law 617 [some (.inl (some 1002)), some (.inl (some 0)), some (.inl (some 57)), some (.inr (.inl i))] [] (LAY, σ)
noncomputable def C_L_law_660 (n : Nat) (xs : Nat → Int) (i : Int) (σ : zF) : Option zR := zrunL (zXL n xs) (zexec zX2 zMT 200) K_L_law U_L_law 660 [some (.inl (some 1002)), some (.inl (some 0)), some (.inl (some 57)), some (.inr (.inl i))] [] (LAY, σ)
noncomputable def C_L_law_703 (n : Nat) (xs : Nat → Int) (i : Int) (σ : zF) : Option zR := zrunL (zXL n xs) (zexec zX2 zMT 200) K_L_law U_L_law 703 [some (.inl (some 1002)), some (.inl (some 0)), some (.inl (some 57)), some (.inr (.inl i))] [] (LAY, σ)
noncomputable def C_L_law_726 (n : Nat) (xs : Nat → Int) (i : Int) (σ : zF) : Option zR := zrunL (zXL n xs) (zexec zX2 zMT 200) K_L_law U_L_law 726 [some (.inl (some 1002)), some (.inl (some 0)), some (.inl (some 57)), some (.inr (.inl i))] [] (LAY, σ)
noncomputable def C_L_law_749 (n : Nat) (xs : Nat → Int) (i : Int) (σ : zF) : Option zR := zrunL (zXL n xs) (zexec zX2 zMT 200) K_L_law U_L_law 749 [some (.inl (some 1002)), some (.inl (some 0)), some (.inl (some 57)), some (.inr (.inl i))] [] (LAY, σ)
noncomputable def C_L_law_772 (n : Nat) (xs : Nat → Int) (i : Int) (σ : zF) : Option zR := zrunL (zXL n xs) (zexec zX2 zMT 200) K_L_law U_L_law 772 [some (.inl (some 1002)), some (.inl (some 0)), some (.inl (some 57)), some (.inr (.inl i))] [] (LAY, σ)
noncomputable def C_L_law_805 (n : Nat) (xs : Nat → Int) (i : Int) (σ : zF) : Option zR := zrunL (zXL n xs) (zexec zX2 zMT 200) K_L_law U_L_law 805 [some (.inl (some 1002)), some (.inl (some 0)), some (.inl (some 57)), some (.inr (.inl i))] [] (LAY, σ)
noncomputable def C_L_law_828 (n : Nat) (xs : Nat → Int) (i : Int) (σ : zF) : Option zR := zrunL (zXL n xs) (zexec zX2 zMT 200) K_L_law U_L_law 828 [some (.inl (some 1002)), some (.inl (some 0)), some (.inl (some 57)), some (.inr (.inl i))] [] (LAY, σ)
noncomputable def C_L_law_861 (n : Nat) (xs : Nat → Int) (i : Int) (σ : zF) : Option zR := zrunL (zXL n xs) (zexec zX2 zMT 200) K_L_law U_L_law 861 [some (.inl (some 1002)), some (.inl (some 0)), some (.inl (some 57)), some (.inr (.inl i))] [] (LAY, σ)
noncomputable def C_L_law_904 (n : Nat) (xs : Nat → Int) (i : Int) (σ : zF) : Option zR := zrunL (zXL n xs) (zexec zX2 zMT 200) K_L_law U_L_law 904 [some (.inl (some 1002)), some (.inl (some 0)), some (.inl (some 57)), some (.inr (.inl i))] [] (LAY, σ)
noncomputable def C_L_law_947 (n : Nat) (xs : Nat → Int) (i : Int) (σ : zF) : Option zR := zrunL (zXL n xs) (zexec zX2 zMT 200) K_L_law U_L_law 947 [some (.inl (some 1002)), some (.inl (some 0)), some (.inl (some 57)), some (.inr (.inl i))] [] (LAY, σ)
noncomputable def C_L_law_990 (n : Nat) (xs : Nat → Int) (i : Int) (σ : zF) : Option zR := zrunL (zXL n xs) (zexec zX2 zMT 200) K_L_law U_L_law 990 [some (.inl (some 1002)), some (.inl (some 0)), some (.inl (some 57)), some (.inr (.inl i))] [] (LAY, σ)
noncomputable def C_L_law_1003 (n : Nat) (xs : Nat → Int) (i : Int) (σ : zF) : Option zR := zrunL (zXL n xs) (zexec zX2 zMT 200) K_L_law U_L_law 1003 [some (.inl (some 1002)), some (.inl (some 0)), some (.inl (some 57)), some (.inr (.inl i))] [] (LAY, σ)
noncomputable def C_L_law_1026 (n : Nat) (xs : Nat → Int) (i : Int) (σ : zF) : Option zR := zrunL (zXL n xs) (zexec zX2 zMT 200) K_L_law U_L_law 1026 [some (.inl (some 1002)), some (.inl (some 0)), some (.inl (some 57)), some (.inr (.inl i))] [] (LAY, σ)
noncomputable def C_L_law_1039 (n : Nat) (xs : Nat → Int) (i : Int) (σ : zF) : Option zR := zrunL (zXL n xs) (zexec zX2 zMT 200) K_L_law U_L_law 1039 [some (.inl (some 1002)), some (.inl (some 0)), some (.inl (some 57)), some (.inr (.inl i))] [] (LAY, σ)
noncomputable def C_L_law_1052 (n : Nat) (xs : Nat → Int) (i : Int) (σ : zF) : Option zR := zrunL (zXL n xs) (zexec zX2 zMT 200) K_L_law U_L_law 1052 [some (.inl (some 1002)), some (.inl (some 0)), some (.inl (some 57)), some (.inr (.inl i))] [] (LAY, σ)
noncomputable def C_L_law_1065 (n : Nat) (xs : Nat → Int) (i : Int) (σ : zF) : Option zR := zrunL (zXL n xs) (zexec zX2 zMT 200) K_L_law U_L_law 1065 [some (.inl (some 1002)), some (.inl (some 0)), some (.inl (some 57)), some (.inr (.inl i))] [] (LAY, σ)
noncomputable def C_L_law_1078 (n : Nat) (xs : Nat → Int) (i : Int) (σ : zF) : Option zR := zrunL (zXL n xs) (zexec zX2 zMT 200) K_L_law U_L_law 1078 [some (.inl (some 1002)), some (.inl (some 0)), some (.inl (some 57)), some (.inr (.inl i))] [] (LAY, σ)
noncomputable def C_L_law_1101 (n : Nat) (xs : Nat → Int) (i : Int) (σ : zF) : Option zR := zrunL (zXL n xs) (zexec zX2 zMT 200) K_L_law U_L_law 1101 [some (.inl (some 1002)), some (.inl (some 0)), some (.inl (some 57)), some (.inr (.inl i))] [] (LAY, σ)
noncomputable def C_L_law_1144 (n : Nat) (xs : Nat → Int) (i : Int) (σ : zF) : Option zR := zrunL (zXL n xs) (zexec zX2 zMT 200) K_L_law U_L_law 1144 [some (.inl (some 1002)), some (.inl (some 0)), some (.inl (some 57)), some (.inr (.inl i))] [] (LAY, σ)
noncomputable def C_L_law_1167 (n : Nat) (xs : Nat → Int) (i : Int) (σ : zF) : Option zR := zrunL (zXL n xs) (zexec zX2 zMT 200) K_L_law U_L_law 1167 [some (.inl (some 1002)), some (.inl (some 0)), some (.inl (some 57)), some (.inr (.inl i))] [] (LAY, σ)
noncomputable def C_L_law_1200 (n : Nat) (xs : Nat → Int) (i : Int) (σ : zF) : Option zR := zrunL (zXL n xs) (zexec zX2 zMT 200) K_L_law U_L_law 1200 [some (.inl (some 1002)), some (.inl (some 0)), some (.inl (some 57)), some (.inr (.inl i))] [] (LAY, σ)
noncomputable def C_L_law_1243 (n : Nat) (xs : Nat → Int) (i : Int) (σ : zF) : Option zR := zrunL (zXL n xs) (zexec zX2 zMT 200) K_L_law U_L_law 1243 [some (.inl (some 1002)), some (.inl (some 0)), some (.inl (some 57)), some (.inr (.inl i))] [] (LAY, σ)
noncomputable def C_L_law_1316 (n : Nat) (xs : Nat → Int) (i : Int) (σ : zF) : Option zR := zrunL (zXL n xs) (zexec zX2 zMT 200) K_L_law U_L_law 1316 [some (.inl (some 1002)), some (.inl (some 0)), some (.inl (some 57)), some (.inr (.inl i))] [] (LAY, σ)
noncomputable def C_L_law_1350 (n : Nat) (xs : Nat → Int) (i : Int) (σ : zF) : Option zR := zrunL (zXL n xs) (zexec zX2 zMT 200) K_L_law U_L_law 1350 [some (.inl (some 1002)), some (.inl (some 0)), some (.inl (some 57)), some (.inr (.inl i))] [] (LAY, σ)
noncomputable def C_L_law_1413 (n : Nat) (xs : Nat → Int) (i : Int) (σ : zF) : Option zR := zrunL (zXL n xs) (zexec zX2 zMT 200) K_L_law U_L_law 1413 [some (.inl (some 1002)), some (.inl (some 0)), some (.inl (some 57)), some (.inr (.inl i))] [] (LAY, σ)
noncomputable def C_L_law_1446 (n : Nat) (xs : Nat → Int) (i : Int) (σ : zF) : Option zR := zrunL (zXL n xs) (zexec zX2 zMT 200) K_L_law U_L_law 1446 [some (.inl (some 1002)), some (.inl (some 0)), some (.inl (some 57)), some (.inr (.inl i))] [] (LAY, σ)
set_option maxRecDepth 100000 in
set_option maxHeartbeats 4000000 in
theorem e_L_law_18 (n : Nat) (xs : Nat → Int) (i : Int) (σ : zF) : P_L_law_18 n xs i σ = (
if zw ((n : Int) - 6) < i then (
zri 1 σ) else (
if 0 ≤ i ∧ i < (n : Int) then (
if zand (xs (i : Int).toNat) 63 = 0 then (
C_L_law_208 n xs i σ) else (
if zand (xs (i : Int).toNat) 63 = 1 then (
C_L_law_241 n xs i σ) else (
if zand (xs (i : Int).toNat) 63 = 2 then (
C_L_law_284 n xs i σ) else (
if zand (xs (i : Int).toNat) 63 = 3 then (
C_L_law_307 n xs i σ) else (
if zand (xs (i : Int).toNat) 63 = 4 then (
C_L_law_350 n xs i σ) else (
if zand (xs (i : Int).toNat) 63 = 5 then (
C_L_law_383 n xs i σ) else (
if zand (xs (i : Int).toNat) 63 = 6 then (
C_L_law_406 n xs i σ) else (
if zand (xs (i : Int).toNat) 63 = 7 then (
C_L_law_419 n xs i σ) else (
if zand (xs (i : Int).toNat) 63 = 8 then (
C_L_law_442 n xs i σ) else (
if zand (xs (i : Int).toNat) 63 = 9 then (
C_L_law_475 n xs i σ) else (
if zand (xs (i : Int).toNat) 63 = 10 then (
C_L_law_518 n xs i σ) else (
if zand (xs (i : Int).toNat) 63 = 11 then (
C_L_law_541 n xs i σ) else (
if zand (xs (i : Int).toNat) 63 = 12 then (
C_L_law_574 n xs i σ) else (
if zand (xs (i : Int).toNat) 63 = 13 then (
C_L_law_617 n xs i σ) else (
if zand (xs (i : Int).toNat) 63 = 14 then (
C_L_law_660 n xs i σ) else (
if zand (xs (i : Int).toNat) 63 = 15 then (
C_L_law_703 n xs i σ) else (
if zand (xs (i : Int).toNat) 63 = 16 then (
C_L_law_726 n xs i σ) else (
if zand (xs (i : Int).toNat) 63 = 17 then (
C_L_law_749 n xs i σ) else (
if zand (xs (i : Int).toNat) 63 = 18 then (
C_L_law_772 n xs i σ) else (
if zand (xs (i : Int).toNat) 63 = 19 then (
C_L_law_805 n xs i σ) else (
if zand (xs (i : Int).toNat) 63 = 20 then (
C_L_law_828 n xs i σ) else (
if zand (xs (i : Int).toNat) 63 = 21 then (
C_L_law_861 n xs i σ) else (
if zand (xs (i : Int).toNat) 63 = 22 then (
C_L_law_904 n xs i σ) else (
if zand (xs (i : Int).toNat) 63 = 23 then (
C_L_law_947 n xs i σ) else (
if zand (xs (i : Int).toNat) 63 = 24 then (
C_L_law_990 n xs i σ) else (
if zand (xs (i : Int).toNat) 63 = 25 then (
C_L_law_1003 n xs i σ) else (
if zand (xs (i : Int).toNat) 63 = 26 then (
C_L_law_1026 n xs i σ) else (
if zand (xs (i : Int).toNat) 63 = 27 then (
C_L_law_1039 n xs i σ) else (
if zand (xs (i : Int).toNat) 63 = 28 then (
C_L_law_1052 n xs i σ) else (
if zand (xs (i : Int).toNat) 63 = 29 then (
C_L_law_1065 n xs i σ) else (
if zand (xs (i : Int).toNat) 63 = 30 then (
C_L_law_1078 n xs i σ) else (
if zand (xs (i : Int).toNat) 63 = 31 then (
C_L_law_1101 n xs i σ) else (
if zand (xs (i : Int).toNat) 63 = 32 then (
C_L_law_1144 n xs i σ) else (
if zand (xs (i : Int).toNat) 63 = 33 then (
C_L_law_1167 n xs i σ) else (
if zand (xs (i : Int).toNat) 63 = 34 then (
C_L_law_1200 n xs i σ) else (
if zand (xs (i : Int).toNat) 63 = 35 then (
C_L_law_1243 n xs i σ) else (
if zand (xs (i : Int).toNat) 63 = 36 then (
C_L_law_1316 n xs i σ) else (
if zand (xs (i : Int).toNat) 63 = 37 then (
C_L_law_1350 n xs i σ) else (
if zand (xs (i : Int).toNat) 63 = 38 then (
C_L_law_1413 n xs i σ) else (
if zand (xs (i : Int).toNat) 63 = 39 then (
C_L_law_1446 n xs i σ) else (
P_L_law_18 n xs (zw (i + 6)) σ))))))))))))))))))))))))))))))))))))))))) else (
none))) := by
  have hm := zexec_m zX2 zMT 200
  show zrunL (zXL n xs) (zexec zX2 zMT 200) K_L_law U_L_law 18 [some (.inl (some 1002)), some (.inl (some 0)), some (.inl (some 57)), some (.inr (.inl i))] [] (LAY, σ) = _
  refine (zq_iln hm (pc' := 19) rfl rfl rfl rfl).trans ?_
  refine (zq_aln hm (pc' := 20) rfl rfl rfl rfl).trans ?_
  refine ((zq_leny hm (pc' := 21) rfl rfl).trans zlx).trans ?_
  refine (zJ_n rfl).trans ?_
  refine (zq_bi hm (pc' := 23) rfl rfl rfl rfl).trans ?_
  refine (zq_isub hm (pc' := 24) rfl rfl rfl).trans ?_
  refine (zq_igt hm (pc' := 27) rfl rfl).trans (zite ?_ ?_)
  · refine (zJ_n rfl).trans ?_
    refine (zq_ic hm (pc' := 1476) rfl rfl rfl rfl).trans ?_
    exact (zq_rb hm rfl rfl).trans (zif1 (by decide))
  · refine (zJ_n rfl).trans ?_
    refine (zq_aln hm (pc' := 28) rfl rfl rfl rfl).trans ?_
    refine (zq_iln hm (pc' := 29) rfl rfl rfl rfl).trans ?_
    refine (zq_ix hm (pc' := 30) rfl rfl rfl rfl rfl).trans (zite ?_ rfl)
    refine (zJ_n rfl).trans ?_
    refine (zq_bi hm (pc' := 32) rfl rfl rfl rfl).trans ?_
    refine (zq_iand hm (pc' := 33) rfl rfl rfl).trans ?_
    refine (zq_ts hm rfl).trans (zsw_c (k' := fun _ => none) ?_ (zsw_c (k' := fun _ => none) ?_ (zsw_c (k' := fun _ => none) ?_ (zsw_c (k' := fun _ => none) ?_ (zsw_c (k' := fun _ => none) ?_ (zsw_c (k' := fun _ => none) ?_ (zsw_c (k' := fun _ => none) ?_ (zsw_c (k' := fun _ => none) ?_ (zsw_c (k' := fun _ => none) ?_ (zsw_c (k' := fun _ => none) ?_ (zsw_c (k' := fun _ => none) ?_ (zsw_c (k' := fun _ => none) ?_ (zsw_c (k' := fun _ => none) ?_ (zsw_c (k' := fun _ => none) ?_ (zsw_c (k' := fun _ => none) ?_ (zsw_c (k' := fun _ => none) ?_ (zsw_c (k' := fun _ => none) ?_ (zsw_c (k' := fun _ => none) ?_ (zsw_c (k' := fun _ => none) ?_ (zsw_c (k' := fun _ => none) ?_ (zsw_c (k' := fun _ => none) ?_ (zsw_c (k' := fun _ => none) ?_ (zsw_c (k' := fun _ => none) ?_ (zsw_c (k' := fun _ => none) ?_ (zsw_c (k' := fun _ => none) ?_ (zsw_c (k' := fun _ => none) ?_ (zsw_c (k' := fun _ => none) ?_ (zsw_c (k' := fun _ => none) ?_ (zsw_c (k' := fun _ => none) ?_ (zsw_c (k' := fun _ => none) ?_ (zsw_c (k' := fun _ => none) ?_ (zsw_c (k' := fun _ => none) ?_ (zsw_c (k' := fun _ => none) ?_ (zsw_c (k' := fun _ => none) ?_ (zsw_c (k' := fun _ => none) ?_ (zsw_c (k' := fun _ => none) ?_ (zsw_c (k' := fun _ => none) ?_ (zsw_c (k' := fun _ => none) ?_ (zsw_c (k' := fun _ => none) ?_ (zsw_c (k' := fun _ => none) ?_ (zsw_n ?_)))))))))))))))))))))))))))))))))))))))))
    · exact (zJ_n rfl).trans rfl
    · exact (zJ_n rfl).trans rfl
    · exact (zJ_n rfl).trans rfl
    · exact (zJ_n rfl).trans rfl
    · exact (zJ_n rfl).trans rfl
    · exact (zJ_n rfl).trans rfl
    · exact (zJ_n rfl).trans rfl
    · exact (zJ_n rfl).trans rfl
    · exact (zJ_n rfl).trans rfl
    · exact (zJ_n rfl).trans rfl
    · exact (zJ_n rfl).trans rfl
    · exact (zJ_n rfl).trans rfl
    · exact (zJ_n rfl).trans rfl
    · exact (zJ_n rfl).trans rfl
    · exact (zJ_n rfl).trans rfl
    · exact (zJ_n rfl).trans rfl
    · exact (zJ_n rfl).trans rfl
    · exact (zJ_n rfl).trans rfl
    · exact (zJ_n rfl).trans rfl
    · exact (zJ_n rfl).trans rfl
    · exact (zJ_n rfl).trans rfl
    · exact (zJ_n rfl).trans rfl
    · exact (zJ_n rfl).trans rfl
    · exact (zJ_n rfl).trans rfl
    · exact (zJ_n rfl).trans rfl
    · exact (zJ_n rfl).trans rfl
    · exact (zJ_n rfl).trans rfl
    · exact (zJ_n rfl).trans rfl
    · exact (zJ_n rfl).trans rfl
    · exact (zJ_n rfl).trans rfl
    · exact (zJ_n rfl).trans rfl
    · exact (zJ_n rfl).trans rfl
    · exact (zJ_n rfl).trans rfl
    · exact (zJ_n rfl).trans rfl
    · exact (zJ_n rfl).trans rfl
    · exact (zJ_n rfl).trans rfl
    · exact (zJ_n rfl).trans rfl
    · exact (zJ_n rfl).trans rfl
    · exact (zJ_n rfl).trans rfl
    · exact (zJ_n rfl).trans rfl
    · refine (zJ_n rfl).trans ?_
      refine (zq_iinc hm (ls' := [some (.inl (some 1002)), some (.inl (some 0)), some (.inl (some 57)), some (.inr (.inl (zw (i + 6))))]) (pc' := 1472) rfl rfl rfl rfl rfl rfl).trans ?_
      exact (zc_goto hm rfl rfl).trans rfl
set_option maxRecDepth 100000 in
set_option maxHeartbeats 4000000 in
theorem e_L_law_c208 (n : Nat) (xs : Nat → Int) (i : Int) (σ : zF) : C_L_law_208 n xs i σ = (
if 0 ≤ zw (i + 1) ∧ zw (i + 1) < (n : Int) then (
if 0 ≤ zw (i + 2) ∧ zw (i + 2) < (n : Int) then (
zCI LAY (zx 200 104 [.inl (some 0), .inr (.inl (xs (zw (i + 1) : Int).toNat)), .inr (.inl (xs (zw (i + 2) : Int).toNat))] σ) fun r2 s1 =>
if 0 ≤ zw (i + 1) ∧ zw (i + 1) < (n : Int) then (
if 0 ≤ zw (i + 2) ∧ zw (i + 2) < (n : Int) then (
zCI LAY (zx 200 160 [.inl (some 57), .inr (.inl (xs (zw (i + 1) : Int).toNat)), .inr (.inl (xs (zw (i + 2) : Int).toNat))] s1) fun r4 s3 =>
if r2 = r4 then (
P_L_law_18 n xs (zw (i + 6)) s3) else (
zri 0 s3)) else (
none)) else (
none)) else (
none)) else (
none)) := by
  have hm := zexec_m zX2 zMT 200
  show zrunL (zXL n xs) (zexec zX2 zMT 200) K_L_law U_L_law 208 [some (.inl (some 1002)), some (.inl (some 0)), some (.inl (some 57)), some (.inr (.inl i))] [] (LAY, σ) = _
  refine (zq_aln hm (pc' := 209) rfl rfl rfl rfl).trans ?_
  refine (zq_aln hm (pc' := 210) rfl rfl rfl rfl).trans ?_
  refine (zq_iln hm (pc' := 211) rfl rfl rfl rfl).trans ?_
  refine (zq_ic hm (pc' := 212) rfl rfl rfl rfl).trans ?_
  refine (zq_iadd hm (pc' := 213) rfl rfl rfl).trans ?_
  refine (zq_ix hm (pc' := 214) rfl rfl rfl rfl rfl).trans (zite ?_ rfl)
  refine (zJ_n rfl).trans ?_
  refine (zq_aln hm (pc' := 215) rfl rfl rfl rfl).trans ?_
  refine (zq_iln hm (pc' := 216) rfl rfl rfl rfl).trans ?_
  refine (zq_ic hm (pc' := 217) rfl rfl rfl rfl).trans ?_
  refine (zq_iadd hm (pc' := 218) rfl rfl rfl).trans ?_
  refine (zq_ix hm (pc' := 219) rfl rfl rfl rfl rfl).trans (zite ?_ rfl)
  refine (zJ_n rfl).trans ?_
  refine (zq_v1 hm (pc' := 222) rfl rfl rfl (cls_0_11) rfl rfl).trans (zCI_c rfl (fun r2 s1 => ?_))
  refine (zJ_n rfl).trans ?_
  refine (zq_aln hm (pc' := 223) rfl rfl rfl rfl).trans ?_
  refine (zq_aln hm (pc' := 224) rfl rfl rfl rfl).trans ?_
  refine (zq_iln hm (pc' := 225) rfl rfl rfl rfl).trans ?_
  refine (zq_ic hm (pc' := 226) rfl rfl rfl rfl).trans ?_
  refine (zq_iadd hm (pc' := 227) rfl rfl rfl).trans ?_
  refine (zq_ix hm (pc' := 228) rfl rfl rfl rfl rfl).trans (zite ?_ rfl)
  refine (zJ_n rfl).trans ?_
  refine (zq_aln hm (pc' := 229) rfl rfl rfl rfl).trans ?_
  refine (zq_iln hm (pc' := 230) rfl rfl rfl rfl).trans ?_
  refine (zq_ic hm (pc' := 231) rfl rfl rfl rfl).trans ?_
  refine (zq_iadd hm (pc' := 232) rfl rfl rfl).trans ?_
  refine (zq_ix hm (pc' := 233) rfl rfl rfl rfl rfl).trans (zite ?_ rfl)
  refine (zJ_n rfl).trans ?_
  refine (zq_v1 hm (pc' := 236) rfl rfl rfl (cls_57_12) rfl rfl).trans (zCI_c rfl (fun r4 s3 => ?_))
  refine (zJ_n rfl).trans ?_
  refine (zq_ieq hm (pc' := 239) rfl rfl).trans (zite ?_ ?_)
  · refine (zJ_n rfl).trans ?_
    refine (zq_iinc hm (ls' := [some (.inl (some 1002)), some (.inl (some 0)), some (.inl (some 57)), some (.inr (.inl (zw (i + 6))))]) (pc' := 1472) rfl rfl rfl rfl rfl rfl).trans ?_
    exact (zc_goto hm rfl rfl).trans rfl
  · refine (zJ_n rfl).trans ?_
    refine (zq_ic hm (pc' := 240) rfl rfl rfl rfl).trans ?_
    exact (zq_rb hm rfl rfl).trans (zif1 (by decide))
set_option maxRecDepth 100000 in
set_option maxHeartbeats 4000000 in
theorem e_L_law_c241 (n : Nat) (xs : Nat → Int) (i : Int) (σ : zF) : C_L_law_241 n xs i σ = (
if 0 ≤ zw (i + 1) ∧ zw (i + 1) < (n : Int) then (
if 0 ≤ zw (i + 2) ∧ zw (i + 2) < (n : Int) then (
if 0 ≤ zw (i + 3) ∧ zw (i + 3) < (n : Int) then (
zCI LAY (zx 200 105 [.inl (some 0), .inr (.inl (xs (zw (i + 1) : Int).toNat)), .inr (.inl (xs (zw (i + 2) : Int).toNat)), .inr (.inl (xs (zw (i + 3) : Int).toNat))] σ) fun r2 s1 =>
if 0 ≤ zw (i + 1) ∧ zw (i + 1) < (n : Int) then (
if 0 ≤ zw (i + 2) ∧ zw (i + 2) < (n : Int) then (
if 0 ≤ zw (i + 3) ∧ zw (i + 3) < (n : Int) then (
zCI LAY (zx 200 161 [.inl (some 57), .inr (.inl (xs (zw (i + 1) : Int).toNat)), .inr (.inl (xs (zw (i + 2) : Int).toNat)), .inr (.inl (xs (zw (i + 3) : Int).toNat))] s1) fun r4 s3 =>
if r2 = r4 then (
P_L_law_18 n xs (zw (i + 6)) s3) else (
zri 0 s3)) else (
none)) else (
none)) else (
none)) else (
none)) else (
none)) else (
none)) := by
  have hm := zexec_m zX2 zMT 200
  show zrunL (zXL n xs) (zexec zX2 zMT 200) K_L_law U_L_law 241 [some (.inl (some 1002)), some (.inl (some 0)), some (.inl (some 57)), some (.inr (.inl i))] [] (LAY, σ) = _
  refine (zq_aln hm (pc' := 242) rfl rfl rfl rfl).trans ?_
  refine (zq_aln hm (pc' := 243) rfl rfl rfl rfl).trans ?_
  refine (zq_iln hm (pc' := 244) rfl rfl rfl rfl).trans ?_
  refine (zq_ic hm (pc' := 245) rfl rfl rfl rfl).trans ?_
  refine (zq_iadd hm (pc' := 246) rfl rfl rfl).trans ?_
  refine (zq_ix hm (pc' := 247) rfl rfl rfl rfl rfl).trans (zite ?_ rfl)
  refine (zJ_n rfl).trans ?_
  refine (zq_aln hm (pc' := 248) rfl rfl rfl rfl).trans ?_
  refine (zq_iln hm (pc' := 249) rfl rfl rfl rfl).trans ?_
  refine (zq_ic hm (pc' := 250) rfl rfl rfl rfl).trans ?_
  refine (zq_iadd hm (pc' := 251) rfl rfl rfl).trans ?_
  refine (zq_ix hm (pc' := 252) rfl rfl rfl rfl rfl).trans (zite ?_ rfl)
  refine (zJ_n rfl).trans ?_
  refine (zq_aln hm (pc' := 253) rfl rfl rfl rfl).trans ?_
  refine (zq_iln hm (pc' := 254) rfl rfl rfl rfl).trans ?_
  refine (zq_ic hm (pc' := 255) rfl rfl rfl rfl).trans ?_
  refine (zq_iadd hm (pc' := 256) rfl rfl rfl).trans ?_
  refine (zq_ix hm (pc' := 257) rfl rfl rfl rfl rfl).trans (zite ?_ rfl)
  refine (zJ_n rfl).trans ?_
  refine (zq_v1 hm (pc' := 260) rfl rfl rfl (cls_0_11) rfl rfl).trans (zCI_c rfl (fun r2 s1 => ?_))
  refine (zJ_n rfl).trans ?_
  refine (zq_aln hm (pc' := 261) rfl rfl rfl rfl).trans ?_
  refine (zq_aln hm (pc' := 262) rfl rfl rfl rfl).trans ?_
  refine (zq_iln hm (pc' := 263) rfl rfl rfl rfl).trans ?_
  refine (zq_ic hm (pc' := 264) rfl rfl rfl rfl).trans ?_
  refine (zq_iadd hm (pc' := 265) rfl rfl rfl).trans ?_
  refine (zq_ix hm (pc' := 266) rfl rfl rfl rfl rfl).trans (zite ?_ rfl)
  refine (zJ_n rfl).trans ?_
  refine (zq_aln hm (pc' := 267) rfl rfl rfl rfl).trans ?_
  refine (zq_iln hm (pc' := 268) rfl rfl rfl rfl).trans ?_
  refine (zq_ic hm (pc' := 269) rfl rfl rfl rfl).trans ?_
  refine (zq_iadd hm (pc' := 270) rfl rfl rfl).trans ?_
  refine (zq_ix hm (pc' := 271) rfl rfl rfl rfl rfl).trans (zite ?_ rfl)
  refine (zJ_n rfl).trans ?_
  refine (zq_aln hm (pc' := 272) rfl rfl rfl rfl).trans ?_
  refine (zq_iln hm (pc' := 273) rfl rfl rfl rfl).trans ?_
  refine (zq_ic hm (pc' := 274) rfl rfl rfl rfl).trans ?_
  refine (zq_iadd hm (pc' := 275) rfl rfl rfl).trans ?_
  refine (zq_ix hm (pc' := 276) rfl rfl rfl rfl rfl).trans (zite ?_ rfl)
  refine (zJ_n rfl).trans ?_
  refine (zq_v1 hm (pc' := 279) rfl rfl rfl (cls_57_12) rfl rfl).trans (zCI_c rfl (fun r4 s3 => ?_))
  refine (zJ_n rfl).trans ?_
  refine (zq_ieq hm (pc' := 282) rfl rfl).trans (zite ?_ ?_)
  · refine (zJ_n rfl).trans ?_
    refine (zq_iinc hm (ls' := [some (.inl (some 1002)), some (.inl (some 0)), some (.inl (some 57)), some (.inr (.inl (zw (i + 6))))]) (pc' := 1472) rfl rfl rfl rfl rfl rfl).trans ?_
    exact (zc_goto hm rfl rfl).trans rfl
  · refine (zJ_n rfl).trans ?_
    refine (zq_ic hm (pc' := 283) rfl rfl rfl rfl).trans ?_
    exact (zq_rb hm rfl rfl).trans (zif1 (by decide))
set_option maxRecDepth 100000 in
set_option maxHeartbeats 4000000 in
theorem e_L_law_c284 (n : Nat) (xs : Nat → Int) (i : Int) (σ : zF) : C_L_law_284 n xs i σ = (
if 0 ≤ zw (i + 1) ∧ zw (i + 1) < (n : Int) then (
zCI LAY (zx 200 107 [.inl (some 0), .inr (.inl (xs (zw (i + 1) : Int).toNat))] σ) fun r2 s1 =>
if 0 ≤ zw (i + 1) ∧ zw (i + 1) < (n : Int) then (
zCI LAY (zx 200 163 [.inl (some 57), .inr (.inl (xs (zw (i + 1) : Int).toNat))] s1) fun r4 s3 =>
if r2 = r4 then (
P_L_law_18 n xs (zw (i + 6)) s3) else (
zri 0 s3)) else (
none)) else (
none)) := by
  have hm := zexec_m zX2 zMT 200
  show zrunL (zXL n xs) (zexec zX2 zMT 200) K_L_law U_L_law 284 [some (.inl (some 1002)), some (.inl (some 0)), some (.inl (some 57)), some (.inr (.inl i))] [] (LAY, σ) = _
  refine (zq_aln hm (pc' := 285) rfl rfl rfl rfl).trans ?_
  refine (zq_aln hm (pc' := 286) rfl rfl rfl rfl).trans ?_
  refine (zq_iln hm (pc' := 287) rfl rfl rfl rfl).trans ?_
  refine (zq_ic hm (pc' := 288) rfl rfl rfl rfl).trans ?_
  refine (zq_iadd hm (pc' := 289) rfl rfl rfl).trans ?_
  refine (zq_ix hm (pc' := 290) rfl rfl rfl rfl rfl).trans (zite ?_ rfl)
  refine (zJ_n rfl).trans ?_
  refine (zq_v1 hm (pc' := 293) rfl rfl rfl (cls_0_11) rfl rfl).trans (zCI_c rfl (fun r2 s1 => ?_))
  refine (zJ_n rfl).trans ?_
  refine (zq_aln hm (pc' := 294) rfl rfl rfl rfl).trans ?_
  refine (zq_aln hm (pc' := 295) rfl rfl rfl rfl).trans ?_
  refine (zq_iln hm (pc' := 296) rfl rfl rfl rfl).trans ?_
  refine (zq_ic hm (pc' := 297) rfl rfl rfl rfl).trans ?_
  refine (zq_iadd hm (pc' := 298) rfl rfl rfl).trans ?_
  refine (zq_ix hm (pc' := 299) rfl rfl rfl rfl rfl).trans (zite ?_ rfl)
  refine (zJ_n rfl).trans ?_
  refine (zq_v1 hm (pc' := 302) rfl rfl rfl (cls_57_12) rfl rfl).trans (zCI_c rfl (fun r4 s3 => ?_))
  refine (zJ_n rfl).trans ?_
  refine (zq_ieq hm (pc' := 305) rfl rfl).trans (zite ?_ ?_)
  · refine (zJ_n rfl).trans ?_
    refine (zq_iinc hm (ls' := [some (.inl (some 1002)), some (.inl (some 0)), some (.inl (some 57)), some (.inr (.inl (zw (i + 6))))]) (pc' := 1472) rfl rfl rfl rfl rfl rfl).trans ?_
    exact (zc_goto hm rfl rfl).trans rfl
  · refine (zJ_n rfl).trans ?_
    refine (zq_ic hm (pc' := 306) rfl rfl rfl rfl).trans ?_
    exact (zq_rb hm rfl rfl).trans (zif1 (by decide))
set_option maxRecDepth 100000 in
set_option maxHeartbeats 4000000 in
theorem e_L_law_c307 (n : Nat) (xs : Nat → Int) (i : Int) (σ : zF) : C_L_law_307 n xs i σ = (
if 0 ≤ zw (i + 1) ∧ zw (i + 1) < (n : Int) then (
if 0 ≤ zw (i + 2) ∧ zw (i + 2) < (n : Int) then (
if 0 ≤ zw (i + 3) ∧ zw (i + 3) < (n : Int) then (
zCI LAY (zx 200 108 [.inl (some 0), .inr (.inl (xs (zw (i + 1) : Int).toNat)), .inr (.inl (xs (zw (i + 2) : Int).toNat)), .inr (.inl (xs (zw (i + 3) : Int).toNat))] σ) fun r2 s1 =>
if 0 ≤ zw (i + 1) ∧ zw (i + 1) < (n : Int) then (
if 0 ≤ zw (i + 2) ∧ zw (i + 2) < (n : Int) then (
if 0 ≤ zw (i + 3) ∧ zw (i + 3) < (n : Int) then (
zCI LAY (zx 200 168 [.inl (some 57), .inr (.inl (xs (zw (i + 1) : Int).toNat)), .inr (.inl (xs (zw (i + 2) : Int).toNat)), .inr (.inl (xs (zw (i + 3) : Int).toNat))] s1) fun r4 s3 =>
if r2 = r4 then (
P_L_law_18 n xs (zw (i + 6)) s3) else (
zri 0 s3)) else (
none)) else (
none)) else (
none)) else (
none)) else (
none)) else (
none)) := by
  have hm := zexec_m zX2 zMT 200
  show zrunL (zXL n xs) (zexec zX2 zMT 200) K_L_law U_L_law 307 [some (.inl (some 1002)), some (.inl (some 0)), some (.inl (some 57)), some (.inr (.inl i))] [] (LAY, σ) = _
  refine (zq_aln hm (pc' := 308) rfl rfl rfl rfl).trans ?_
  refine (zq_aln hm (pc' := 309) rfl rfl rfl rfl).trans ?_
  refine (zq_iln hm (pc' := 310) rfl rfl rfl rfl).trans ?_
  refine (zq_ic hm (pc' := 311) rfl rfl rfl rfl).trans ?_
  refine (zq_iadd hm (pc' := 312) rfl rfl rfl).trans ?_
  refine (zq_ix hm (pc' := 313) rfl rfl rfl rfl rfl).trans (zite ?_ rfl)
  refine (zJ_n rfl).trans ?_
  refine (zq_aln hm (pc' := 314) rfl rfl rfl rfl).trans ?_
  refine (zq_iln hm (pc' := 315) rfl rfl rfl rfl).trans ?_
  refine (zq_ic hm (pc' := 316) rfl rfl rfl rfl).trans ?_
  refine (zq_iadd hm (pc' := 317) rfl rfl rfl).trans ?_
  refine (zq_ix hm (pc' := 318) rfl rfl rfl rfl rfl).trans (zite ?_ rfl)
  refine (zJ_n rfl).trans ?_
  refine (zq_aln hm (pc' := 319) rfl rfl rfl rfl).trans ?_
  refine (zq_iln hm (pc' := 320) rfl rfl rfl rfl).trans ?_
  refine (zq_ic hm (pc' := 321) rfl rfl rfl rfl).trans ?_
  refine (zq_iadd hm (pc' := 322) rfl rfl rfl).trans ?_
  refine (zq_ix hm (pc' := 323) rfl rfl rfl rfl rfl).trans (zite ?_ rfl)
  refine (zJ_n rfl).trans ?_
  refine (zq_v1 hm (pc' := 326) rfl rfl rfl (cls_0_11) rfl rfl).trans (zCI_c rfl (fun r2 s1 => ?_))
  refine (zJ_n rfl).trans ?_
  refine (zq_aln hm (pc' := 327) rfl rfl rfl rfl).trans ?_
  refine (zq_aln hm (pc' := 328) rfl rfl rfl rfl).trans ?_
  refine (zq_iln hm (pc' := 329) rfl rfl rfl rfl).trans ?_
  refine (zq_ic hm (pc' := 330) rfl rfl rfl rfl).trans ?_
  refine (zq_iadd hm (pc' := 331) rfl rfl rfl).trans ?_
  refine (zq_ix hm (pc' := 332) rfl rfl rfl rfl rfl).trans (zite ?_ rfl)
  refine (zJ_n rfl).trans ?_
  refine (zq_aln hm (pc' := 333) rfl rfl rfl rfl).trans ?_
  refine (zq_iln hm (pc' := 334) rfl rfl rfl rfl).trans ?_
  refine (zq_ic hm (pc' := 335) rfl rfl rfl rfl).trans ?_
  refine (zq_iadd hm (pc' := 336) rfl rfl rfl).trans ?_
  refine (zq_ix hm (pc' := 337) rfl rfl rfl rfl rfl).trans (zite ?_ rfl)
  refine (zJ_n rfl).trans ?_
  refine (zq_aln hm (pc' := 338) rfl rfl rfl rfl).trans ?_
  refine (zq_iln hm (pc' := 339) rfl rfl rfl rfl).trans ?_
  refine (zq_ic hm (pc' := 340) rfl rfl rfl rfl).trans ?_
  refine (zq_iadd hm (pc' := 341) rfl rfl rfl).trans ?_
  refine (zq_ix hm (pc' := 342) rfl rfl rfl rfl rfl).trans (zite ?_ rfl)
  refine (zJ_n rfl).trans ?_
  refine (zq_v1 hm (pc' := 345) rfl rfl rfl (cls_57_12) rfl rfl).trans (zCI_c rfl (fun r4 s3 => ?_))
  refine (zJ_n rfl).trans ?_
  refine (zq_ieq hm (pc' := 348) rfl rfl).trans (zite ?_ ?_)
  · refine (zJ_n rfl).trans ?_
    refine (zq_iinc hm (ls' := [some (.inl (some 1002)), some (.inl (some 0)), some (.inl (some 57)), some (.inr (.inl (zw (i + 6))))]) (pc' := 1472) rfl rfl rfl rfl rfl rfl).trans ?_
    exact (zc_goto hm rfl rfl).trans rfl
  · refine (zJ_n rfl).trans ?_
    refine (zq_ic hm (pc' := 349) rfl rfl rfl rfl).trans ?_
    exact (zq_rb hm rfl rfl).trans (zif1 (by decide))
set_option maxRecDepth 100000 in
set_option maxHeartbeats 4000000 in
theorem e_L_law_c350 (n : Nat) (xs : Nat → Int) (i : Int) (σ : zF) : C_L_law_350 n xs i σ = (
if 0 ≤ zw (i + 1) ∧ zw (i + 1) < (n : Int) then (
if 0 ≤ zw (i + 2) ∧ zw (i + 2) < (n : Int) then (
zCI LAY (zx 200 109 [.inl (some 0), .inr (.inl (xs (zw (i + 1) : Int).toNat)), .inr (.inl (xs (zw (i + 2) : Int).toNat))] σ) fun r2 s1 =>
if 0 ≤ zw (i + 1) ∧ zw (i + 1) < (n : Int) then (
if 0 ≤ zw (i + 2) ∧ zw (i + 2) < (n : Int) then (
zCI LAY (zx 200 169 [.inl (some 57), .inr (.inl (xs (zw (i + 1) : Int).toNat)), .inr (.inl (xs (zw (i + 2) : Int).toNat))] s1) fun r4 s3 =>
if r2 = r4 then (
P_L_law_18 n xs (zw (i + 6)) s3) else (
zri 0 s3)) else (
none)) else (
none)) else (
none)) else (
none)) := by
  have hm := zexec_m zX2 zMT 200
  show zrunL (zXL n xs) (zexec zX2 zMT 200) K_L_law U_L_law 350 [some (.inl (some 1002)), some (.inl (some 0)), some (.inl (some 57)), some (.inr (.inl i))] [] (LAY, σ) = _
  refine (zq_aln hm (pc' := 351) rfl rfl rfl rfl).trans ?_
  refine (zq_aln hm (pc' := 352) rfl rfl rfl rfl).trans ?_
  refine (zq_iln hm (pc' := 353) rfl rfl rfl rfl).trans ?_
  refine (zq_ic hm (pc' := 354) rfl rfl rfl rfl).trans ?_
  refine (zq_iadd hm (pc' := 355) rfl rfl rfl).trans ?_
  refine (zq_ix hm (pc' := 356) rfl rfl rfl rfl rfl).trans (zite ?_ rfl)
  refine (zJ_n rfl).trans ?_
  refine (zq_aln hm (pc' := 357) rfl rfl rfl rfl).trans ?_
  refine (zq_iln hm (pc' := 358) rfl rfl rfl rfl).trans ?_
  refine (zq_ic hm (pc' := 359) rfl rfl rfl rfl).trans ?_
  refine (zq_iadd hm (pc' := 360) rfl rfl rfl).trans ?_
  refine (zq_ix hm (pc' := 361) rfl rfl rfl rfl rfl).trans (zite ?_ rfl)
  refine (zJ_n rfl).trans ?_
  refine (zq_v1 hm (pc' := 364) rfl rfl rfl (cls_0_11) rfl rfl).trans (zCI_c rfl (fun r2 s1 => ?_))
  refine (zJ_n rfl).trans ?_
  refine (zq_aln hm (pc' := 365) rfl rfl rfl rfl).trans ?_
  refine (zq_aln hm (pc' := 366) rfl rfl rfl rfl).trans ?_
  refine (zq_iln hm (pc' := 367) rfl rfl rfl rfl).trans ?_
  refine (zq_ic hm (pc' := 368) rfl rfl rfl rfl).trans ?_
  refine (zq_iadd hm (pc' := 369) rfl rfl rfl).trans ?_
  refine (zq_ix hm (pc' := 370) rfl rfl rfl rfl rfl).trans (zite ?_ rfl)
  refine (zJ_n rfl).trans ?_
  refine (zq_aln hm (pc' := 371) rfl rfl rfl rfl).trans ?_
  refine (zq_iln hm (pc' := 372) rfl rfl rfl rfl).trans ?_
  refine (zq_ic hm (pc' := 373) rfl rfl rfl rfl).trans ?_
  refine (zq_iadd hm (pc' := 374) rfl rfl rfl).trans ?_
  refine (zq_ix hm (pc' := 375) rfl rfl rfl rfl rfl).trans (zite ?_ rfl)
  refine (zJ_n rfl).trans ?_
  refine (zq_v1 hm (pc' := 378) rfl rfl rfl (cls_57_12) rfl rfl).trans (zCI_c rfl (fun r4 s3 => ?_))
  refine (zJ_n rfl).trans ?_
  refine (zq_ieq hm (pc' := 381) rfl rfl).trans (zite ?_ ?_)
  · refine (zJ_n rfl).trans ?_
    refine (zq_iinc hm (ls' := [some (.inl (some 1002)), some (.inl (some 0)), some (.inl (some 57)), some (.inr (.inl (zw (i + 6))))]) (pc' := 1472) rfl rfl rfl rfl rfl rfl).trans ?_
    exact (zc_goto hm rfl rfl).trans rfl
  · refine (zJ_n rfl).trans ?_
    refine (zq_ic hm (pc' := 382) rfl rfl rfl rfl).trans ?_
    exact (zq_rb hm rfl rfl).trans (zif1 (by decide))
set_option maxRecDepth 100000 in
set_option maxHeartbeats 4000000 in
theorem e_L_law_c383 (n : Nat) (xs : Nat → Int) (i : Int) (σ : zF) : C_L_law_383 n xs i σ = (
if 0 ≤ zw (i + 1) ∧ zw (i + 1) < (n : Int) then (
zCI LAY (zx 200 110 [.inl (some 0), .inr (.inl (xs (zw (i + 1) : Int).toNat))] σ) fun r2 s1 =>
if 0 ≤ zw (i + 1) ∧ zw (i + 1) < (n : Int) then (
zCI LAY (zx 200 172 [.inl (some 57), .inr (.inl (xs (zw (i + 1) : Int).toNat))] s1) fun r4 s3 =>
if r2 = r4 then (
P_L_law_18 n xs (zw (i + 6)) s3) else (
zri 0 s3)) else (
none)) else (
none)) := by
  have hm := zexec_m zX2 zMT 200
  show zrunL (zXL n xs) (zexec zX2 zMT 200) K_L_law U_L_law 383 [some (.inl (some 1002)), some (.inl (some 0)), some (.inl (some 57)), some (.inr (.inl i))] [] (LAY, σ) = _
  refine (zq_aln hm (pc' := 384) rfl rfl rfl rfl).trans ?_
  refine (zq_aln hm (pc' := 385) rfl rfl rfl rfl).trans ?_
  refine (zq_iln hm (pc' := 386) rfl rfl rfl rfl).trans ?_
  refine (zq_ic hm (pc' := 387) rfl rfl rfl rfl).trans ?_
  refine (zq_iadd hm (pc' := 388) rfl rfl rfl).trans ?_
  refine (zq_ix hm (pc' := 389) rfl rfl rfl rfl rfl).trans (zite ?_ rfl)
  refine (zJ_n rfl).trans ?_
  refine (zq_v1 hm (pc' := 392) rfl rfl rfl (cls_0_11) rfl rfl).trans (zCI_c rfl (fun r2 s1 => ?_))
  refine (zJ_n rfl).trans ?_
  refine (zq_aln hm (pc' := 393) rfl rfl rfl rfl).trans ?_
  refine (zq_aln hm (pc' := 394) rfl rfl rfl rfl).trans ?_
  refine (zq_iln hm (pc' := 395) rfl rfl rfl rfl).trans ?_
  refine (zq_ic hm (pc' := 396) rfl rfl rfl rfl).trans ?_
  refine (zq_iadd hm (pc' := 397) rfl rfl rfl).trans ?_
  refine (zq_ix hm (pc' := 398) rfl rfl rfl rfl rfl).trans (zite ?_ rfl)
  refine (zJ_n rfl).trans ?_
  refine (zq_v1 hm (pc' := 401) rfl rfl rfl (cls_57_12) rfl rfl).trans (zCI_c rfl (fun r4 s3 => ?_))
  refine (zJ_n rfl).trans ?_
  refine (zq_ieq hm (pc' := 404) rfl rfl).trans (zite ?_ ?_)
  · refine (zJ_n rfl).trans ?_
    refine (zq_iinc hm (ls' := [some (.inl (some 1002)), some (.inl (some 0)), some (.inl (some 57)), some (.inr (.inl (zw (i + 6))))]) (pc' := 1472) rfl rfl rfl rfl rfl rfl).trans ?_
    exact (zc_goto hm rfl rfl).trans rfl
  · refine (zJ_n rfl).trans ?_
    refine (zq_ic hm (pc' := 405) rfl rfl rfl rfl).trans ?_
    exact (zq_rb hm rfl rfl).trans (zif1 (by decide))
set_option maxRecDepth 100000 in
set_option maxHeartbeats 4000000 in
theorem e_L_law_c406 (n : Nat) (xs : Nat → Int) (i : Int) (σ : zF) : C_L_law_406 n xs i σ = (
zCI LAY (zx 200 111 [.inl (some 0)] σ) fun r2 s1 =>
zCI LAY (zx 200 185 [.inl (some 57)] s1) fun r4 s3 =>
if r2 = r4 then (
P_L_law_18 n xs (zw (i + 6)) s3) else (
zri 0 s3)) := by
  have hm := zexec_m zX2 zMT 200
  show zrunL (zXL n xs) (zexec zX2 zMT 200) K_L_law U_L_law 406 [some (.inl (some 1002)), some (.inl (some 0)), some (.inl (some 57)), some (.inr (.inl i))] [] (LAY, σ) = _
  refine (zq_aln hm (pc' := 407) rfl rfl rfl rfl).trans ?_
  refine (zq_v1 hm (pc' := 410) rfl rfl rfl (cls_0_11) rfl rfl).trans (zCI_c rfl (fun r2 s1 => ?_))
  refine (zJ_n rfl).trans ?_
  refine (zq_aln hm (pc' := 411) rfl rfl rfl rfl).trans ?_
  refine (zq_v1 hm (pc' := 414) rfl rfl rfl (cls_57_12) rfl rfl).trans (zCI_c rfl (fun r4 s3 => ?_))
  refine (zJ_n rfl).trans ?_
  refine (zq_ieq hm (pc' := 417) rfl rfl).trans (zite ?_ ?_)
  · refine (zJ_n rfl).trans ?_
    refine (zq_iinc hm (ls' := [some (.inl (some 1002)), some (.inl (some 0)), some (.inl (some 57)), some (.inr (.inl (zw (i + 6))))]) (pc' := 1472) rfl rfl rfl rfl rfl rfl).trans ?_
    exact (zc_goto hm rfl rfl).trans rfl
  · refine (zJ_n rfl).trans ?_
    refine (zq_ic hm (pc' := 418) rfl rfl rfl rfl).trans ?_
    exact (zq_rb hm rfl rfl).trans (zif1 (by decide))
set_option maxRecDepth 100000 in
set_option maxHeartbeats 4000000 in
theorem e_L_law_c419 (n : Nat) (xs : Nat → Int) (i : Int) (σ : zF) : C_L_law_419 n xs i σ = (
if 0 ≤ zw (i + 1) ∧ zw (i + 1) < (n : Int) then (
zCI LAY (zx 200 112 [.inl (some 0), .inr (.inl (xs (zw (i + 1) : Int).toNat))] σ) fun r2 s1 =>
if 0 ≤ zw (i + 1) ∧ zw (i + 1) < (n : Int) then (
zCI LAY (zx 200 194 [.inl (some 57), .inr (.inl (xs (zw (i + 1) : Int).toNat))] s1) fun r4 s3 =>
if r2 = r4 then (
P_L_law_18 n xs (zw (i + 6)) s3) else (
zri 0 s3)) else (
none)) else (
none)) := by
  have hm := zexec_m zX2 zMT 200
  show zrunL (zXL n xs) (zexec zX2 zMT 200) K_L_law U_L_law 419 [some (.inl (some 1002)), some (.inl (some 0)), some (.inl (some 57)), some (.inr (.inl i))] [] (LAY, σ) = _
  refine (zq_aln hm (pc' := 420) rfl rfl rfl rfl).trans ?_
  refine (zq_aln hm (pc' := 421) rfl rfl rfl rfl).trans ?_
  refine (zq_iln hm (pc' := 422) rfl rfl rfl rfl).trans ?_
  refine (zq_ic hm (pc' := 423) rfl rfl rfl rfl).trans ?_
  refine (zq_iadd hm (pc' := 424) rfl rfl rfl).trans ?_
  refine (zq_ix hm (pc' := 425) rfl rfl rfl rfl rfl).trans (zite ?_ rfl)
  refine (zJ_n rfl).trans ?_
  refine (zq_v1 hm (pc' := 428) rfl rfl rfl (cls_0_11) rfl rfl).trans (zCI_c rfl (fun r2 s1 => ?_))
  refine (zJ_n rfl).trans ?_
  refine (zq_aln hm (pc' := 429) rfl rfl rfl rfl).trans ?_
  refine (zq_aln hm (pc' := 430) rfl rfl rfl rfl).trans ?_
  refine (zq_iln hm (pc' := 431) rfl rfl rfl rfl).trans ?_
  refine (zq_ic hm (pc' := 432) rfl rfl rfl rfl).trans ?_
  refine (zq_iadd hm (pc' := 433) rfl rfl rfl).trans ?_
  refine (zq_ix hm (pc' := 434) rfl rfl rfl rfl rfl).trans (zite ?_ rfl)
  refine (zJ_n rfl).trans ?_
  refine (zq_v1 hm (pc' := 437) rfl rfl rfl (cls_57_12) rfl rfl).trans (zCI_c rfl (fun r4 s3 => ?_))
  refine (zJ_n rfl).trans ?_
  refine (zq_ieq hm (pc' := 440) rfl rfl).trans (zite ?_ ?_)
  · refine (zJ_n rfl).trans ?_
    refine (zq_iinc hm (ls' := [some (.inl (some 1002)), some (.inl (some 0)), some (.inl (some 57)), some (.inr (.inl (zw (i + 6))))]) (pc' := 1472) rfl rfl rfl rfl rfl rfl).trans ?_
    exact (zc_goto hm rfl rfl).trans rfl
  · refine (zJ_n rfl).trans ?_
    refine (zq_ic hm (pc' := 441) rfl rfl rfl rfl).trans ?_
    exact (zq_rb hm rfl rfl).trans (zif1 (by decide))
set_option maxRecDepth 100000 in
set_option maxHeartbeats 4000000 in
theorem e_L_law_c442 (n : Nat) (xs : Nat → Int) (i : Int) (σ : zF) : C_L_law_442 n xs i σ = (
if 0 ≤ zw (i + 1) ∧ zw (i + 1) < (n : Int) then (
if 0 ≤ zw (i + 2) ∧ zw (i + 2) < (n : Int) then (
zCI LAY (zx 200 113 [.inl (some 0), .inr (.inl (xs (zw (i + 1) : Int).toNat)), .inr (.inl (xs (zw (i + 2) : Int).toNat))] σ) fun r2 s1 =>
if 0 ≤ zw (i + 1) ∧ zw (i + 1) < (n : Int) then (
if 0 ≤ zw (i + 2) ∧ zw (i + 2) < (n : Int) then (
zCI LAY (zx 200 202 [.inl (some 57), .inr (.inl (xs (zw (i + 1) : Int).toNat)), .inr (.inl (xs (zw (i + 2) : Int).toNat))] s1) fun r4 s3 =>
if r2 = r4 then (
P_L_law_18 n xs (zw (i + 6)) s3) else (
zri 0 s3)) else (
none)) else (
none)) else (
none)) else (
none)) := by
  have hm := zexec_m zX2 zMT 200
  show zrunL (zXL n xs) (zexec zX2 zMT 200) K_L_law U_L_law 442 [some (.inl (some 1002)), some (.inl (some 0)), some (.inl (some 57)), some (.inr (.inl i))] [] (LAY, σ) = _
  refine (zq_aln hm (pc' := 443) rfl rfl rfl rfl).trans ?_
  refine (zq_aln hm (pc' := 444) rfl rfl rfl rfl).trans ?_
  refine (zq_iln hm (pc' := 445) rfl rfl rfl rfl).trans ?_
  refine (zq_ic hm (pc' := 446) rfl rfl rfl rfl).trans ?_
  refine (zq_iadd hm (pc' := 447) rfl rfl rfl).trans ?_
  refine (zq_ix hm (pc' := 448) rfl rfl rfl rfl rfl).trans (zite ?_ rfl)
  refine (zJ_n rfl).trans ?_
  refine (zq_aln hm (pc' := 449) rfl rfl rfl rfl).trans ?_
  refine (zq_iln hm (pc' := 450) rfl rfl rfl rfl).trans ?_
  refine (zq_ic hm (pc' := 451) rfl rfl rfl rfl).trans ?_
  refine (zq_iadd hm (pc' := 452) rfl rfl rfl).trans ?_
  refine (zq_ix hm (pc' := 453) rfl rfl rfl rfl rfl).trans (zite ?_ rfl)
  refine (zJ_n rfl).trans ?_
  refine (zq_v1 hm (pc' := 456) rfl rfl rfl (cls_0_11) rfl rfl).trans (zCI_c rfl (fun r2 s1 => ?_))
  refine (zJ_n rfl).trans ?_
  refine (zq_aln hm (pc' := 457) rfl rfl rfl rfl).trans ?_
  refine (zq_aln hm (pc' := 458) rfl rfl rfl rfl).trans ?_
  refine (zq_iln hm (pc' := 459) rfl rfl rfl rfl).trans ?_
  refine (zq_ic hm (pc' := 460) rfl rfl rfl rfl).trans ?_
  refine (zq_iadd hm (pc' := 461) rfl rfl rfl).trans ?_
  refine (zq_ix hm (pc' := 462) rfl rfl rfl rfl rfl).trans (zite ?_ rfl)
  refine (zJ_n rfl).trans ?_
  refine (zq_aln hm (pc' := 463) rfl rfl rfl rfl).trans ?_
  refine (zq_iln hm (pc' := 464) rfl rfl rfl rfl).trans ?_
  refine (zq_ic hm (pc' := 465) rfl rfl rfl rfl).trans ?_
  refine (zq_iadd hm (pc' := 466) rfl rfl rfl).trans ?_
  refine (zq_ix hm (pc' := 467) rfl rfl rfl rfl rfl).trans (zite ?_ rfl)
  refine (zJ_n rfl).trans ?_
  refine (zq_v1 hm (pc' := 470) rfl rfl rfl (cls_57_12) rfl rfl).trans (zCI_c rfl (fun r4 s3 => ?_))
  refine (zJ_n rfl).trans ?_
  refine (zq_ieq hm (pc' := 473) rfl rfl).trans (zite ?_ ?_)
  · refine (zJ_n rfl).trans ?_
    refine (zq_iinc hm (ls' := [some (.inl (some 1002)), some (.inl (some 0)), some (.inl (some 57)), some (.inr (.inl (zw (i + 6))))]) (pc' := 1472) rfl rfl rfl rfl rfl rfl).trans ?_
    exact (zc_goto hm rfl rfl).trans rfl
  · refine (zJ_n rfl).trans ?_
    refine (zq_ic hm (pc' := 474) rfl rfl rfl rfl).trans ?_
    exact (zq_rb hm rfl rfl).trans (zif1 (by decide))
set_option maxRecDepth 100000 in
set_option maxHeartbeats 4000000 in
theorem e_L_law_c475 (n : Nat) (xs : Nat → Int) (i : Int) (σ : zF) : C_L_law_475 n xs i σ = (
if 0 ≤ zw (i + 1) ∧ zw (i + 1) < (n : Int) then (
if 0 ≤ zw (i + 2) ∧ zw (i + 2) < (n : Int) then (
if 0 ≤ zw (i + 3) ∧ zw (i + 3) < (n : Int) then (
zCI LAY (zx 200 114 [.inl (some 0), .inr (.inl (xs (zw (i + 1) : Int).toNat)), .inr (.inl (xs (zw (i + 2) : Int).toNat)), .inr (.inl (xs (zw (i + 3) : Int).toNat))] σ) fun r2 s1 =>
if 0 ≤ zw (i + 1) ∧ zw (i + 1) < (n : Int) then (
if 0 ≤ zw (i + 2) ∧ zw (i + 2) < (n : Int) then (
if 0 ≤ zw (i + 3) ∧ zw (i + 3) < (n : Int) then (
zCI LAY (zx 200 203 [.inl (some 57), .inr (.inl (xs (zw (i + 1) : Int).toNat)), .inr (.inl (xs (zw (i + 2) : Int).toNat)), .inr (.inl (xs (zw (i + 3) : Int).toNat))] s1) fun r4 s3 =>
if r2 = r4 then (
P_L_law_18 n xs (zw (i + 6)) s3) else (
zri 0 s3)) else (
none)) else (
none)) else (
none)) else (
none)) else (
none)) else (
none)) := by
  have hm := zexec_m zX2 zMT 200
  show zrunL (zXL n xs) (zexec zX2 zMT 200) K_L_law U_L_law 475 [some (.inl (some 1002)), some (.inl (some 0)), some (.inl (some 57)), some (.inr (.inl i))] [] (LAY, σ) = _
  refine (zq_aln hm (pc' := 476) rfl rfl rfl rfl).trans ?_
  refine (zq_aln hm (pc' := 477) rfl rfl rfl rfl).trans ?_
  refine (zq_iln hm (pc' := 478) rfl rfl rfl rfl).trans ?_
  refine (zq_ic hm (pc' := 479) rfl rfl rfl rfl).trans ?_
  refine (zq_iadd hm (pc' := 480) rfl rfl rfl).trans ?_
  refine (zq_ix hm (pc' := 481) rfl rfl rfl rfl rfl).trans (zite ?_ rfl)
  refine (zJ_n rfl).trans ?_
  refine (zq_aln hm (pc' := 482) rfl rfl rfl rfl).trans ?_
  refine (zq_iln hm (pc' := 483) rfl rfl rfl rfl).trans ?_
  refine (zq_ic hm (pc' := 484) rfl rfl rfl rfl).trans ?_
  refine (zq_iadd hm (pc' := 485) rfl rfl rfl).trans ?_
  refine (zq_ix hm (pc' := 486) rfl rfl rfl rfl rfl).trans (zite ?_ rfl)
  refine (zJ_n rfl).trans ?_
  refine (zq_aln hm (pc' := 487) rfl rfl rfl rfl).trans ?_
  refine (zq_iln hm (pc' := 488) rfl rfl rfl rfl).trans ?_
  refine (zq_ic hm (pc' := 489) rfl rfl rfl rfl).trans ?_
  refine (zq_iadd hm (pc' := 490) rfl rfl rfl).trans ?_
  refine (zq_ix hm (pc' := 491) rfl rfl rfl rfl rfl).trans (zite ?_ rfl)
  refine (zJ_n rfl).trans ?_
  refine (zq_v1 hm (pc' := 494) rfl rfl rfl (cls_0_11) rfl rfl).trans (zCI_c rfl (fun r2 s1 => ?_))
  refine (zJ_n rfl).trans ?_
  refine (zq_aln hm (pc' := 495) rfl rfl rfl rfl).trans ?_
  refine (zq_aln hm (pc' := 496) rfl rfl rfl rfl).trans ?_
  refine (zq_iln hm (pc' := 497) rfl rfl rfl rfl).trans ?_
  refine (zq_ic hm (pc' := 498) rfl rfl rfl rfl).trans ?_
  refine (zq_iadd hm (pc' := 499) rfl rfl rfl).trans ?_
  refine (zq_ix hm (pc' := 500) rfl rfl rfl rfl rfl).trans (zite ?_ rfl)
  refine (zJ_n rfl).trans ?_
  refine (zq_aln hm (pc' := 501) rfl rfl rfl rfl).trans ?_
  refine (zq_iln hm (pc' := 502) rfl rfl rfl rfl).trans ?_
  refine (zq_ic hm (pc' := 503) rfl rfl rfl rfl).trans ?_
  refine (zq_iadd hm (pc' := 504) rfl rfl rfl).trans ?_
  refine (zq_ix hm (pc' := 505) rfl rfl rfl rfl rfl).trans (zite ?_ rfl)
  refine (zJ_n rfl).trans ?_
  refine (zq_aln hm (pc' := 506) rfl rfl rfl rfl).trans ?_
  refine (zq_iln hm (pc' := 507) rfl rfl rfl rfl).trans ?_
  refine (zq_ic hm (pc' := 508) rfl rfl rfl rfl).trans ?_
  refine (zq_iadd hm (pc' := 509) rfl rfl rfl).trans ?_
  refine (zq_ix hm (pc' := 510) rfl rfl rfl rfl rfl).trans (zite ?_ rfl)
  refine (zJ_n rfl).trans ?_
  refine (zq_v1 hm (pc' := 513) rfl rfl rfl (cls_57_12) rfl rfl).trans (zCI_c rfl (fun r4 s3 => ?_))
  refine (zJ_n rfl).trans ?_
  refine (zq_ieq hm (pc' := 516) rfl rfl).trans (zite ?_ ?_)
  · refine (zJ_n rfl).trans ?_
    refine (zq_iinc hm (ls' := [some (.inl (some 1002)), some (.inl (some 0)), some (.inl (some 57)), some (.inr (.inl (zw (i + 6))))]) (pc' := 1472) rfl rfl rfl rfl rfl rfl).trans ?_
    exact (zc_goto hm rfl rfl).trans rfl
  · refine (zJ_n rfl).trans ?_
    refine (zq_ic hm (pc' := 517) rfl rfl rfl rfl).trans ?_
    exact (zq_rb hm rfl rfl).trans (zif1 (by decide))
set_option maxRecDepth 100000 in
set_option maxHeartbeats 4000000 in
theorem e_L_law_c518 (n : Nat) (xs : Nat → Int) (i : Int) (σ : zF) : C_L_law_518 n xs i σ = (
if 0 ≤ zw (i + 1) ∧ zw (i + 1) < (n : Int) then (
zCI LAY (zx 200 115 [.inl (some 0), .inr (.inl (xs (zw (i + 1) : Int).toNat))] σ) fun r2 s1 =>
if 0 ≤ zw (i + 1) ∧ zw (i + 1) < (n : Int) then (
zCI LAY (zx 200 205 [.inl (some 57), .inr (.inl (xs (zw (i + 1) : Int).toNat))] s1) fun r4 s3 =>
if r2 = r4 then (
P_L_law_18 n xs (zw (i + 6)) s3) else (
zri 0 s3)) else (
none)) else (
none)) := by
  have hm := zexec_m zX2 zMT 200
  show zrunL (zXL n xs) (zexec zX2 zMT 200) K_L_law U_L_law 518 [some (.inl (some 1002)), some (.inl (some 0)), some (.inl (some 57)), some (.inr (.inl i))] [] (LAY, σ) = _
  refine (zq_aln hm (pc' := 519) rfl rfl rfl rfl).trans ?_
  refine (zq_aln hm (pc' := 520) rfl rfl rfl rfl).trans ?_
  refine (zq_iln hm (pc' := 521) rfl rfl rfl rfl).trans ?_
  refine (zq_ic hm (pc' := 522) rfl rfl rfl rfl).trans ?_
  refine (zq_iadd hm (pc' := 523) rfl rfl rfl).trans ?_
  refine (zq_ix hm (pc' := 524) rfl rfl rfl rfl rfl).trans (zite ?_ rfl)
  refine (zJ_n rfl).trans ?_
  refine (zq_v1 hm (pc' := 527) rfl rfl rfl (cls_0_11) rfl rfl).trans (zCI_c rfl (fun r2 s1 => ?_))
  refine (zJ_n rfl).trans ?_
  refine (zq_aln hm (pc' := 528) rfl rfl rfl rfl).trans ?_
  refine (zq_aln hm (pc' := 529) rfl rfl rfl rfl).trans ?_
  refine (zq_iln hm (pc' := 530) rfl rfl rfl rfl).trans ?_
  refine (zq_ic hm (pc' := 531) rfl rfl rfl rfl).trans ?_
  refine (zq_iadd hm (pc' := 532) rfl rfl rfl).trans ?_
  refine (zq_ix hm (pc' := 533) rfl rfl rfl rfl rfl).trans (zite ?_ rfl)
  refine (zJ_n rfl).trans ?_
  refine (zq_v1 hm (pc' := 536) rfl rfl rfl (cls_57_12) rfl rfl).trans (zCI_c rfl (fun r4 s3 => ?_))
  refine (zJ_n rfl).trans ?_
  refine (zq_ieq hm (pc' := 539) rfl rfl).trans (zite ?_ ?_)
  · refine (zJ_n rfl).trans ?_
    refine (zq_iinc hm (ls' := [some (.inl (some 1002)), some (.inl (some 0)), some (.inl (some 57)), some (.inr (.inl (zw (i + 6))))]) (pc' := 1472) rfl rfl rfl rfl rfl rfl).trans ?_
    exact (zc_goto hm rfl rfl).trans rfl
  · refine (zJ_n rfl).trans ?_
    refine (zq_ic hm (pc' := 540) rfl rfl rfl rfl).trans ?_
    exact (zq_rb hm rfl rfl).trans (zif1 (by decide))
set_option maxRecDepth 100000 in
set_option maxHeartbeats 4000000 in
theorem e_L_law_c541 (n : Nat) (xs : Nat → Int) (i : Int) (σ : zF) : C_L_law_541 n xs i σ = (
if 0 ≤ zw (i + 1) ∧ zw (i + 1) < (n : Int) then (
if 0 ≤ zw (i + 2) ∧ zw (i + 2) < (n : Int) then (
zCI LAY (zx 200 116 [.inl (some 0), .inr (.inl (xs (zw (i + 1) : Int).toNat)), .inr (.inl (xs (zw (i + 2) : Int).toNat))] σ) fun r2 s1 =>
if 0 ≤ zw (i + 1) ∧ zw (i + 1) < (n : Int) then (
if 0 ≤ zw (i + 2) ∧ zw (i + 2) < (n : Int) then (
zCI LAY (zx 200 206 [.inl (some 57), .inr (.inl (xs (zw (i + 1) : Int).toNat)), .inr (.inl (xs (zw (i + 2) : Int).toNat))] s1) fun r4 s3 =>
if r2 = r4 then (
P_L_law_18 n xs (zw (i + 6)) s3) else (
zri 0 s3)) else (
none)) else (
none)) else (
none)) else (
none)) := by
  have hm := zexec_m zX2 zMT 200
  show zrunL (zXL n xs) (zexec zX2 zMT 200) K_L_law U_L_law 541 [some (.inl (some 1002)), some (.inl (some 0)), some (.inl (some 57)), some (.inr (.inl i))] [] (LAY, σ) = _
  refine (zq_aln hm (pc' := 542) rfl rfl rfl rfl).trans ?_
  refine (zq_aln hm (pc' := 543) rfl rfl rfl rfl).trans ?_
  refine (zq_iln hm (pc' := 544) rfl rfl rfl rfl).trans ?_
  refine (zq_ic hm (pc' := 545) rfl rfl rfl rfl).trans ?_
  refine (zq_iadd hm (pc' := 546) rfl rfl rfl).trans ?_
  refine (zq_ix hm (pc' := 547) rfl rfl rfl rfl rfl).trans (zite ?_ rfl)
  refine (zJ_n rfl).trans ?_
  refine (zq_aln hm (pc' := 548) rfl rfl rfl rfl).trans ?_
  refine (zq_iln hm (pc' := 549) rfl rfl rfl rfl).trans ?_
  refine (zq_ic hm (pc' := 550) rfl rfl rfl rfl).trans ?_
  refine (zq_iadd hm (pc' := 551) rfl rfl rfl).trans ?_
  refine (zq_ix hm (pc' := 552) rfl rfl rfl rfl rfl).trans (zite ?_ rfl)
  refine (zJ_n rfl).trans ?_
  refine (zq_v1 hm (pc' := 555) rfl rfl rfl (cls_0_11) rfl rfl).trans (zCI_c rfl (fun r2 s1 => ?_))
  refine (zJ_n rfl).trans ?_
  refine (zq_aln hm (pc' := 556) rfl rfl rfl rfl).trans ?_
  refine (zq_aln hm (pc' := 557) rfl rfl rfl rfl).trans ?_
  refine (zq_iln hm (pc' := 558) rfl rfl rfl rfl).trans ?_
  refine (zq_ic hm (pc' := 559) rfl rfl rfl rfl).trans ?_
  refine (zq_iadd hm (pc' := 560) rfl rfl rfl).trans ?_
  refine (zq_ix hm (pc' := 561) rfl rfl rfl rfl rfl).trans (zite ?_ rfl)
  refine (zJ_n rfl).trans ?_
  refine (zq_aln hm (pc' := 562) rfl rfl rfl rfl).trans ?_
  refine (zq_iln hm (pc' := 563) rfl rfl rfl rfl).trans ?_
  refine (zq_ic hm (pc' := 564) rfl rfl rfl rfl).trans ?_
  refine (zq_iadd hm (pc' := 565) rfl rfl rfl).trans ?_
  refine (zq_ix hm (pc' := 566) rfl rfl rfl rfl rfl).trans (zite ?_ rfl)
  refine (zJ_n rfl).trans ?_
  refine (zq_v1 hm (pc' := 569) rfl rfl rfl (cls_57_12) rfl rfl).trans (zCI_c rfl (fun r4 s3 => ?_))
  refine (zJ_n rfl).trans ?_
  refine (zq_ieq hm (pc' := 572) rfl rfl).trans (zite ?_ ?_)
  · refine (zJ_n rfl).trans ?_
    refine (zq_iinc hm (ls' := [some (.inl (some 1002)), some (.inl (some 0)), some (.inl (some 57)), some (.inr (.inl (zw (i + 6))))]) (pc' := 1472) rfl rfl rfl rfl rfl rfl).trans ?_
    exact (zc_goto hm rfl rfl).trans rfl
  · refine (zJ_n rfl).trans ?_
    refine (zq_ic hm (pc' := 573) rfl rfl rfl rfl).trans ?_
    exact (zq_rb hm rfl rfl).trans (zif1 (by decide))
set_option maxRecDepth 100000 in
set_option maxHeartbeats 4000000 in
theorem e_L_law_c574 (n : Nat) (xs : Nat → Int) (i : Int) (σ : zF) : C_L_law_574 n xs i σ = (
if 0 ≤ zw (i + 1) ∧ zw (i + 1) < (n : Int) then (
if 0 ≤ zw (i + 2) ∧ zw (i + 2) < (n : Int) then (
if 0 ≤ zw (i + 3) ∧ zw (i + 3) < (n : Int) then (
zCI LAY (zx 200 117 [.inl (some 0), .inr (.inl (xs (zw (i + 1) : Int).toNat)), .inr (.inl (xs (zw (i + 2) : Int).toNat)), .inr (.inl (xs (zw (i + 3) : Int).toNat))] σ) fun r2 s1 =>
if 0 ≤ zw (i + 1) ∧ zw (i + 1) < (n : Int) then (
if 0 ≤ zw (i + 2) ∧ zw (i + 2) < (n : Int) then (
if 0 ≤ zw (i + 3) ∧ zw (i + 3) < (n : Int) then (
zCI LAY (zx 200 208 [.inl (some 57), .inr (.inl (xs (zw (i + 1) : Int).toNat)), .inr (.inl (xs (zw (i + 2) : Int).toNat)), .inr (.inl (xs (zw (i + 3) : Int).toNat))] s1) fun r4 s3 =>
if r2 = r4 then (
P_L_law_18 n xs (zw (i + 6)) s3) else (
zri 0 s3)) else (
none)) else (
none)) else (
none)) else (
none)) else (
none)) else (
none)) := by
  have hm := zexec_m zX2 zMT 200
  show zrunL (zXL n xs) (zexec zX2 zMT 200) K_L_law U_L_law 574 [some (.inl (some 1002)), some (.inl (some 0)), some (.inl (some 57)), some (.inr (.inl i))] [] (LAY, σ) = _
  refine (zq_aln hm (pc' := 575) rfl rfl rfl rfl).trans ?_
  refine (zq_aln hm (pc' := 576) rfl rfl rfl rfl).trans ?_
  refine (zq_iln hm (pc' := 577) rfl rfl rfl rfl).trans ?_
  refine (zq_ic hm (pc' := 578) rfl rfl rfl rfl).trans ?_
  refine (zq_iadd hm (pc' := 579) rfl rfl rfl).trans ?_
  refine (zq_ix hm (pc' := 580) rfl rfl rfl rfl rfl).trans (zite ?_ rfl)
  refine (zJ_n rfl).trans ?_
  refine (zq_aln hm (pc' := 581) rfl rfl rfl rfl).trans ?_
  refine (zq_iln hm (pc' := 582) rfl rfl rfl rfl).trans ?_
  refine (zq_ic hm (pc' := 583) rfl rfl rfl rfl).trans ?_
  refine (zq_iadd hm (pc' := 584) rfl rfl rfl).trans ?_
  refine (zq_ix hm (pc' := 585) rfl rfl rfl rfl rfl).trans (zite ?_ rfl)
  refine (zJ_n rfl).trans ?_
  refine (zq_aln hm (pc' := 586) rfl rfl rfl rfl).trans ?_
  refine (zq_iln hm (pc' := 587) rfl rfl rfl rfl).trans ?_
  refine (zq_ic hm (pc' := 588) rfl rfl rfl rfl).trans ?_
  refine (zq_iadd hm (pc' := 589) rfl rfl rfl).trans ?_
  refine (zq_ix hm (pc' := 590) rfl rfl rfl rfl rfl).trans (zite ?_ rfl)
  refine (zJ_n rfl).trans ?_
  refine (zq_v1 hm (pc' := 593) rfl rfl rfl (cls_0_11) rfl rfl).trans (zCI_c rfl (fun r2 s1 => ?_))
  refine (zJ_n rfl).trans ?_
  refine (zq_aln hm (pc' := 594) rfl rfl rfl rfl).trans ?_
  refine (zq_aln hm (pc' := 595) rfl rfl rfl rfl).trans ?_
  refine (zq_iln hm (pc' := 596) rfl rfl rfl rfl).trans ?_
  refine (zq_ic hm (pc' := 597) rfl rfl rfl rfl).trans ?_
  refine (zq_iadd hm (pc' := 598) rfl rfl rfl).trans ?_
  refine (zq_ix hm (pc' := 599) rfl rfl rfl rfl rfl).trans (zite ?_ rfl)
  refine (zJ_n rfl).trans ?_
  refine (zq_aln hm (pc' := 600) rfl rfl rfl rfl).trans ?_
  refine (zq_iln hm (pc' := 601) rfl rfl rfl rfl).trans ?_
  refine (zq_ic hm (pc' := 602) rfl rfl rfl rfl).trans ?_
  refine (zq_iadd hm (pc' := 603) rfl rfl rfl).trans ?_
  refine (zq_ix hm (pc' := 604) rfl rfl rfl rfl rfl).trans (zite ?_ rfl)
  refine (zJ_n rfl).trans ?_
  refine (zq_aln hm (pc' := 605) rfl rfl rfl rfl).trans ?_
  refine (zq_iln hm (pc' := 606) rfl rfl rfl rfl).trans ?_
  refine (zq_ic hm (pc' := 607) rfl rfl rfl rfl).trans ?_
  refine (zq_iadd hm (pc' := 608) rfl rfl rfl).trans ?_
  refine (zq_ix hm (pc' := 609) rfl rfl rfl rfl rfl).trans (zite ?_ rfl)
  refine (zJ_n rfl).trans ?_
  refine (zq_v1 hm (pc' := 612) rfl rfl rfl (cls_57_12) rfl rfl).trans (zCI_c rfl (fun r4 s3 => ?_))
  refine (zJ_n rfl).trans ?_
  refine (zq_ieq hm (pc' := 615) rfl rfl).trans (zite ?_ ?_)
  · refine (zJ_n rfl).trans ?_
    refine (zq_iinc hm (ls' := [some (.inl (some 1002)), some (.inl (some 0)), some (.inl (some 57)), some (.inr (.inl (zw (i + 6))))]) (pc' := 1472) rfl rfl rfl rfl rfl rfl).trans ?_
    exact (zc_goto hm rfl rfl).trans rfl
  · refine (zJ_n rfl).trans ?_
    refine (zq_ic hm (pc' := 616) rfl rfl rfl rfl).trans ?_
    exact (zq_rb hm rfl rfl).trans (zif1 (by decide))
set_option maxRecDepth 100000 in
set_option maxHeartbeats 4000000 in
theorem e_L_law_c617 (n : Nat) (xs : Nat → Int) (i : Int) (σ : zF) : C_L_law_617 n xs i σ = (
if 0 ≤ zw (i + 1) ∧ zw (i + 1) < (n : Int) then (
if 0 ≤ zw (i + 2) ∧ zw (i + 2) < (n : Int) then (
if 0 ≤ zw (i + 3) ∧ zw (i + 3) < (n : Int) then (
zCI LAY (zx 200 119 [.inl (some 0), .inr (.inl (xs (zw (i + 1) : Int).toNat)), .inr (.inl (xs (zw (i + 2) : Int).toNat)), .inr (.inl (xs (zw (i + 3) : Int).toNat))] σ) fun r2 s1 =>
if 0 ≤ zw (i + 1) ∧ zw (i + 1) < (n : Int) then (
if 0 ≤ zw (i + 2) ∧ zw (i + 2) < (n : Int) then (
if 0 ≤ zw (i + 3) ∧ zw (i + 3) < (n : Int) then (
zCI LAY (zx 200 210 [.inl (some 57), .inr (.inl (xs (zw (i + 1) : Int).toNat)), .inr (.inl (xs (zw (i + 2) : Int).toNat)), .inr (.inl (xs (zw (i + 3) : Int).toNat))] s1) fun r4 s3 =>
if r2 = r4 then (
P_L_law_18 n xs (zw (i + 6)) s3) else (
zri 0 s3)) else (
none)) else (
none)) else (
none)) else (
none)) else (
none)) else (
none)) := by
  have hm := zexec_m zX2 zMT 200
  show zrunL (zXL n xs) (zexec zX2 zMT 200) K_L_law U_L_law 617 [some (.inl (some 1002)), some (.inl (some 0)), some (.inl (some 57)), some (.inr (.inl i))] [] (LAY, σ) = _
  refine (zq_aln hm (pc' := 618) rfl rfl rfl rfl).trans ?_
  refine (zq_aln hm (pc' := 619) rfl rfl rfl rfl).trans ?_
  refine (zq_iln hm (pc' := 620) rfl rfl rfl rfl).trans ?_
  refine (zq_ic hm (pc' := 621) rfl rfl rfl rfl).trans ?_
  refine (zq_iadd hm (pc' := 622) rfl rfl rfl).trans ?_
  refine (zq_ix hm (pc' := 623) rfl rfl rfl rfl rfl).trans (zite ?_ rfl)
  refine (zJ_n rfl).trans ?_
  refine (zq_aln hm (pc' := 624) rfl rfl rfl rfl).trans ?_
  refine (zq_iln hm (pc' := 625) rfl rfl rfl rfl).trans ?_
  refine (zq_ic hm (pc' := 626) rfl rfl rfl rfl).trans ?_
  refine (zq_iadd hm (pc' := 627) rfl rfl rfl).trans ?_
  refine (zq_ix hm (pc' := 628) rfl rfl rfl rfl rfl).trans (zite ?_ rfl)
  refine (zJ_n rfl).trans ?_
  refine (zq_aln hm (pc' := 629) rfl rfl rfl rfl).trans ?_
  refine (zq_iln hm (pc' := 630) rfl rfl rfl rfl).trans ?_
  refine (zq_ic hm (pc' := 631) rfl rfl rfl rfl).trans ?_
  refine (zq_iadd hm (pc' := 632) rfl rfl rfl).trans ?_
  refine (zq_ix hm (pc' := 633) rfl rfl rfl rfl rfl).trans (zite ?_ rfl)
  refine (zJ_n rfl).trans ?_
  refine (zq_v1 hm (pc' := 636) rfl rfl rfl (cls_0_11) rfl rfl).trans (zCI_c rfl (fun r2 s1 => ?_))
  refine (zJ_n rfl).trans ?_
  refine (zq_aln hm (pc' := 637) rfl rfl rfl rfl).trans ?_
  refine (zq_aln hm (pc' := 638) rfl rfl rfl rfl).trans ?_
  refine (zq_iln hm (pc' := 639) rfl rfl rfl rfl).trans ?_
  refine (zq_ic hm (pc' := 640) rfl rfl rfl rfl).trans ?_
  refine (zq_iadd hm (pc' := 641) rfl rfl rfl).trans ?_
  refine (zq_ix hm (pc' := 642) rfl rfl rfl rfl rfl).trans (zite ?_ rfl)
  refine (zJ_n rfl).trans ?_
  refine (zq_aln hm (pc' := 643) rfl rfl rfl rfl).trans ?_
  refine (zq_iln hm (pc' := 644) rfl rfl rfl rfl).trans ?_
  refine (zq_ic hm (pc' := 645) rfl rfl rfl rfl).trans ?_
  refine (zq_iadd hm (pc' := 646) rfl rfl rfl).trans ?_
  refine (zq_ix hm (pc' := 647) rfl rfl rfl rfl rfl).trans (zite ?_ rfl)
  refine (zJ_n rfl).trans ?_
  refine (zq_aln hm (pc' := 648) rfl rfl rfl rfl).trans ?_
  refine (zq_iln hm (pc' := 649) rfl rfl rfl rfl).trans ?_
  refine (zq_ic hm (pc' := 650) rfl rfl rfl rfl).trans ?_
  refine (zq_iadd hm (pc' := 651) rfl rfl rfl).trans ?_
  refine (zq_ix hm (pc' := 652) rfl rfl rfl rfl rfl).trans (zite ?_ rfl)
  refine (zJ_n rfl).trans ?_
  refine (zq_v1 hm (pc' := 655) rfl rfl rfl (cls_57_12) rfl rfl).trans (zCI_c rfl (fun r4 s3 => ?_))
  refine (zJ_n rfl).trans ?_
  refine (zq_ieq hm (pc' := 658) rfl rfl).trans (zite ?_ ?_)
  · refine (zJ_n rfl).trans ?_
    refine (zq_iinc hm (ls' := [some (.inl (some 1002)), some (.inl (some 0)), some (.inl (some 57)), some (.inr (.inl (zw (i + 6))))]) (pc' := 1472) rfl rfl rfl rfl rfl rfl).trans ?_
    exact (zc_goto hm rfl rfl).trans rfl
  · refine (zJ_n rfl).trans ?_
    refine (zq_ic hm (pc' := 659) rfl rfl rfl rfl).trans ?_
    exact (zq_rb hm rfl rfl).trans (zif1 (by decide))
set_option maxRecDepth 100000 in
set_option maxHeartbeats 4000000 in
theorem e_L_law_c660 (n : Nat) (xs : Nat → Int) (i : Int) (σ : zF) : C_L_law_660 n xs i σ = (
if 0 ≤ zw (i + 1) ∧ zw (i + 1) < (n : Int) then (
if 0 ≤ zw (i + 2) ∧ zw (i + 2) < (n : Int) then (
if 0 ≤ zw (i + 3) ∧ zw (i + 3) < (n : Int) then (
zCI LAY (zx 200 120 [.inl (some 0), .inr (.inl (xs (zw (i + 1) : Int).toNat)), .inr (.inl (xs (zw (i + 2) : Int).toNat)), .inr (.inl (xs (zw (i + 3) : Int).toNat))] σ) fun r2 s1 =>
if 0 ≤ zw (i + 1) ∧ zw (i + 1) < (n : Int) then (
if 0 ≤ zw (i + 2) ∧ zw (i + 2) < (n : Int) then (
if 0 ≤ zw (i + 3) ∧ zw (i + 3) < (n : Int) then (
zCI LAY (zx 200 212 [.inl (some 57), .inr (.inl (xs (zw (i + 1) : Int).toNat)), .inr (.inl (xs (zw (i + 2) : Int).toNat)), .inr (.inl (xs (zw (i + 3) : Int).toNat))] s1) fun r4 s3 =>
if r2 = r4 then (
P_L_law_18 n xs (zw (i + 6)) s3) else (
zri 0 s3)) else (
none)) else (
none)) else (
none)) else (
none)) else (
none)) else (
none)) := by
  have hm := zexec_m zX2 zMT 200
  show zrunL (zXL n xs) (zexec zX2 zMT 200) K_L_law U_L_law 660 [some (.inl (some 1002)), some (.inl (some 0)), some (.inl (some 57)), some (.inr (.inl i))] [] (LAY, σ) = _
  refine (zq_aln hm (pc' := 661) rfl rfl rfl rfl).trans ?_
  refine (zq_aln hm (pc' := 662) rfl rfl rfl rfl).trans ?_
  refine (zq_iln hm (pc' := 663) rfl rfl rfl rfl).trans ?_
  refine (zq_ic hm (pc' := 664) rfl rfl rfl rfl).trans ?_
  refine (zq_iadd hm (pc' := 665) rfl rfl rfl).trans ?_
  refine (zq_ix hm (pc' := 666) rfl rfl rfl rfl rfl).trans (zite ?_ rfl)
  refine (zJ_n rfl).trans ?_
  refine (zq_aln hm (pc' := 667) rfl rfl rfl rfl).trans ?_
  refine (zq_iln hm (pc' := 668) rfl rfl rfl rfl).trans ?_
  refine (zq_ic hm (pc' := 669) rfl rfl rfl rfl).trans ?_
  refine (zq_iadd hm (pc' := 670) rfl rfl rfl).trans ?_
  refine (zq_ix hm (pc' := 671) rfl rfl rfl rfl rfl).trans (zite ?_ rfl)
  refine (zJ_n rfl).trans ?_
  refine (zq_aln hm (pc' := 672) rfl rfl rfl rfl).trans ?_
  refine (zq_iln hm (pc' := 673) rfl rfl rfl rfl).trans ?_
  refine (zq_ic hm (pc' := 674) rfl rfl rfl rfl).trans ?_
  refine (zq_iadd hm (pc' := 675) rfl rfl rfl).trans ?_
  refine (zq_ix hm (pc' := 676) rfl rfl rfl rfl rfl).trans (zite ?_ rfl)
  refine (zJ_n rfl).trans ?_
  refine (zq_v1 hm (pc' := 679) rfl rfl rfl (cls_0_11) rfl rfl).trans (zCI_c rfl (fun r2 s1 => ?_))
  refine (zJ_n rfl).trans ?_
  refine (zq_aln hm (pc' := 680) rfl rfl rfl rfl).trans ?_
  refine (zq_aln hm (pc' := 681) rfl rfl rfl rfl).trans ?_
  refine (zq_iln hm (pc' := 682) rfl rfl rfl rfl).trans ?_
  refine (zq_ic hm (pc' := 683) rfl rfl rfl rfl).trans ?_
  refine (zq_iadd hm (pc' := 684) rfl rfl rfl).trans ?_
  refine (zq_ix hm (pc' := 685) rfl rfl rfl rfl rfl).trans (zite ?_ rfl)
  refine (zJ_n rfl).trans ?_
  refine (zq_aln hm (pc' := 686) rfl rfl rfl rfl).trans ?_
  refine (zq_iln hm (pc' := 687) rfl rfl rfl rfl).trans ?_
  refine (zq_ic hm (pc' := 688) rfl rfl rfl rfl).trans ?_
  refine (zq_iadd hm (pc' := 689) rfl rfl rfl).trans ?_
  refine (zq_ix hm (pc' := 690) rfl rfl rfl rfl rfl).trans (zite ?_ rfl)
  refine (zJ_n rfl).trans ?_
  refine (zq_aln hm (pc' := 691) rfl rfl rfl rfl).trans ?_
  refine (zq_iln hm (pc' := 692) rfl rfl rfl rfl).trans ?_
  refine (zq_ic hm (pc' := 693) rfl rfl rfl rfl).trans ?_
  refine (zq_iadd hm (pc' := 694) rfl rfl rfl).trans ?_
  refine (zq_ix hm (pc' := 695) rfl rfl rfl rfl rfl).trans (zite ?_ rfl)
  refine (zJ_n rfl).trans ?_
  refine (zq_v1 hm (pc' := 698) rfl rfl rfl (cls_57_12) rfl rfl).trans (zCI_c rfl (fun r4 s3 => ?_))
  refine (zJ_n rfl).trans ?_
  refine (zq_ieq hm (pc' := 701) rfl rfl).trans (zite ?_ ?_)
  · refine (zJ_n rfl).trans ?_
    refine (zq_iinc hm (ls' := [some (.inl (some 1002)), some (.inl (some 0)), some (.inl (some 57)), some (.inr (.inl (zw (i + 6))))]) (pc' := 1472) rfl rfl rfl rfl rfl rfl).trans ?_
    exact (zc_goto hm rfl rfl).trans rfl
  · refine (zJ_n rfl).trans ?_
    refine (zq_ic hm (pc' := 702) rfl rfl rfl rfl).trans ?_
    exact (zq_rb hm rfl rfl).trans (zif1 (by decide))
set_option maxRecDepth 100000 in
set_option maxHeartbeats 4000000 in
theorem e_L_law_c703 (n : Nat) (xs : Nat → Int) (i : Int) (σ : zF) : C_L_law_703 n xs i σ = (
if 0 ≤ zw (i + 1) ∧ zw (i + 1) < (n : Int) then (
zCI LAY (zx 200 121 [.inl (some 0), .inr (.inl (xs (zw (i + 1) : Int).toNat))] σ) fun r2 s1 =>
if 0 ≤ zw (i + 1) ∧ zw (i + 1) < (n : Int) then (
zCI LAY (zx 200 213 [.inl (some 57), .inr (.inl (xs (zw (i + 1) : Int).toNat))] s1) fun r4 s3 =>
if r2 = r4 then (
P_L_law_18 n xs (zw (i + 6)) s3) else (
zri 0 s3)) else (
none)) else (
none)) := by
  have hm := zexec_m zX2 zMT 200
  show zrunL (zXL n xs) (zexec zX2 zMT 200) K_L_law U_L_law 703 [some (.inl (some 1002)), some (.inl (some 0)), some (.inl (some 57)), some (.inr (.inl i))] [] (LAY, σ) = _
  refine (zq_aln hm (pc' := 704) rfl rfl rfl rfl).trans ?_
  refine (zq_aln hm (pc' := 705) rfl rfl rfl rfl).trans ?_
  refine (zq_iln hm (pc' := 706) rfl rfl rfl rfl).trans ?_
  refine (zq_ic hm (pc' := 707) rfl rfl rfl rfl).trans ?_
  refine (zq_iadd hm (pc' := 708) rfl rfl rfl).trans ?_
  refine (zq_ix hm (pc' := 709) rfl rfl rfl rfl rfl).trans (zite ?_ rfl)
  refine (zJ_n rfl).trans ?_
  refine (zq_v1 hm (pc' := 712) rfl rfl rfl (cls_0_11) rfl rfl).trans (zCI_c rfl (fun r2 s1 => ?_))
  refine (zJ_n rfl).trans ?_
  refine (zq_aln hm (pc' := 713) rfl rfl rfl rfl).trans ?_
  refine (zq_aln hm (pc' := 714) rfl rfl rfl rfl).trans ?_
  refine (zq_iln hm (pc' := 715) rfl rfl rfl rfl).trans ?_
  refine (zq_ic hm (pc' := 716) rfl rfl rfl rfl).trans ?_
  refine (zq_iadd hm (pc' := 717) rfl rfl rfl).trans ?_
  refine (zq_ix hm (pc' := 718) rfl rfl rfl rfl rfl).trans (zite ?_ rfl)
  refine (zJ_n rfl).trans ?_
  refine (zq_v1 hm (pc' := 721) rfl rfl rfl (cls_57_12) rfl rfl).trans (zCI_c rfl (fun r4 s3 => ?_))
  refine (zJ_n rfl).trans ?_
  refine (zq_ieq hm (pc' := 724) rfl rfl).trans (zite ?_ ?_)
  · refine (zJ_n rfl).trans ?_
    refine (zq_iinc hm (ls' := [some (.inl (some 1002)), some (.inl (some 0)), some (.inl (some 57)), some (.inr (.inl (zw (i + 6))))]) (pc' := 1472) rfl rfl rfl rfl rfl rfl).trans ?_
    exact (zc_goto hm rfl rfl).trans rfl
  · refine (zJ_n rfl).trans ?_
    refine (zq_ic hm (pc' := 725) rfl rfl rfl rfl).trans ?_
    exact (zq_rb hm rfl rfl).trans (zif1 (by decide))
set_option maxRecDepth 100000 in
set_option maxHeartbeats 4000000 in
theorem e_L_law_c726 (n : Nat) (xs : Nat → Int) (i : Int) (σ : zF) : C_L_law_726 n xs i σ = (
if 0 ≤ zw (i + 1) ∧ zw (i + 1) < (n : Int) then (
zCI LAY (zx 200 122 [.inl (some 0), .inr (.inl (xs (zw (i + 1) : Int).toNat))] σ) fun r2 s1 =>
if 0 ≤ zw (i + 1) ∧ zw (i + 1) < (n : Int) then (
zCI LAY (zx 200 214 [.inl (some 57), .inr (.inl (xs (zw (i + 1) : Int).toNat))] s1) fun r4 s3 =>
if r2 = r4 then (
P_L_law_18 n xs (zw (i + 6)) s3) else (
zri 0 s3)) else (
none)) else (
none)) := by
  have hm := zexec_m zX2 zMT 200
  show zrunL (zXL n xs) (zexec zX2 zMT 200) K_L_law U_L_law 726 [some (.inl (some 1002)), some (.inl (some 0)), some (.inl (some 57)), some (.inr (.inl i))] [] (LAY, σ) = _
  refine (zq_aln hm (pc' := 727) rfl rfl rfl rfl).trans ?_
  refine (zq_aln hm (pc' := 728) rfl rfl rfl rfl).trans ?_
  refine (zq_iln hm (pc' := 729) rfl rfl rfl rfl).trans ?_
  refine (zq_ic hm (pc' := 730) rfl rfl rfl rfl).trans ?_
  refine (zq_iadd hm (pc' := 731) rfl rfl rfl).trans ?_
  refine (zq_ix hm (pc' := 732) rfl rfl rfl rfl rfl).trans (zite ?_ rfl)
  refine (zJ_n rfl).trans ?_
  refine (zq_v1 hm (pc' := 735) rfl rfl rfl (cls_0_11) rfl rfl).trans (zCI_c rfl (fun r2 s1 => ?_))
  refine (zJ_n rfl).trans ?_
  refine (zq_aln hm (pc' := 736) rfl rfl rfl rfl).trans ?_
  refine (zq_aln hm (pc' := 737) rfl rfl rfl rfl).trans ?_
  refine (zq_iln hm (pc' := 738) rfl rfl rfl rfl).trans ?_
  refine (zq_ic hm (pc' := 739) rfl rfl rfl rfl).trans ?_
  refine (zq_iadd hm (pc' := 740) rfl rfl rfl).trans ?_
  refine (zq_ix hm (pc' := 741) rfl rfl rfl rfl rfl).trans (zite ?_ rfl)
  refine (zJ_n rfl).trans ?_
  refine (zq_v1 hm (pc' := 744) rfl rfl rfl (cls_57_12) rfl rfl).trans (zCI_c rfl (fun r4 s3 => ?_))
  refine (zJ_n rfl).trans ?_
  refine (zq_ieq hm (pc' := 747) rfl rfl).trans (zite ?_ ?_)
  · refine (zJ_n rfl).trans ?_
    refine (zq_iinc hm (ls' := [some (.inl (some 1002)), some (.inl (some 0)), some (.inl (some 57)), some (.inr (.inl (zw (i + 6))))]) (pc' := 1472) rfl rfl rfl rfl rfl rfl).trans ?_
    exact (zc_goto hm rfl rfl).trans rfl
  · refine (zJ_n rfl).trans ?_
    refine (zq_ic hm (pc' := 748) rfl rfl rfl rfl).trans ?_
    exact (zq_rb hm rfl rfl).trans (zif1 (by decide))
set_option maxRecDepth 100000 in
set_option maxHeartbeats 4000000 in
theorem e_L_law_c749 (n : Nat) (xs : Nat → Int) (i : Int) (σ : zF) : C_L_law_749 n xs i σ = (
if 0 ≤ zw (i + 1) ∧ zw (i + 1) < (n : Int) then (
zCI LAY (zx 200 123 [.inl (some 0), .inr (.inl (xs (zw (i + 1) : Int).toNat))] σ) fun r2 s1 =>
if 0 ≤ zw (i + 1) ∧ zw (i + 1) < (n : Int) then (
zCI LAY (zx 200 216 [.inl (some 57), .inr (.inl (xs (zw (i + 1) : Int).toNat))] s1) fun r4 s3 =>
if r2 = r4 then (
P_L_law_18 n xs (zw (i + 6)) s3) else (
zri 0 s3)) else (
none)) else (
none)) := by
  have hm := zexec_m zX2 zMT 200
  show zrunL (zXL n xs) (zexec zX2 zMT 200) K_L_law U_L_law 749 [some (.inl (some 1002)), some (.inl (some 0)), some (.inl (some 57)), some (.inr (.inl i))] [] (LAY, σ) = _
  refine (zq_aln hm (pc' := 750) rfl rfl rfl rfl).trans ?_
  refine (zq_aln hm (pc' := 751) rfl rfl rfl rfl).trans ?_
  refine (zq_iln hm (pc' := 752) rfl rfl rfl rfl).trans ?_
  refine (zq_ic hm (pc' := 753) rfl rfl rfl rfl).trans ?_
  refine (zq_iadd hm (pc' := 754) rfl rfl rfl).trans ?_
  refine (zq_ix hm (pc' := 755) rfl rfl rfl rfl rfl).trans (zite ?_ rfl)
  refine (zJ_n rfl).trans ?_
  refine (zq_v1 hm (pc' := 758) rfl rfl rfl (cls_0_11) rfl rfl).trans (zCI_c rfl (fun r2 s1 => ?_))
  refine (zJ_n rfl).trans ?_
  refine (zq_aln hm (pc' := 759) rfl rfl rfl rfl).trans ?_
  refine (zq_aln hm (pc' := 760) rfl rfl rfl rfl).trans ?_
  refine (zq_iln hm (pc' := 761) rfl rfl rfl rfl).trans ?_
  refine (zq_ic hm (pc' := 762) rfl rfl rfl rfl).trans ?_
  refine (zq_iadd hm (pc' := 763) rfl rfl rfl).trans ?_
  refine (zq_ix hm (pc' := 764) rfl rfl rfl rfl rfl).trans (zite ?_ rfl)
  refine (zJ_n rfl).trans ?_
  refine (zq_v1 hm (pc' := 767) rfl rfl rfl (cls_57_12) rfl rfl).trans (zCI_c rfl (fun r4 s3 => ?_))
  refine (zJ_n rfl).trans ?_
  refine (zq_ieq hm (pc' := 770) rfl rfl).trans (zite ?_ ?_)
  · refine (zJ_n rfl).trans ?_
    refine (zq_iinc hm (ls' := [some (.inl (some 1002)), some (.inl (some 0)), some (.inl (some 57)), some (.inr (.inl (zw (i + 6))))]) (pc' := 1472) rfl rfl rfl rfl rfl rfl).trans ?_
    exact (zc_goto hm rfl rfl).trans rfl
  · refine (zJ_n rfl).trans ?_
    refine (zq_ic hm (pc' := 771) rfl rfl rfl rfl).trans ?_
    exact (zq_rb hm rfl rfl).trans (zif1 (by decide))
set_option maxRecDepth 100000 in
set_option maxHeartbeats 4000000 in
theorem e_L_law_c772 (n : Nat) (xs : Nat → Int) (i : Int) (σ : zF) : C_L_law_772 n xs i σ = (
if 0 ≤ zw (i + 1) ∧ zw (i + 1) < (n : Int) then (
if 0 ≤ zw (i + 2) ∧ zw (i + 2) < (n : Int) then (
zCI LAY (zx 200 124 [.inl (some 0), .inr (.inl (xs (zw (i + 1) : Int).toNat)), .inr (.inl (xs (zw (i + 2) : Int).toNat))] σ) fun r2 s1 =>
if 0 ≤ zw (i + 1) ∧ zw (i + 1) < (n : Int) then (
if 0 ≤ zw (i + 2) ∧ zw (i + 2) < (n : Int) then (
zCI LAY (zx 200 217 [.inl (some 57), .inr (.inl (xs (zw (i + 1) : Int).toNat)), .inr (.inl (xs (zw (i + 2) : Int).toNat))] s1) fun r4 s3 =>
if r2 = r4 then (
P_L_law_18 n xs (zw (i + 6)) s3) else (
zri 0 s3)) else (
none)) else (
none)) else (
none)) else (
none)) := by
  have hm := zexec_m zX2 zMT 200
  show zrunL (zXL n xs) (zexec zX2 zMT 200) K_L_law U_L_law 772 [some (.inl (some 1002)), some (.inl (some 0)), some (.inl (some 57)), some (.inr (.inl i))] [] (LAY, σ) = _
  refine (zq_aln hm (pc' := 773) rfl rfl rfl rfl).trans ?_
  refine (zq_aln hm (pc' := 774) rfl rfl rfl rfl).trans ?_
  refine (zq_iln hm (pc' := 775) rfl rfl rfl rfl).trans ?_
  refine (zq_ic hm (pc' := 776) rfl rfl rfl rfl).trans ?_
  refine (zq_iadd hm (pc' := 777) rfl rfl rfl).trans ?_
  refine (zq_ix hm (pc' := 778) rfl rfl rfl rfl rfl).trans (zite ?_ rfl)
  refine (zJ_n rfl).trans ?_
  refine (zq_aln hm (pc' := 779) rfl rfl rfl rfl).trans ?_
  refine (zq_iln hm (pc' := 780) rfl rfl rfl rfl).trans ?_
  refine (zq_ic hm (pc' := 781) rfl rfl rfl rfl).trans ?_
  refine (zq_iadd hm (pc' := 782) rfl rfl rfl).trans ?_
  refine (zq_ix hm (pc' := 783) rfl rfl rfl rfl rfl).trans (zite ?_ rfl)
  refine (zJ_n rfl).trans ?_
  refine (zq_v1 hm (pc' := 786) rfl rfl rfl (cls_0_11) rfl rfl).trans (zCI_c rfl (fun r2 s1 => ?_))
  refine (zJ_n rfl).trans ?_
  refine (zq_aln hm (pc' := 787) rfl rfl rfl rfl).trans ?_
  refine (zq_aln hm (pc' := 788) rfl rfl rfl rfl).trans ?_
  refine (zq_iln hm (pc' := 789) rfl rfl rfl rfl).trans ?_
  refine (zq_ic hm (pc' := 790) rfl rfl rfl rfl).trans ?_
  refine (zq_iadd hm (pc' := 791) rfl rfl rfl).trans ?_
  refine (zq_ix hm (pc' := 792) rfl rfl rfl rfl rfl).trans (zite ?_ rfl)
  refine (zJ_n rfl).trans ?_
  refine (zq_aln hm (pc' := 793) rfl rfl rfl rfl).trans ?_
  refine (zq_iln hm (pc' := 794) rfl rfl rfl rfl).trans ?_
  refine (zq_ic hm (pc' := 795) rfl rfl rfl rfl).trans ?_
  refine (zq_iadd hm (pc' := 796) rfl rfl rfl).trans ?_
  refine (zq_ix hm (pc' := 797) rfl rfl rfl rfl rfl).trans (zite ?_ rfl)
  refine (zJ_n rfl).trans ?_
  refine (zq_v1 hm (pc' := 800) rfl rfl rfl (cls_57_12) rfl rfl).trans (zCI_c rfl (fun r4 s3 => ?_))
  refine (zJ_n rfl).trans ?_
  refine (zq_ieq hm (pc' := 803) rfl rfl).trans (zite ?_ ?_)
  · refine (zJ_n rfl).trans ?_
    refine (zq_iinc hm (ls' := [some (.inl (some 1002)), some (.inl (some 0)), some (.inl (some 57)), some (.inr (.inl (zw (i + 6))))]) (pc' := 1472) rfl rfl rfl rfl rfl rfl).trans ?_
    exact (zc_goto hm rfl rfl).trans rfl
  · refine (zJ_n rfl).trans ?_
    refine (zq_ic hm (pc' := 804) rfl rfl rfl rfl).trans ?_
    exact (zq_rb hm rfl rfl).trans (zif1 (by decide))
set_option maxRecDepth 100000 in
set_option maxHeartbeats 4000000 in
theorem e_L_law_c805 (n : Nat) (xs : Nat → Int) (i : Int) (σ : zF) : C_L_law_805 n xs i σ = (
if 0 ≤ zw (i + 1) ∧ zw (i + 1) < (n : Int) then (
zCI LAY (zx 200 125 [.inl (some 0), .inr (.inl (xs (zw (i + 1) : Int).toNat))] σ) fun r2 s1 =>
if 0 ≤ zw (i + 1) ∧ zw (i + 1) < (n : Int) then (
zCI LAY (zx 200 220 [.inl (some 57), .inr (.inl (xs (zw (i + 1) : Int).toNat))] s1) fun r4 s3 =>
if r2 = r4 then (
P_L_law_18 n xs (zw (i + 6)) s3) else (
zri 0 s3)) else (
none)) else (
none)) := by
  have hm := zexec_m zX2 zMT 200
  show zrunL (zXL n xs) (zexec zX2 zMT 200) K_L_law U_L_law 805 [some (.inl (some 1002)), some (.inl (some 0)), some (.inl (some 57)), some (.inr (.inl i))] [] (LAY, σ) = _
  refine (zq_aln hm (pc' := 806) rfl rfl rfl rfl).trans ?_
  refine (zq_aln hm (pc' := 807) rfl rfl rfl rfl).trans ?_
  refine (zq_iln hm (pc' := 808) rfl rfl rfl rfl).trans ?_
  refine (zq_ic hm (pc' := 809) rfl rfl rfl rfl).trans ?_
  refine (zq_iadd hm (pc' := 810) rfl rfl rfl).trans ?_
  refine (zq_ix hm (pc' := 811) rfl rfl rfl rfl rfl).trans (zite ?_ rfl)
  refine (zJ_n rfl).trans ?_
  refine (zq_v1 hm (pc' := 814) rfl rfl rfl (cls_0_11) rfl rfl).trans (zCI_c rfl (fun r2 s1 => ?_))
  refine (zJ_n rfl).trans ?_
  refine (zq_aln hm (pc' := 815) rfl rfl rfl rfl).trans ?_
  refine (zq_aln hm (pc' := 816) rfl rfl rfl rfl).trans ?_
  refine (zq_iln hm (pc' := 817) rfl rfl rfl rfl).trans ?_
  refine (zq_ic hm (pc' := 818) rfl rfl rfl rfl).trans ?_
  refine (zq_iadd hm (pc' := 819) rfl rfl rfl).trans ?_
  refine (zq_ix hm (pc' := 820) rfl rfl rfl rfl rfl).trans (zite ?_ rfl)
  refine (zJ_n rfl).trans ?_
  refine (zq_v1 hm (pc' := 823) rfl rfl rfl (cls_57_12) rfl rfl).trans (zCI_c rfl (fun r4 s3 => ?_))
  refine (zJ_n rfl).trans ?_
  refine (zq_ieq hm (pc' := 826) rfl rfl).trans (zite ?_ ?_)
  · refine (zJ_n rfl).trans ?_
    refine (zq_iinc hm (ls' := [some (.inl (some 1002)), some (.inl (some 0)), some (.inl (some 57)), some (.inr (.inl (zw (i + 6))))]) (pc' := 1472) rfl rfl rfl rfl rfl rfl).trans ?_
    exact (zc_goto hm rfl rfl).trans rfl
  · refine (zJ_n rfl).trans ?_
    refine (zq_ic hm (pc' := 827) rfl rfl rfl rfl).trans ?_
    exact (zq_rb hm rfl rfl).trans (zif1 (by decide))
set_option maxRecDepth 100000 in
set_option maxHeartbeats 4000000 in
theorem e_L_law_c828 (n : Nat) (xs : Nat → Int) (i : Int) (σ : zF) : C_L_law_828 n xs i σ = (
if 0 ≤ zw (i + 1) ∧ zw (i + 1) < (n : Int) then (
if 0 ≤ zw (i + 2) ∧ zw (i + 2) < (n : Int) then (
zCI LAY (zx 200 126 [.inl (some 0), .inr (.inl (xs (zw (i + 1) : Int).toNat)), .inr (.inl (xs (zw (i + 2) : Int).toNat))] σ) fun r2 s1 =>
if 0 ≤ zw (i + 1) ∧ zw (i + 1) < (n : Int) then (
if 0 ≤ zw (i + 2) ∧ zw (i + 2) < (n : Int) then (
zCI LAY (zx 200 225 [.inl (some 57), .inr (.inl (xs (zw (i + 1) : Int).toNat)), .inr (.inl (xs (zw (i + 2) : Int).toNat))] s1) fun r4 s3 =>
if r2 = r4 then (
P_L_law_18 n xs (zw (i + 6)) s3) else (
zri 0 s3)) else (
none)) else (
none)) else (
none)) else (
none)) := by
  have hm := zexec_m zX2 zMT 200
  show zrunL (zXL n xs) (zexec zX2 zMT 200) K_L_law U_L_law 828 [some (.inl (some 1002)), some (.inl (some 0)), some (.inl (some 57)), some (.inr (.inl i))] [] (LAY, σ) = _
  refine (zq_aln hm (pc' := 829) rfl rfl rfl rfl).trans ?_
  refine (zq_aln hm (pc' := 830) rfl rfl rfl rfl).trans ?_
  refine (zq_iln hm (pc' := 831) rfl rfl rfl rfl).trans ?_
  refine (zq_ic hm (pc' := 832) rfl rfl rfl rfl).trans ?_
  refine (zq_iadd hm (pc' := 833) rfl rfl rfl).trans ?_
  refine (zq_ix hm (pc' := 834) rfl rfl rfl rfl rfl).trans (zite ?_ rfl)
  refine (zJ_n rfl).trans ?_
  refine (zq_aln hm (pc' := 835) rfl rfl rfl rfl).trans ?_
  refine (zq_iln hm (pc' := 836) rfl rfl rfl rfl).trans ?_
  refine (zq_ic hm (pc' := 837) rfl rfl rfl rfl).trans ?_
  refine (zq_iadd hm (pc' := 838) rfl rfl rfl).trans ?_
  refine (zq_ix hm (pc' := 839) rfl rfl rfl rfl rfl).trans (zite ?_ rfl)
  refine (zJ_n rfl).trans ?_
  refine (zq_v1 hm (pc' := 842) rfl rfl rfl (cls_0_11) rfl rfl).trans (zCI_c rfl (fun r2 s1 => ?_))
  refine (zJ_n rfl).trans ?_
  refine (zq_aln hm (pc' := 843) rfl rfl rfl rfl).trans ?_
  refine (zq_aln hm (pc' := 844) rfl rfl rfl rfl).trans ?_
  refine (zq_iln hm (pc' := 845) rfl rfl rfl rfl).trans ?_
  refine (zq_ic hm (pc' := 846) rfl rfl rfl rfl).trans ?_
  refine (zq_iadd hm (pc' := 847) rfl rfl rfl).trans ?_
  refine (zq_ix hm (pc' := 848) rfl rfl rfl rfl rfl).trans (zite ?_ rfl)
  refine (zJ_n rfl).trans ?_
  refine (zq_aln hm (pc' := 849) rfl rfl rfl rfl).trans ?_
  refine (zq_iln hm (pc' := 850) rfl rfl rfl rfl).trans ?_
  refine (zq_ic hm (pc' := 851) rfl rfl rfl rfl).trans ?_
  refine (zq_iadd hm (pc' := 852) rfl rfl rfl).trans ?_
  refine (zq_ix hm (pc' := 853) rfl rfl rfl rfl rfl).trans (zite ?_ rfl)
  refine (zJ_n rfl).trans ?_
  refine (zq_v1 hm (pc' := 856) rfl rfl rfl (cls_57_12) rfl rfl).trans (zCI_c rfl (fun r4 s3 => ?_))
  refine (zJ_n rfl).trans ?_
  refine (zq_ieq hm (pc' := 859) rfl rfl).trans (zite ?_ ?_)
  · refine (zJ_n rfl).trans ?_
    refine (zq_iinc hm (ls' := [some (.inl (some 1002)), some (.inl (some 0)), some (.inl (some 57)), some (.inr (.inl (zw (i + 6))))]) (pc' := 1472) rfl rfl rfl rfl rfl rfl).trans ?_
    exact (zc_goto hm rfl rfl).trans rfl
  · refine (zJ_n rfl).trans ?_
    refine (zq_ic hm (pc' := 860) rfl rfl rfl rfl).trans ?_
    exact (zq_rb hm rfl rfl).trans (zif1 (by decide))
set_option maxRecDepth 100000 in
set_option maxHeartbeats 4000000 in
theorem e_L_law_c861 (n : Nat) (xs : Nat → Int) (i : Int) (σ : zF) : C_L_law_861 n xs i σ = (
if 0 ≤ zw (i + 1) ∧ zw (i + 1) < (n : Int) then (
if 0 ≤ zw (i + 2) ∧ zw (i + 2) < (n : Int) then (
if 0 ≤ zw (i + 3) ∧ zw (i + 3) < (n : Int) then (
zCI LAY (zx 200 127 [.inl (some 0), .inr (.inl (xs (zw (i + 1) : Int).toNat)), .inr (.inl (xs (zw (i + 2) : Int).toNat)), .inr (.inl (xs (zw (i + 3) : Int).toNat))] σ) fun r2 s1 =>
if 0 ≤ zw (i + 1) ∧ zw (i + 1) < (n : Int) then (
if 0 ≤ zw (i + 2) ∧ zw (i + 2) < (n : Int) then (
if 0 ≤ zw (i + 3) ∧ zw (i + 3) < (n : Int) then (
zCI LAY (zx 200 228 [.inl (some 57), .inr (.inl (xs (zw (i + 1) : Int).toNat)), .inr (.inl (xs (zw (i + 2) : Int).toNat)), .inr (.inl (xs (zw (i + 3) : Int).toNat))] s1) fun r4 s3 =>
if r2 = r4 then (
P_L_law_18 n xs (zw (i + 6)) s3) else (
zri 0 s3)) else (
none)) else (
none)) else (
none)) else (
none)) else (
none)) else (
none)) := by
  have hm := zexec_m zX2 zMT 200
  show zrunL (zXL n xs) (zexec zX2 zMT 200) K_L_law U_L_law 861 [some (.inl (some 1002)), some (.inl (some 0)), some (.inl (some 57)), some (.inr (.inl i))] [] (LAY, σ) = _
  refine (zq_aln hm (pc' := 862) rfl rfl rfl rfl).trans ?_
  refine (zq_aln hm (pc' := 863) rfl rfl rfl rfl).trans ?_
  refine (zq_iln hm (pc' := 864) rfl rfl rfl rfl).trans ?_
  refine (zq_ic hm (pc' := 865) rfl rfl rfl rfl).trans ?_
  refine (zq_iadd hm (pc' := 866) rfl rfl rfl).trans ?_
  refine (zq_ix hm (pc' := 867) rfl rfl rfl rfl rfl).trans (zite ?_ rfl)
  refine (zJ_n rfl).trans ?_
  refine (zq_aln hm (pc' := 868) rfl rfl rfl rfl).trans ?_
  refine (zq_iln hm (pc' := 869) rfl rfl rfl rfl).trans ?_
  refine (zq_ic hm (pc' := 870) rfl rfl rfl rfl).trans ?_
  refine (zq_iadd hm (pc' := 871) rfl rfl rfl).trans ?_
  refine (zq_ix hm (pc' := 872) rfl rfl rfl rfl rfl).trans (zite ?_ rfl)
  refine (zJ_n rfl).trans ?_
  refine (zq_aln hm (pc' := 873) rfl rfl rfl rfl).trans ?_
  refine (zq_iln hm (pc' := 874) rfl rfl rfl rfl).trans ?_
  refine (zq_ic hm (pc' := 875) rfl rfl rfl rfl).trans ?_
  refine (zq_iadd hm (pc' := 876) rfl rfl rfl).trans ?_
  refine (zq_ix hm (pc' := 877) rfl rfl rfl rfl rfl).trans (zite ?_ rfl)
  refine (zJ_n rfl).trans ?_
  refine (zq_v1 hm (pc' := 880) rfl rfl rfl (cls_0_11) rfl rfl).trans (zCI_c rfl (fun r2 s1 => ?_))
  refine (zJ_n rfl).trans ?_
  refine (zq_aln hm (pc' := 881) rfl rfl rfl rfl).trans ?_
  refine (zq_aln hm (pc' := 882) rfl rfl rfl rfl).trans ?_
  refine (zq_iln hm (pc' := 883) rfl rfl rfl rfl).trans ?_
  refine (zq_ic hm (pc' := 884) rfl rfl rfl rfl).trans ?_
  refine (zq_iadd hm (pc' := 885) rfl rfl rfl).trans ?_
  refine (zq_ix hm (pc' := 886) rfl rfl rfl rfl rfl).trans (zite ?_ rfl)
  refine (zJ_n rfl).trans ?_
  refine (zq_aln hm (pc' := 887) rfl rfl rfl rfl).trans ?_
  refine (zq_iln hm (pc' := 888) rfl rfl rfl rfl).trans ?_
  refine (zq_ic hm (pc' := 889) rfl rfl rfl rfl).trans ?_
  refine (zq_iadd hm (pc' := 890) rfl rfl rfl).trans ?_
  refine (zq_ix hm (pc' := 891) rfl rfl rfl rfl rfl).trans (zite ?_ rfl)
  refine (zJ_n rfl).trans ?_
  refine (zq_aln hm (pc' := 892) rfl rfl rfl rfl).trans ?_
  refine (zq_iln hm (pc' := 893) rfl rfl rfl rfl).trans ?_
  refine (zq_ic hm (pc' := 894) rfl rfl rfl rfl).trans ?_
  refine (zq_iadd hm (pc' := 895) rfl rfl rfl).trans ?_
  refine (zq_ix hm (pc' := 896) rfl rfl rfl rfl rfl).trans (zite ?_ rfl)
  refine (zJ_n rfl).trans ?_
  refine (zq_v1 hm (pc' := 899) rfl rfl rfl (cls_57_12) rfl rfl).trans (zCI_c rfl (fun r4 s3 => ?_))
  refine (zJ_n rfl).trans ?_
  refine (zq_ieq hm (pc' := 902) rfl rfl).trans (zite ?_ ?_)
  · refine (zJ_n rfl).trans ?_
    refine (zq_iinc hm (ls' := [some (.inl (some 1002)), some (.inl (some 0)), some (.inl (some 57)), some (.inr (.inl (zw (i + 6))))]) (pc' := 1472) rfl rfl rfl rfl rfl rfl).trans ?_
    exact (zc_goto hm rfl rfl).trans rfl
  · refine (zJ_n rfl).trans ?_
    refine (zq_ic hm (pc' := 903) rfl rfl rfl rfl).trans ?_
    exact (zq_rb hm rfl rfl).trans (zif1 (by decide))
set_option maxRecDepth 100000 in
set_option maxHeartbeats 4000000 in
theorem e_L_law_c904 (n : Nat) (xs : Nat → Int) (i : Int) (σ : zF) : C_L_law_904 n xs i σ = (
if 0 ≤ zw (i + 1) ∧ zw (i + 1) < (n : Int) then (
if 0 ≤ zw (i + 2) ∧ zw (i + 2) < (n : Int) then (
if 0 ≤ zw (i + 3) ∧ zw (i + 3) < (n : Int) then (
zCI LAY (zx 200 128 [.inl (some 0), .inr (.inl (xs (zw (i + 1) : Int).toNat)), .inr (.inl (xs (zw (i + 2) : Int).toNat)), .inr (.inl (xs (zw (i + 3) : Int).toNat))] σ) fun r2 s1 =>
if 0 ≤ zw (i + 1) ∧ zw (i + 1) < (n : Int) then (
if 0 ≤ zw (i + 2) ∧ zw (i + 2) < (n : Int) then (
if 0 ≤ zw (i + 3) ∧ zw (i + 3) < (n : Int) then (
zCI LAY (zx 200 229 [.inl (some 57), .inr (.inl (xs (zw (i + 1) : Int).toNat)), .inr (.inl (xs (zw (i + 2) : Int).toNat)), .inr (.inl (xs (zw (i + 3) : Int).toNat))] s1) fun r4 s3 =>
if r2 = r4 then (
P_L_law_18 n xs (zw (i + 6)) s3) else (
zri 0 s3)) else (
none)) else (
none)) else (
none)) else (
none)) else (
none)) else (
none)) := by
  have hm := zexec_m zX2 zMT 200
  show zrunL (zXL n xs) (zexec zX2 zMT 200) K_L_law U_L_law 904 [some (.inl (some 1002)), some (.inl (some 0)), some (.inl (some 57)), some (.inr (.inl i))] [] (LAY, σ) = _
  refine (zq_aln hm (pc' := 905) rfl rfl rfl rfl).trans ?_
  refine (zq_aln hm (pc' := 906) rfl rfl rfl rfl).trans ?_
  refine (zq_iln hm (pc' := 907) rfl rfl rfl rfl).trans ?_
  refine (zq_ic hm (pc' := 908) rfl rfl rfl rfl).trans ?_
  refine (zq_iadd hm (pc' := 909) rfl rfl rfl).trans ?_
  refine (zq_ix hm (pc' := 910) rfl rfl rfl rfl rfl).trans (zite ?_ rfl)
  refine (zJ_n rfl).trans ?_
  refine (zq_aln hm (pc' := 911) rfl rfl rfl rfl).trans ?_
  refine (zq_iln hm (pc' := 912) rfl rfl rfl rfl).trans ?_
  refine (zq_ic hm (pc' := 913) rfl rfl rfl rfl).trans ?_
  refine (zq_iadd hm (pc' := 914) rfl rfl rfl).trans ?_
  refine (zq_ix hm (pc' := 915) rfl rfl rfl rfl rfl).trans (zite ?_ rfl)
  refine (zJ_n rfl).trans ?_
  refine (zq_aln hm (pc' := 916) rfl rfl rfl rfl).trans ?_
  refine (zq_iln hm (pc' := 917) rfl rfl rfl rfl).trans ?_
  refine (zq_ic hm (pc' := 918) rfl rfl rfl rfl).trans ?_
  refine (zq_iadd hm (pc' := 919) rfl rfl rfl).trans ?_
  refine (zq_ix hm (pc' := 920) rfl rfl rfl rfl rfl).trans (zite ?_ rfl)
  refine (zJ_n rfl).trans ?_
  refine (zq_v1 hm (pc' := 923) rfl rfl rfl (cls_0_11) rfl rfl).trans (zCI_c rfl (fun r2 s1 => ?_))
  refine (zJ_n rfl).trans ?_
  refine (zq_aln hm (pc' := 924) rfl rfl rfl rfl).trans ?_
  refine (zq_aln hm (pc' := 925) rfl rfl rfl rfl).trans ?_
  refine (zq_iln hm (pc' := 926) rfl rfl rfl rfl).trans ?_
  refine (zq_ic hm (pc' := 927) rfl rfl rfl rfl).trans ?_
  refine (zq_iadd hm (pc' := 928) rfl rfl rfl).trans ?_
  refine (zq_ix hm (pc' := 929) rfl rfl rfl rfl rfl).trans (zite ?_ rfl)
  refine (zJ_n rfl).trans ?_
  refine (zq_aln hm (pc' := 930) rfl rfl rfl rfl).trans ?_
  refine (zq_iln hm (pc' := 931) rfl rfl rfl rfl).trans ?_
  refine (zq_ic hm (pc' := 932) rfl rfl rfl rfl).trans ?_
  refine (zq_iadd hm (pc' := 933) rfl rfl rfl).trans ?_
  refine (zq_ix hm (pc' := 934) rfl rfl rfl rfl rfl).trans (zite ?_ rfl)
  refine (zJ_n rfl).trans ?_
  refine (zq_aln hm (pc' := 935) rfl rfl rfl rfl).trans ?_
  refine (zq_iln hm (pc' := 936) rfl rfl rfl rfl).trans ?_
  refine (zq_ic hm (pc' := 937) rfl rfl rfl rfl).trans ?_
  refine (zq_iadd hm (pc' := 938) rfl rfl rfl).trans ?_
  refine (zq_ix hm (pc' := 939) rfl rfl rfl rfl rfl).trans (zite ?_ rfl)
  refine (zJ_n rfl).trans ?_
  refine (zq_v1 hm (pc' := 942) rfl rfl rfl (cls_57_12) rfl rfl).trans (zCI_c rfl (fun r4 s3 => ?_))
  refine (zJ_n rfl).trans ?_
  refine (zq_ieq hm (pc' := 945) rfl rfl).trans (zite ?_ ?_)
  · refine (zJ_n rfl).trans ?_
    refine (zq_iinc hm (ls' := [some (.inl (some 1002)), some (.inl (some 0)), some (.inl (some 57)), some (.inr (.inl (zw (i + 6))))]) (pc' := 1472) rfl rfl rfl rfl rfl rfl).trans ?_
    exact (zc_goto hm rfl rfl).trans rfl
  · refine (zJ_n rfl).trans ?_
    refine (zq_ic hm (pc' := 946) rfl rfl rfl rfl).trans ?_
    exact (zq_rb hm rfl rfl).trans (zif1 (by decide))
set_option maxRecDepth 100000 in
set_option maxHeartbeats 4000000 in
theorem e_L_law_c947 (n : Nat) (xs : Nat → Int) (i : Int) (σ : zF) : C_L_law_947 n xs i σ = (
if 0 ≤ zw (i + 1) ∧ zw (i + 1) < (n : Int) then (
if 0 ≤ zw (i + 2) ∧ zw (i + 2) < (n : Int) then (
if 0 ≤ zw (i + 3) ∧ zw (i + 3) < (n : Int) then (
zCI LAY (zx 200 129 [.inl (some 0), .inr (.inl (xs (zw (i + 1) : Int).toNat)), .inr (.inl (xs (zw (i + 2) : Int).toNat)), .inr (.inl (xs (zw (i + 3) : Int).toNat))] σ) fun r2 s1 =>
if 0 ≤ zw (i + 1) ∧ zw (i + 1) < (n : Int) then (
if 0 ≤ zw (i + 2) ∧ zw (i + 2) < (n : Int) then (
if 0 ≤ zw (i + 3) ∧ zw (i + 3) < (n : Int) then (
zCI LAY (zx 200 230 [.inl (some 57), .inr (.inl (xs (zw (i + 1) : Int).toNat)), .inr (.inl (xs (zw (i + 2) : Int).toNat)), .inr (.inl (xs (zw (i + 3) : Int).toNat))] s1) fun r4 s3 =>
if r2 = r4 then (
P_L_law_18 n xs (zw (i + 6)) s3) else (
zri 0 s3)) else (
none)) else (
none)) else (
none)) else (
none)) else (
none)) else (
none)) := by
  have hm := zexec_m zX2 zMT 200
  show zrunL (zXL n xs) (zexec zX2 zMT 200) K_L_law U_L_law 947 [some (.inl (some 1002)), some (.inl (some 0)), some (.inl (some 57)), some (.inr (.inl i))] [] (LAY, σ) = _
  refine (zq_aln hm (pc' := 948) rfl rfl rfl rfl).trans ?_
  refine (zq_aln hm (pc' := 949) rfl rfl rfl rfl).trans ?_
  refine (zq_iln hm (pc' := 950) rfl rfl rfl rfl).trans ?_
  refine (zq_ic hm (pc' := 951) rfl rfl rfl rfl).trans ?_
  refine (zq_iadd hm (pc' := 952) rfl rfl rfl).trans ?_
  refine (zq_ix hm (pc' := 953) rfl rfl rfl rfl rfl).trans (zite ?_ rfl)
  refine (zJ_n rfl).trans ?_
  refine (zq_aln hm (pc' := 954) rfl rfl rfl rfl).trans ?_
  refine (zq_iln hm (pc' := 955) rfl rfl rfl rfl).trans ?_
  refine (zq_ic hm (pc' := 956) rfl rfl rfl rfl).trans ?_
  refine (zq_iadd hm (pc' := 957) rfl rfl rfl).trans ?_
  refine (zq_ix hm (pc' := 958) rfl rfl rfl rfl rfl).trans (zite ?_ rfl)
  refine (zJ_n rfl).trans ?_
  refine (zq_aln hm (pc' := 959) rfl rfl rfl rfl).trans ?_
  refine (zq_iln hm (pc' := 960) rfl rfl rfl rfl).trans ?_
  refine (zq_ic hm (pc' := 961) rfl rfl rfl rfl).trans ?_
  refine (zq_iadd hm (pc' := 962) rfl rfl rfl).trans ?_
  refine (zq_ix hm (pc' := 963) rfl rfl rfl rfl rfl).trans (zite ?_ rfl)
  refine (zJ_n rfl).trans ?_
  refine (zq_v1 hm (pc' := 966) rfl rfl rfl (cls_0_11) rfl rfl).trans (zCI_c rfl (fun r2 s1 => ?_))
  refine (zJ_n rfl).trans ?_
  refine (zq_aln hm (pc' := 967) rfl rfl rfl rfl).trans ?_
  refine (zq_aln hm (pc' := 968) rfl rfl rfl rfl).trans ?_
  refine (zq_iln hm (pc' := 969) rfl rfl rfl rfl).trans ?_
  refine (zq_ic hm (pc' := 970) rfl rfl rfl rfl).trans ?_
  refine (zq_iadd hm (pc' := 971) rfl rfl rfl).trans ?_
  refine (zq_ix hm (pc' := 972) rfl rfl rfl rfl rfl).trans (zite ?_ rfl)
  refine (zJ_n rfl).trans ?_
  refine (zq_aln hm (pc' := 973) rfl rfl rfl rfl).trans ?_
  refine (zq_iln hm (pc' := 974) rfl rfl rfl rfl).trans ?_
  refine (zq_ic hm (pc' := 975) rfl rfl rfl rfl).trans ?_
  refine (zq_iadd hm (pc' := 976) rfl rfl rfl).trans ?_
  refine (zq_ix hm (pc' := 977) rfl rfl rfl rfl rfl).trans (zite ?_ rfl)
  refine (zJ_n rfl).trans ?_
  refine (zq_aln hm (pc' := 978) rfl rfl rfl rfl).trans ?_
  refine (zq_iln hm (pc' := 979) rfl rfl rfl rfl).trans ?_
  refine (zq_ic hm (pc' := 980) rfl rfl rfl rfl).trans ?_
  refine (zq_iadd hm (pc' := 981) rfl rfl rfl).trans ?_
  refine (zq_ix hm (pc' := 982) rfl rfl rfl rfl rfl).trans (zite ?_ rfl)
  refine (zJ_n rfl).trans ?_
  refine (zq_v1 hm (pc' := 985) rfl rfl rfl (cls_57_12) rfl rfl).trans (zCI_c rfl (fun r4 s3 => ?_))
  refine (zJ_n rfl).trans ?_
  refine (zq_ieq hm (pc' := 988) rfl rfl).trans (zite ?_ ?_)
  · refine (zJ_n rfl).trans ?_
    refine (zq_iinc hm (ls' := [some (.inl (some 1002)), some (.inl (some 0)), some (.inl (some 57)), some (.inr (.inl (zw (i + 6))))]) (pc' := 1472) rfl rfl rfl rfl rfl rfl).trans ?_
    exact (zc_goto hm rfl rfl).trans rfl
  · refine (zJ_n rfl).trans ?_
    refine (zq_ic hm (pc' := 989) rfl rfl rfl rfl).trans ?_
    exact (zq_rb hm rfl rfl).trans (zif1 (by decide))
set_option maxRecDepth 100000 in
set_option maxHeartbeats 4000000 in
theorem e_L_law_c990 (n : Nat) (xs : Nat → Int) (i : Int) (σ : zF) : C_L_law_990 n xs i σ = (
zCI LAY (zx 200 130 [.inl (some 0)] σ) fun r2 s1 =>
zCI LAY (zx 200 231 [.inl (some 57)] s1) fun r4 s3 =>
if r2 = r4 then (
P_L_law_18 n xs (zw (i + 6)) s3) else (
zri 0 s3)) := by
  have hm := zexec_m zX2 zMT 200
  show zrunL (zXL n xs) (zexec zX2 zMT 200) K_L_law U_L_law 990 [some (.inl (some 1002)), some (.inl (some 0)), some (.inl (some 57)), some (.inr (.inl i))] [] (LAY, σ) = _
  refine (zq_aln hm (pc' := 991) rfl rfl rfl rfl).trans ?_
  refine (zq_v1 hm (pc' := 994) rfl rfl rfl (cls_0_11) rfl rfl).trans (zCI_c rfl (fun r2 s1 => ?_))
  refine (zJ_n rfl).trans ?_
  refine (zq_aln hm (pc' := 995) rfl rfl rfl rfl).trans ?_
  refine (zq_v1 hm (pc' := 998) rfl rfl rfl (cls_57_12) rfl rfl).trans (zCI_c rfl (fun r4 s3 => ?_))
  refine (zJ_n rfl).trans ?_
  refine (zq_ieq hm (pc' := 1001) rfl rfl).trans (zite ?_ ?_)
  · refine (zJ_n rfl).trans ?_
    refine (zq_iinc hm (ls' := [some (.inl (some 1002)), some (.inl (some 0)), some (.inl (some 57)), some (.inr (.inl (zw (i + 6))))]) (pc' := 1472) rfl rfl rfl rfl rfl rfl).trans ?_
    exact (zc_goto hm rfl rfl).trans rfl
  · refine (zJ_n rfl).trans ?_
    refine (zq_ic hm (pc' := 1002) rfl rfl rfl rfl).trans ?_
    exact (zq_rb hm rfl rfl).trans (zif1 (by decide))
set_option maxRecDepth 100000 in
set_option maxHeartbeats 4000000 in
theorem e_L_law_c1003 (n : Nat) (xs : Nat → Int) (i : Int) (σ : zF) : C_L_law_1003 n xs i σ = (
if 0 ≤ zw (i + 1) ∧ zw (i + 1) < (n : Int) then (
zCI LAY (zx 200 131 [.inl (some 0), .inr (.inl (xs (zw (i + 1) : Int).toNat))] σ) fun r2 s1 =>
if 0 ≤ zw (i + 1) ∧ zw (i + 1) < (n : Int) then (
zCI LAY (zx 200 232 [.inl (some 57), .inr (.inl (xs (zw (i + 1) : Int).toNat))] s1) fun r4 s3 =>
if r2 = r4 then (
P_L_law_18 n xs (zw (i + 6)) s3) else (
zri 0 s3)) else (
none)) else (
none)) := by
  have hm := zexec_m zX2 zMT 200
  show zrunL (zXL n xs) (zexec zX2 zMT 200) K_L_law U_L_law 1003 [some (.inl (some 1002)), some (.inl (some 0)), some (.inl (some 57)), some (.inr (.inl i))] [] (LAY, σ) = _
  refine (zq_aln hm (pc' := 1004) rfl rfl rfl rfl).trans ?_
  refine (zq_aln hm (pc' := 1005) rfl rfl rfl rfl).trans ?_
  refine (zq_iln hm (pc' := 1006) rfl rfl rfl rfl).trans ?_
  refine (zq_ic hm (pc' := 1007) rfl rfl rfl rfl).trans ?_
  refine (zq_iadd hm (pc' := 1008) rfl rfl rfl).trans ?_
  refine (zq_ix hm (pc' := 1009) rfl rfl rfl rfl rfl).trans (zite ?_ rfl)
  refine (zJ_n rfl).trans ?_
  refine (zq_v1 hm (pc' := 1012) rfl rfl rfl (cls_0_11) rfl rfl).trans (zCI_c rfl (fun r2 s1 => ?_))
  refine (zJ_n rfl).trans ?_
  refine (zq_aln hm (pc' := 1013) rfl rfl rfl rfl).trans ?_
  refine (zq_aln hm (pc' := 1014) rfl rfl rfl rfl).trans ?_
  refine (zq_iln hm (pc' := 1015) rfl rfl rfl rfl).trans ?_
  refine (zq_ic hm (pc' := 1016) rfl rfl rfl rfl).trans ?_
  refine (zq_iadd hm (pc' := 1017) rfl rfl rfl).trans ?_
  refine (zq_ix hm (pc' := 1018) rfl rfl rfl rfl rfl).trans (zite ?_ rfl)
  refine (zJ_n rfl).trans ?_
  refine (zq_v1 hm (pc' := 1021) rfl rfl rfl (cls_57_12) rfl rfl).trans (zCI_c rfl (fun r4 s3 => ?_))
  refine (zJ_n rfl).trans ?_
  refine (zq_ieq hm (pc' := 1024) rfl rfl).trans (zite ?_ ?_)
  · refine (zJ_n rfl).trans ?_
    refine (zq_iinc hm (ls' := [some (.inl (some 1002)), some (.inl (some 0)), some (.inl (some 57)), some (.inr (.inl (zw (i + 6))))]) (pc' := 1472) rfl rfl rfl rfl rfl rfl).trans ?_
    exact (zc_goto hm rfl rfl).trans rfl
  · refine (zJ_n rfl).trans ?_
    refine (zq_ic hm (pc' := 1025) rfl rfl rfl rfl).trans ?_
    exact (zq_rb hm rfl rfl).trans (zif1 (by decide))
set_option maxRecDepth 100000 in
set_option maxHeartbeats 4000000 in
theorem e_L_law_c1026 (n : Nat) (xs : Nat → Int) (i : Int) (σ : zF) : C_L_law_1026 n xs i σ = (
zCI LAY (zx 200 132 [.inl (some 0)] σ) fun r2 s1 =>
zCI LAY (zx 200 233 [.inl (some 57)] s1) fun r4 s3 =>
if r2 = r4 then (
P_L_law_18 n xs (zw (i + 6)) s3) else (
zri 0 s3)) := by
  have hm := zexec_m zX2 zMT 200
  show zrunL (zXL n xs) (zexec zX2 zMT 200) K_L_law U_L_law 1026 [some (.inl (some 1002)), some (.inl (some 0)), some (.inl (some 57)), some (.inr (.inl i))] [] (LAY, σ) = _
  refine (zq_aln hm (pc' := 1027) rfl rfl rfl rfl).trans ?_
  refine (zq_v1 hm (pc' := 1030) rfl rfl rfl (cls_0_11) rfl rfl).trans (zCI_c rfl (fun r2 s1 => ?_))
  refine (zJ_n rfl).trans ?_
  refine (zq_aln hm (pc' := 1031) rfl rfl rfl rfl).trans ?_
  refine (zq_v1 hm (pc' := 1034) rfl rfl rfl (cls_57_12) rfl rfl).trans (zCI_c rfl (fun r4 s3 => ?_))
  refine (zJ_n rfl).trans ?_
  refine (zq_ieq hm (pc' := 1037) rfl rfl).trans (zite ?_ ?_)
  · refine (zJ_n rfl).trans ?_
    refine (zq_iinc hm (ls' := [some (.inl (some 1002)), some (.inl (some 0)), some (.inl (some 57)), some (.inr (.inl (zw (i + 6))))]) (pc' := 1472) rfl rfl rfl rfl rfl rfl).trans ?_
    exact (zc_goto hm rfl rfl).trans rfl
  · refine (zJ_n rfl).trans ?_
    refine (zq_ic hm (pc' := 1038) rfl rfl rfl rfl).trans ?_
    exact (zq_rb hm rfl rfl).trans (zif1 (by decide))
set_option maxRecDepth 100000 in
set_option maxHeartbeats 4000000 in
theorem e_L_law_c1039 (n : Nat) (xs : Nat → Int) (i : Int) (σ : zF) : C_L_law_1039 n xs i σ = (
zCI LAY (zx 200 133 [.inl (some 0)] σ) fun r2 s1 =>
zCI LAY (zx 200 234 [.inl (some 57)] s1) fun r4 s3 =>
if r2 = r4 then (
P_L_law_18 n xs (zw (i + 6)) s3) else (
zri 0 s3)) := by
  have hm := zexec_m zX2 zMT 200
  show zrunL (zXL n xs) (zexec zX2 zMT 200) K_L_law U_L_law 1039 [some (.inl (some 1002)), some (.inl (some 0)), some (.inl (some 57)), some (.inr (.inl i))] [] (LAY, σ) = _
  refine (zq_aln hm (pc' := 1040) rfl rfl rfl rfl).trans ?_
  refine (zq_v1 hm (pc' := 1043) rfl rfl rfl (cls_0_11) rfl rfl).trans (zCI_c rfl (fun r2 s1 => ?_))
  refine (zJ_n rfl).trans ?_
  refine (zq_aln hm (pc' := 1044) rfl rfl rfl rfl).trans ?_
  refine (zq_v1 hm (pc' := 1047) rfl rfl rfl (cls_57_12) rfl rfl).trans (zCI_c rfl (fun r4 s3 => ?_))
  refine (zJ_n rfl).trans ?_
  refine (zq_ieq hm (pc' := 1050) rfl rfl).trans (zite ?_ ?_)
  · refine (zJ_n rfl).trans ?_
    refine (zq_iinc hm (ls' := [some (.inl (some 1002)), some (.inl (some 0)), some (.inl (some 57)), some (.inr (.inl (zw (i + 6))))]) (pc' := 1472) rfl rfl rfl rfl rfl rfl).trans ?_
    exact (zc_goto hm rfl rfl).trans rfl
  · refine (zJ_n rfl).trans ?_
    refine (zq_ic hm (pc' := 1051) rfl rfl rfl rfl).trans ?_
    exact (zq_rb hm rfl rfl).trans (zif1 (by decide))
set_option maxRecDepth 100000 in
set_option maxHeartbeats 4000000 in
theorem e_L_law_c1052 (n : Nat) (xs : Nat → Int) (i : Int) (σ : zF) : C_L_law_1052 n xs i σ = (
zCI LAY (zx 200 134 [.inl (some 0)] σ) fun r2 s1 =>
zCI LAY (zx 200 170 [.inl (some 57)] s1) fun r4 s3 =>
if r2 = r4 then (
P_L_law_18 n xs (zw (i + 6)) s3) else (
zri 0 s3)) := by
  have hm := zexec_m zX2 zMT 200
  show zrunL (zXL n xs) (zexec zX2 zMT 200) K_L_law U_L_law 1052 [some (.inl (some 1002)), some (.inl (some 0)), some (.inl (some 57)), some (.inr (.inl i))] [] (LAY, σ) = _
  refine (zq_aln hm (pc' := 1053) rfl rfl rfl rfl).trans ?_
  refine (zq_v1 hm (pc' := 1056) rfl rfl rfl (cls_0_11) rfl rfl).trans (zCI_c rfl (fun r2 s1 => ?_))
  refine (zJ_n rfl).trans ?_
  refine (zq_aln hm (pc' := 1057) rfl rfl rfl rfl).trans ?_
  refine (zq_v1 hm (pc' := 1060) rfl rfl rfl (cls_57_12) rfl rfl).trans (zCI_c rfl (fun r4 s3 => ?_))
  refine (zJ_n rfl).trans ?_
  refine (zq_ieq hm (pc' := 1063) rfl rfl).trans (zite ?_ ?_)
  · refine (zJ_n rfl).trans ?_
    refine (zq_iinc hm (ls' := [some (.inl (some 1002)), some (.inl (some 0)), some (.inl (some 57)), some (.inr (.inl (zw (i + 6))))]) (pc' := 1472) rfl rfl rfl rfl rfl rfl).trans ?_
    exact (zc_goto hm rfl rfl).trans rfl
  · refine (zJ_n rfl).trans ?_
    refine (zq_ic hm (pc' := 1064) rfl rfl rfl rfl).trans ?_
    exact (zq_rb hm rfl rfl).trans (zif1 (by decide))
set_option maxRecDepth 100000 in
set_option maxHeartbeats 4000000 in
theorem e_L_law_c1065 (n : Nat) (xs : Nat → Int) (i : Int) (σ : zF) : C_L_law_1065 n xs i σ = (
zCI LAY (zx 200 135 [.inl (some 0)] σ) fun r2 s1 =>
zCI LAY (zx 200 171 [.inl (some 57)] s1) fun r4 s3 =>
if r2 = r4 then (
P_L_law_18 n xs (zw (i + 6)) s3) else (
zri 0 s3)) := by
  have hm := zexec_m zX2 zMT 200
  show zrunL (zXL n xs) (zexec zX2 zMT 200) K_L_law U_L_law 1065 [some (.inl (some 1002)), some (.inl (some 0)), some (.inl (some 57)), some (.inr (.inl i))] [] (LAY, σ) = _
  refine (zq_aln hm (pc' := 1066) rfl rfl rfl rfl).trans ?_
  refine (zq_v1 hm (pc' := 1069) rfl rfl rfl (cls_0_11) rfl rfl).trans (zCI_c rfl (fun r2 s1 => ?_))
  refine (zJ_n rfl).trans ?_
  refine (zq_aln hm (pc' := 1070) rfl rfl rfl rfl).trans ?_
  refine (zq_v1 hm (pc' := 1073) rfl rfl rfl (cls_57_12) rfl rfl).trans (zCI_c rfl (fun r4 s3 => ?_))
  refine (zJ_n rfl).trans ?_
  refine (zq_ieq hm (pc' := 1076) rfl rfl).trans (zite ?_ ?_)
  · refine (zJ_n rfl).trans ?_
    refine (zq_iinc hm (ls' := [some (.inl (some 1002)), some (.inl (some 0)), some (.inl (some 57)), some (.inr (.inl (zw (i + 6))))]) (pc' := 1472) rfl rfl rfl rfl rfl rfl).trans ?_
    exact (zc_goto hm rfl rfl).trans rfl
  · refine (zJ_n rfl).trans ?_
    refine (zq_ic hm (pc' := 1077) rfl rfl rfl rfl).trans ?_
    exact (zq_rb hm rfl rfl).trans (zif1 (by decide))
set_option maxRecDepth 100000 in
set_option maxHeartbeats 4000000 in
theorem e_L_law_c1078 (n : Nat) (xs : Nat → Int) (i : Int) (σ : zF) : C_L_law_1078 n xs i σ = (
if 0 ≤ zw (i + 1) ∧ zw (i + 1) < (n : Int) then (
zCI LAY (zx 200 136 [.inl (some 0), .inr (.inl (xs (zw (i + 1) : Int).toNat))] σ) fun r2 s1 =>
if 0 ≤ zw (i + 1) ∧ zw (i + 1) < (n : Int) then (
zCI LAY (zx 200 241 [.inl (some 57), .inr (.inl (xs (zw (i + 1) : Int).toNat))] s1) fun r4 s3 =>
if r2 = r4 then (
P_L_law_18 n xs (zw (i + 6)) s3) else (
zri 0 s3)) else (
none)) else (
none)) := by
  have hm := zexec_m zX2 zMT 200
  show zrunL (zXL n xs) (zexec zX2 zMT 200) K_L_law U_L_law 1078 [some (.inl (some 1002)), some (.inl (some 0)), some (.inl (some 57)), some (.inr (.inl i))] [] (LAY, σ) = _
  refine (zq_aln hm (pc' := 1079) rfl rfl rfl rfl).trans ?_
  refine (zq_aln hm (pc' := 1080) rfl rfl rfl rfl).trans ?_
  refine (zq_iln hm (pc' := 1081) rfl rfl rfl rfl).trans ?_
  refine (zq_ic hm (pc' := 1082) rfl rfl rfl rfl).trans ?_
  refine (zq_iadd hm (pc' := 1083) rfl rfl rfl).trans ?_
  refine (zq_ix hm (pc' := 1084) rfl rfl rfl rfl rfl).trans (zite ?_ rfl)
  refine (zJ_n rfl).trans ?_
  refine (zq_v1 hm (pc' := 1087) rfl rfl rfl (cls_0_11) rfl rfl).trans (zCI_c rfl (fun r2 s1 => ?_))
  refine (zJ_n rfl).trans ?_
  refine (zq_aln hm (pc' := 1088) rfl rfl rfl rfl).trans ?_
  refine (zq_aln hm (pc' := 1089) rfl rfl rfl rfl).trans ?_
  refine (zq_iln hm (pc' := 1090) rfl rfl rfl rfl).trans ?_
  refine (zq_ic hm (pc' := 1091) rfl rfl rfl rfl).trans ?_
  refine (zq_iadd hm (pc' := 1092) rfl rfl rfl).trans ?_
  refine (zq_ix hm (pc' := 1093) rfl rfl rfl rfl rfl).trans (zite ?_ rfl)
  refine (zJ_n rfl).trans ?_
  refine (zq_v1 hm (pc' := 1096) rfl rfl rfl (cls_57_12) rfl rfl).trans (zCI_c rfl (fun r4 s3 => ?_))
  refine (zJ_n rfl).trans ?_
  refine (zq_ieq hm (pc' := 1099) rfl rfl).trans (zite ?_ ?_)
  · refine (zJ_n rfl).trans ?_
    refine (zq_iinc hm (ls' := [some (.inl (some 1002)), some (.inl (some 0)), some (.inl (some 57)), some (.inr (.inl (zw (i + 6))))]) (pc' := 1472) rfl rfl rfl rfl rfl rfl).trans ?_
    exact (zc_goto hm rfl rfl).trans rfl
  · refine (zJ_n rfl).trans ?_
    refine (zq_ic hm (pc' := 1100) rfl rfl rfl rfl).trans ?_
    exact (zq_rb hm rfl rfl).trans (zif1 (by decide))
set_option maxRecDepth 100000 in
set_option maxHeartbeats 4000000 in
theorem e_L_law_c1101 (n : Nat) (xs : Nat → Int) (i : Int) (σ : zF) : C_L_law_1101 n xs i σ = (
if 0 ≤ zw (i + 1) ∧ zw (i + 1) < (n : Int) then (
if 0 ≤ zw (i + 2) ∧ zw (i + 2) < (n : Int) then (
if 0 ≤ zw (i + 3) ∧ zw (i + 3) < (n : Int) then (
zCI LAY (zx 200 137 [.inl (some 0), .inr (.inl (xs (zw (i + 1) : Int).toNat)), .inr (.inl (xs (zw (i + 2) : Int).toNat)), .inr (.inl (xs (zw (i + 3) : Int).toNat))] σ) fun r2 s1 =>
if 0 ≤ zw (i + 1) ∧ zw (i + 1) < (n : Int) then (
if 0 ≤ zw (i + 2) ∧ zw (i + 2) < (n : Int) then (
if 0 ≤ zw (i + 3) ∧ zw (i + 3) < (n : Int) then (
zCI LAY (zx 200 242 [.inl (some 57), .inr (.inl (xs (zw (i + 1) : Int).toNat)), .inr (.inl (xs (zw (i + 2) : Int).toNat)), .inr (.inl (xs (zw (i + 3) : Int).toNat))] s1) fun r4 s3 =>
if r2 = r4 then (
P_L_law_18 n xs (zw (i + 6)) s3) else (
zri 0 s3)) else (
none)) else (
none)) else (
none)) else (
none)) else (
none)) else (
none)) := by
  have hm := zexec_m zX2 zMT 200
  show zrunL (zXL n xs) (zexec zX2 zMT 200) K_L_law U_L_law 1101 [some (.inl (some 1002)), some (.inl (some 0)), some (.inl (some 57)), some (.inr (.inl i))] [] (LAY, σ) = _
  refine (zq_aln hm (pc' := 1102) rfl rfl rfl rfl).trans ?_
  refine (zq_aln hm (pc' := 1103) rfl rfl rfl rfl).trans ?_
  refine (zq_iln hm (pc' := 1104) rfl rfl rfl rfl).trans ?_
  refine (zq_ic hm (pc' := 1105) rfl rfl rfl rfl).trans ?_
  refine (zq_iadd hm (pc' := 1106) rfl rfl rfl).trans ?_
  refine (zq_ix hm (pc' := 1107) rfl rfl rfl rfl rfl).trans (zite ?_ rfl)
  refine (zJ_n rfl).trans ?_
  refine (zq_aln hm (pc' := 1108) rfl rfl rfl rfl).trans ?_
  refine (zq_iln hm (pc' := 1109) rfl rfl rfl rfl).trans ?_
  refine (zq_ic hm (pc' := 1110) rfl rfl rfl rfl).trans ?_
  refine (zq_iadd hm (pc' := 1111) rfl rfl rfl).trans ?_
  refine (zq_ix hm (pc' := 1112) rfl rfl rfl rfl rfl).trans (zite ?_ rfl)
  refine (zJ_n rfl).trans ?_
  refine (zq_aln hm (pc' := 1113) rfl rfl rfl rfl).trans ?_
  refine (zq_iln hm (pc' := 1114) rfl rfl rfl rfl).trans ?_
  refine (zq_ic hm (pc' := 1115) rfl rfl rfl rfl).trans ?_
  refine (zq_iadd hm (pc' := 1116) rfl rfl rfl).trans ?_
  refine (zq_ix hm (pc' := 1117) rfl rfl rfl rfl rfl).trans (zite ?_ rfl)
  refine (zJ_n rfl).trans ?_
  refine (zq_v1 hm (pc' := 1120) rfl rfl rfl (cls_0_11) rfl rfl).trans (zCI_c rfl (fun r2 s1 => ?_))
  refine (zJ_n rfl).trans ?_
  refine (zq_aln hm (pc' := 1121) rfl rfl rfl rfl).trans ?_
  refine (zq_aln hm (pc' := 1122) rfl rfl rfl rfl).trans ?_
  refine (zq_iln hm (pc' := 1123) rfl rfl rfl rfl).trans ?_
  refine (zq_ic hm (pc' := 1124) rfl rfl rfl rfl).trans ?_
  refine (zq_iadd hm (pc' := 1125) rfl rfl rfl).trans ?_
  refine (zq_ix hm (pc' := 1126) rfl rfl rfl rfl rfl).trans (zite ?_ rfl)
  refine (zJ_n rfl).trans ?_
  refine (zq_aln hm (pc' := 1127) rfl rfl rfl rfl).trans ?_
  refine (zq_iln hm (pc' := 1128) rfl rfl rfl rfl).trans ?_
  refine (zq_ic hm (pc' := 1129) rfl rfl rfl rfl).trans ?_
  refine (zq_iadd hm (pc' := 1130) rfl rfl rfl).trans ?_
  refine (zq_ix hm (pc' := 1131) rfl rfl rfl rfl rfl).trans (zite ?_ rfl)
  refine (zJ_n rfl).trans ?_
  refine (zq_aln hm (pc' := 1132) rfl rfl rfl rfl).trans ?_
  refine (zq_iln hm (pc' := 1133) rfl rfl rfl rfl).trans ?_
  refine (zq_ic hm (pc' := 1134) rfl rfl rfl rfl).trans ?_
  refine (zq_iadd hm (pc' := 1135) rfl rfl rfl).trans ?_
  refine (zq_ix hm (pc' := 1136) rfl rfl rfl rfl rfl).trans (zite ?_ rfl)
  refine (zJ_n rfl).trans ?_
  refine (zq_v1 hm (pc' := 1139) rfl rfl rfl (cls_57_12) rfl rfl).trans (zCI_c rfl (fun r4 s3 => ?_))
  refine (zJ_n rfl).trans ?_
  refine (zq_ieq hm (pc' := 1142) rfl rfl).trans (zite ?_ ?_)
  · refine (zJ_n rfl).trans ?_
    refine (zq_iinc hm (ls' := [some (.inl (some 1002)), some (.inl (some 0)), some (.inl (some 57)), some (.inr (.inl (zw (i + 6))))]) (pc' := 1472) rfl rfl rfl rfl rfl rfl).trans ?_
    exact (zc_goto hm rfl rfl).trans rfl
  · refine (zJ_n rfl).trans ?_
    refine (zq_ic hm (pc' := 1143) rfl rfl rfl rfl).trans ?_
    exact (zq_rb hm rfl rfl).trans (zif1 (by decide))
set_option maxRecDepth 100000 in
set_option maxHeartbeats 4000000 in
theorem e_L_law_c1144 (n : Nat) (xs : Nat → Int) (i : Int) (σ : zF) : C_L_law_1144 n xs i σ = (
if 0 ≤ zw (i + 1) ∧ zw (i + 1) < (n : Int) then (
zCI LAY (zx 200 138 [.inl (some 0), .inr (.inl (xs (zw (i + 1) : Int).toNat))] σ) fun r2 s1 =>
if 0 ≤ zw (i + 1) ∧ zw (i + 1) < (n : Int) then (
zCI LAY (zx 200 243 [.inl (some 57), .inr (.inl (xs (zw (i + 1) : Int).toNat))] s1) fun r4 s3 =>
if r2 = r4 then (
P_L_law_18 n xs (zw (i + 6)) s3) else (
zri 0 s3)) else (
none)) else (
none)) := by
  have hm := zexec_m zX2 zMT 200
  show zrunL (zXL n xs) (zexec zX2 zMT 200) K_L_law U_L_law 1144 [some (.inl (some 1002)), some (.inl (some 0)), some (.inl (some 57)), some (.inr (.inl i))] [] (LAY, σ) = _
  refine (zq_aln hm (pc' := 1145) rfl rfl rfl rfl).trans ?_
  refine (zq_aln hm (pc' := 1146) rfl rfl rfl rfl).trans ?_
  refine (zq_iln hm (pc' := 1147) rfl rfl rfl rfl).trans ?_
  refine (zq_ic hm (pc' := 1148) rfl rfl rfl rfl).trans ?_
  refine (zq_iadd hm (pc' := 1149) rfl rfl rfl).trans ?_
  refine (zq_ix hm (pc' := 1150) rfl rfl rfl rfl rfl).trans (zite ?_ rfl)
  refine (zJ_n rfl).trans ?_
  refine (zq_v1 hm (pc' := 1153) rfl rfl rfl (cls_0_11) rfl rfl).trans (zCI_c rfl (fun r2 s1 => ?_))
  refine (zJ_n rfl).trans ?_
  refine (zq_aln hm (pc' := 1154) rfl rfl rfl rfl).trans ?_
  refine (zq_aln hm (pc' := 1155) rfl rfl rfl rfl).trans ?_
  refine (zq_iln hm (pc' := 1156) rfl rfl rfl rfl).trans ?_
  refine (zq_ic hm (pc' := 1157) rfl rfl rfl rfl).trans ?_
  refine (zq_iadd hm (pc' := 1158) rfl rfl rfl).trans ?_
  refine (zq_ix hm (pc' := 1159) rfl rfl rfl rfl rfl).trans (zite ?_ rfl)
  refine (zJ_n rfl).trans ?_
  refine (zq_v1 hm (pc' := 1162) rfl rfl rfl (cls_57_12) rfl rfl).trans (zCI_c rfl (fun r4 s3 => ?_))
  refine (zJ_n rfl).trans ?_
  refine (zq_ieq hm (pc' := 1165) rfl rfl).trans (zite ?_ ?_)
  · refine (zJ_n rfl).trans ?_
    refine (zq_iinc hm (ls' := [some (.inl (some 1002)), some (.inl (some 0)), some (.inl (some 57)), some (.inr (.inl (zw (i + 6))))]) (pc' := 1472) rfl rfl rfl rfl rfl rfl).trans ?_
    exact (zc_goto hm rfl rfl).trans rfl
  · refine (zJ_n rfl).trans ?_
    refine (zq_ic hm (pc' := 1166) rfl rfl rfl rfl).trans ?_
    exact (zq_rb hm rfl rfl).trans (zif1 (by decide))
set_option maxRecDepth 100000 in
set_option maxHeartbeats 4000000 in
theorem e_L_law_c1167 (n : Nat) (xs : Nat → Int) (i : Int) (σ : zF) : C_L_law_1167 n xs i σ = (
if 0 ≤ zw (i + 1) ∧ zw (i + 1) < (n : Int) then (
if 0 ≤ zw (i + 2) ∧ zw (i + 2) < (n : Int) then (
zCI LAY (zx 200 139 [.inl (some 0), .inr (.inl (xs (zw (i + 1) : Int).toNat)), .inr (.inl (xs (zw (i + 2) : Int).toNat))] σ) fun r2 s1 =>
if 0 ≤ zw (i + 1) ∧ zw (i + 1) < (n : Int) then (
if 0 ≤ zw (i + 2) ∧ zw (i + 2) < (n : Int) then (
zCI LAY (zx 200 244 [.inl (some 57), .inr (.inl (xs (zw (i + 1) : Int).toNat)), .inr (.inl (xs (zw (i + 2) : Int).toNat))] s1) fun r4 s3 =>
if r2 = r4 then (
P_L_law_18 n xs (zw (i + 6)) s3) else (
zri 0 s3)) else (
none)) else (
none)) else (
none)) else (
none)) := by
  have hm := zexec_m zX2 zMT 200
  show zrunL (zXL n xs) (zexec zX2 zMT 200) K_L_law U_L_law 1167 [some (.inl (some 1002)), some (.inl (some 0)), some (.inl (some 57)), some (.inr (.inl i))] [] (LAY, σ) = _
  refine (zq_aln hm (pc' := 1168) rfl rfl rfl rfl).trans ?_
  refine (zq_aln hm (pc' := 1169) rfl rfl rfl rfl).trans ?_
  refine (zq_iln hm (pc' := 1170) rfl rfl rfl rfl).trans ?_
  refine (zq_ic hm (pc' := 1171) rfl rfl rfl rfl).trans ?_
  refine (zq_iadd hm (pc' := 1172) rfl rfl rfl).trans ?_
  refine (zq_ix hm (pc' := 1173) rfl rfl rfl rfl rfl).trans (zite ?_ rfl)
  refine (zJ_n rfl).trans ?_
  refine (zq_aln hm (pc' := 1174) rfl rfl rfl rfl).trans ?_
  refine (zq_iln hm (pc' := 1175) rfl rfl rfl rfl).trans ?_
  refine (zq_ic hm (pc' := 1176) rfl rfl rfl rfl).trans ?_
  refine (zq_iadd hm (pc' := 1177) rfl rfl rfl).trans ?_
  refine (zq_ix hm (pc' := 1178) rfl rfl rfl rfl rfl).trans (zite ?_ rfl)
  refine (zJ_n rfl).trans ?_
  refine (zq_v1 hm (pc' := 1181) rfl rfl rfl (cls_0_11) rfl rfl).trans (zCI_c rfl (fun r2 s1 => ?_))
  refine (zJ_n rfl).trans ?_
  refine (zq_aln hm (pc' := 1182) rfl rfl rfl rfl).trans ?_
  refine (zq_aln hm (pc' := 1183) rfl rfl rfl rfl).trans ?_
  refine (zq_iln hm (pc' := 1184) rfl rfl rfl rfl).trans ?_
  refine (zq_ic hm (pc' := 1185) rfl rfl rfl rfl).trans ?_
  refine (zq_iadd hm (pc' := 1186) rfl rfl rfl).trans ?_
  refine (zq_ix hm (pc' := 1187) rfl rfl rfl rfl rfl).trans (zite ?_ rfl)
  refine (zJ_n rfl).trans ?_
  refine (zq_aln hm (pc' := 1188) rfl rfl rfl rfl).trans ?_
  refine (zq_iln hm (pc' := 1189) rfl rfl rfl rfl).trans ?_
  refine (zq_ic hm (pc' := 1190) rfl rfl rfl rfl).trans ?_
  refine (zq_iadd hm (pc' := 1191) rfl rfl rfl).trans ?_
  refine (zq_ix hm (pc' := 1192) rfl rfl rfl rfl rfl).trans (zite ?_ rfl)
  refine (zJ_n rfl).trans ?_
  refine (zq_v1 hm (pc' := 1195) rfl rfl rfl (cls_57_12) rfl rfl).trans (zCI_c rfl (fun r4 s3 => ?_))
  refine (zJ_n rfl).trans ?_
  refine (zq_ieq hm (pc' := 1198) rfl rfl).trans (zite ?_ ?_)
  · refine (zJ_n rfl).trans ?_
    refine (zq_iinc hm (ls' := [some (.inl (some 1002)), some (.inl (some 0)), some (.inl (some 57)), some (.inr (.inl (zw (i + 6))))]) (pc' := 1472) rfl rfl rfl rfl rfl rfl).trans ?_
    exact (zc_goto hm rfl rfl).trans rfl
  · refine (zJ_n rfl).trans ?_
    refine (zq_ic hm (pc' := 1199) rfl rfl rfl rfl).trans ?_
    exact (zq_rb hm rfl rfl).trans (zif1 (by decide))
set_option maxRecDepth 100000 in
set_option maxHeartbeats 4000000 in
theorem e_L_law_c1200 (n : Nat) (xs : Nat → Int) (i : Int) (σ : zF) : C_L_law_1200 n xs i σ = (
if 0 ≤ zw (i + 1) ∧ zw (i + 1) < (n : Int) then (
if 0 ≤ zw (i + 2) ∧ zw (i + 2) < (n : Int) then (
if 0 ≤ zw (i + 3) ∧ zw (i + 3) < (n : Int) then (
zCI LAY (zx 200 140 [.inl (some 0), .inr (.inl (xs (zw (i + 1) : Int).toNat)), .inr (.inl (xs (zw (i + 2) : Int).toNat)), .inr (.inl (xs (zw (i + 3) : Int).toNat))] σ) fun r2 s1 =>
if 0 ≤ zw (i + 1) ∧ zw (i + 1) < (n : Int) then (
if 0 ≤ zw (i + 2) ∧ zw (i + 2) < (n : Int) then (
if 0 ≤ zw (i + 3) ∧ zw (i + 3) < (n : Int) then (
zCI LAY (zx 200 245 [.inl (some 57), .inr (.inl (xs (zw (i + 1) : Int).toNat)), .inr (.inl (xs (zw (i + 2) : Int).toNat)), .inr (.inl (xs (zw (i + 3) : Int).toNat))] s1) fun r4 s3 =>
if r2 = r4 then (
P_L_law_18 n xs (zw (i + 6)) s3) else (
zri 0 s3)) else (
none)) else (
none)) else (
none)) else (
none)) else (
none)) else (
none)) := by
  have hm := zexec_m zX2 zMT 200
  show zrunL (zXL n xs) (zexec zX2 zMT 200) K_L_law U_L_law 1200 [some (.inl (some 1002)), some (.inl (some 0)), some (.inl (some 57)), some (.inr (.inl i))] [] (LAY, σ) = _
  refine (zq_aln hm (pc' := 1201) rfl rfl rfl rfl).trans ?_
  refine (zq_aln hm (pc' := 1202) rfl rfl rfl rfl).trans ?_
  refine (zq_iln hm (pc' := 1203) rfl rfl rfl rfl).trans ?_
  refine (zq_ic hm (pc' := 1204) rfl rfl rfl rfl).trans ?_
  refine (zq_iadd hm (pc' := 1205) rfl rfl rfl).trans ?_
  refine (zq_ix hm (pc' := 1206) rfl rfl rfl rfl rfl).trans (zite ?_ rfl)
  refine (zJ_n rfl).trans ?_
  refine (zq_aln hm (pc' := 1207) rfl rfl rfl rfl).trans ?_
  refine (zq_iln hm (pc' := 1208) rfl rfl rfl rfl).trans ?_
  refine (zq_ic hm (pc' := 1209) rfl rfl rfl rfl).trans ?_
  refine (zq_iadd hm (pc' := 1210) rfl rfl rfl).trans ?_
  refine (zq_ix hm (pc' := 1211) rfl rfl rfl rfl rfl).trans (zite ?_ rfl)
  refine (zJ_n rfl).trans ?_
  refine (zq_aln hm (pc' := 1212) rfl rfl rfl rfl).trans ?_
  refine (zq_iln hm (pc' := 1213) rfl rfl rfl rfl).trans ?_
  refine (zq_ic hm (pc' := 1214) rfl rfl rfl rfl).trans ?_
  refine (zq_iadd hm (pc' := 1215) rfl rfl rfl).trans ?_
  refine (zq_ix hm (pc' := 1216) rfl rfl rfl rfl rfl).trans (zite ?_ rfl)
  refine (zJ_n rfl).trans ?_
  refine (zq_v1 hm (pc' := 1219) rfl rfl rfl (cls_0_11) rfl rfl).trans (zCI_c rfl (fun r2 s1 => ?_))
  refine (zJ_n rfl).trans ?_
  refine (zq_aln hm (pc' := 1220) rfl rfl rfl rfl).trans ?_
  refine (zq_aln hm (pc' := 1221) rfl rfl rfl rfl).trans ?_
  refine (zq_iln hm (pc' := 1222) rfl rfl rfl rfl).trans ?_
  refine (zq_ic hm (pc' := 1223) rfl rfl rfl rfl).trans ?_
  refine (zq_iadd hm (pc' := 1224) rfl rfl rfl).trans ?_
  refine (zq_ix hm (pc' := 1225) rfl rfl rfl rfl rfl).trans (zite ?_ rfl)
  refine (zJ_n rfl).trans ?_
  refine (zq_aln hm (pc' := 1226) rfl rfl rfl rfl).trans ?_
  refine (zq_iln hm (pc' := 1227) rfl rfl rfl rfl).trans ?_
  refine (zq_ic hm (pc' := 1228) rfl rfl rfl rfl).trans ?_
  refine (zq_iadd hm (pc' := 1229) rfl rfl rfl).trans ?_
  refine (zq_ix hm (pc' := 1230) rfl rfl rfl rfl rfl).trans (zite ?_ rfl)
  refine (zJ_n rfl).trans ?_
  refine (zq_aln hm (pc' := 1231) rfl rfl rfl rfl).trans ?_
  refine (zq_iln hm (pc' := 1232) rfl rfl rfl rfl).trans ?_
  refine (zq_ic hm (pc' := 1233) rfl rfl rfl rfl).trans ?_
  refine (zq_iadd hm (pc' := 1234) rfl rfl rfl).trans ?_
  refine (zq_ix hm (pc' := 1235) rfl rfl rfl rfl rfl).trans (zite ?_ rfl)
  refine (zJ_n rfl).trans ?_
  refine (zq_v1 hm (pc' := 1238) rfl rfl rfl (cls_57_12) rfl rfl).trans (zCI_c rfl (fun r4 s3 => ?_))
  refine (zJ_n rfl).trans ?_
  refine (zq_ieq hm (pc' := 1241) rfl rfl).trans (zite ?_ ?_)
  · refine (zJ_n rfl).trans ?_
    refine (zq_iinc hm (ls' := [some (.inl (some 1002)), some (.inl (some 0)), some (.inl (some 57)), some (.inr (.inl (zw (i + 6))))]) (pc' := 1472) rfl rfl rfl rfl rfl rfl).trans ?_
    exact (zc_goto hm rfl rfl).trans rfl
  · refine (zJ_n rfl).trans ?_
    refine (zq_ic hm (pc' := 1242) rfl rfl rfl rfl).trans ?_
    exact (zq_rb hm rfl rfl).trans (zif1 (by decide))
set_option maxRecDepth 100000 in
set_option maxHeartbeats 4000000 in
theorem e_L_law_c1243 (n : Nat) (xs : Nat → Int) (i : Int) (σ : zF) : C_L_law_1243 n xs i σ = (
if 0 ≤ zw (i + 1) ∧ zw (i + 1) < (n : Int) then (
if 0 ≤ zw (i + 2) ∧ zw (i + 2) < (n : Int) then (
if 0 ≤ zw (i + 3) ∧ zw (i + 3) < (n : Int) then (
if 0 ≤ zw (i + 4) ∧ zw (i + 4) < (n : Int) then (
zCI LAY (zx 200 141 [.inl (some 0), .inr (.inl (xs (zw (i + 1) : Int).toNat)), .inr (.inl (xs (zw (i + 2) : Int).toNat)), .inr (.inr (zorl (zshll (xs (zw (i + 3) : Int).toNat) 32) (zandl (xs (zw (i + 4) : Int).toNat) 4294967295)))] σ) fun r2 s1 =>
if 0 ≤ zw (i + 1) ∧ zw (i + 1) < (n : Int) then (
if 0 ≤ zw (i + 2) ∧ zw (i + 2) < (n : Int) then (
if 0 ≤ zw (i + 3) ∧ zw (i + 3) < (n : Int) then (
if 0 ≤ zw (i + 4) ∧ zw (i + 4) < (n : Int) then (
zCI LAY (zx 200 248 [.inl (some 57), .inr (.inl (xs (zw (i + 1) : Int).toNat)), .inr (.inl (xs (zw (i + 2) : Int).toNat)), .inr (.inr (zorl (zshll (xs (zw (i + 3) : Int).toNat) 32) (zandl (xs (zw (i + 4) : Int).toNat) 4294967295)))] s1) fun r4 s3 =>
if r2 = r4 then (
P_L_law_18 n xs (zw (i + 6)) s3) else (
zri 0 s3)) else (
none)) else (
none)) else (
none)) else (
none)) else (
none)) else (
none)) else (
none)) else (
none)) := by
  have hm := zexec_m zX2 zMT 200
  show zrunL (zXL n xs) (zexec zX2 zMT 200) K_L_law U_L_law 1243 [some (.inl (some 1002)), some (.inl (some 0)), some (.inl (some 57)), some (.inr (.inl i))] [] (LAY, σ) = _
  refine (zq_aln hm (pc' := 1244) rfl rfl rfl rfl).trans ?_
  refine (zq_aln hm (pc' := 1245) rfl rfl rfl rfl).trans ?_
  refine (zq_iln hm (pc' := 1246) rfl rfl rfl rfl).trans ?_
  refine (zq_ic hm (pc' := 1247) rfl rfl rfl rfl).trans ?_
  refine (zq_iadd hm (pc' := 1248) rfl rfl rfl).trans ?_
  refine (zq_ix hm (pc' := 1249) rfl rfl rfl rfl rfl).trans (zite ?_ rfl)
  refine (zJ_n rfl).trans ?_
  refine (zq_aln hm (pc' := 1250) rfl rfl rfl rfl).trans ?_
  refine (zq_iln hm (pc' := 1251) rfl rfl rfl rfl).trans ?_
  refine (zq_ic hm (pc' := 1252) rfl rfl rfl rfl).trans ?_
  refine (zq_iadd hm (pc' := 1253) rfl rfl rfl).trans ?_
  refine (zq_ix hm (pc' := 1254) rfl rfl rfl rfl rfl).trans (zite ?_ rfl)
  refine (zJ_n rfl).trans ?_
  refine (zq_aln hm (pc' := 1255) rfl rfl rfl rfl).trans ?_
  refine (zq_iln hm (pc' := 1256) rfl rfl rfl rfl).trans ?_
  refine (zq_ic hm (pc' := 1257) rfl rfl rfl rfl).trans ?_
  refine (zq_iadd hm (pc' := 1258) rfl rfl rfl).trans ?_
  refine (zq_ix hm (pc' := 1259) rfl rfl rfl rfl rfl).trans (zite ?_ rfl)
  refine (zJ_n rfl).trans ?_
  refine (zq_i2l hm (pc' := 1260) rfl rfl rfl).trans ?_
  refine (zq_bi hm (pc' := 1262) rfl rfl rfl rfl).trans ?_
  refine (zq_lshl hm (pc' := 1263) rfl rfl rfl).trans ?_
  refine (zq_aln hm (pc' := 1264) rfl rfl rfl rfl).trans ?_
  refine (zq_iln hm (pc' := 1265) rfl rfl rfl rfl).trans ?_
  refine (zq_ic hm (pc' := 1266) rfl rfl rfl rfl).trans ?_
  refine (zq_iadd hm (pc' := 1267) rfl rfl rfl).trans ?_
  refine (zq_ix hm (pc' := 1268) rfl rfl rfl rfl rfl).trans (zite ?_ rfl)
  refine (zJ_n rfl).trans ?_
  refine (zq_i2l hm (pc' := 1269) rfl rfl rfl).trans ?_
  refine (zq_l2 hm (pc' := 1272) rfl rfl rfl rfl).trans ?_
  refine (zq_land hm (pc' := 1273) rfl rfl rfl).trans ?_
  refine (zq_lor hm (pc' := 1274) rfl rfl rfl).trans ?_
  refine (zq_v1 hm (pc' := 1277) rfl rfl rfl (cls_0_11) rfl rfl).trans (zCI_c rfl (fun r2 s1 => ?_))
  refine (zJ_n rfl).trans ?_
  refine (zq_aln hm (pc' := 1278) rfl rfl rfl rfl).trans ?_
  refine (zq_aln hm (pc' := 1279) rfl rfl rfl rfl).trans ?_
  refine (zq_iln hm (pc' := 1280) rfl rfl rfl rfl).trans ?_
  refine (zq_ic hm (pc' := 1281) rfl rfl rfl rfl).trans ?_
  refine (zq_iadd hm (pc' := 1282) rfl rfl rfl).trans ?_
  refine (zq_ix hm (pc' := 1283) rfl rfl rfl rfl rfl).trans (zite ?_ rfl)
  refine (zJ_n rfl).trans ?_
  refine (zq_aln hm (pc' := 1284) rfl rfl rfl rfl).trans ?_
  refine (zq_iln hm (pc' := 1285) rfl rfl rfl rfl).trans ?_
  refine (zq_ic hm (pc' := 1286) rfl rfl rfl rfl).trans ?_
  refine (zq_iadd hm (pc' := 1287) rfl rfl rfl).trans ?_
  refine (zq_ix hm (pc' := 1288) rfl rfl rfl rfl rfl).trans (zite ?_ rfl)
  refine (zJ_n rfl).trans ?_
  refine (zq_aln hm (pc' := 1289) rfl rfl rfl rfl).trans ?_
  refine (zq_iln hm (pc' := 1290) rfl rfl rfl rfl).trans ?_
  refine (zq_ic hm (pc' := 1291) rfl rfl rfl rfl).trans ?_
  refine (zq_iadd hm (pc' := 1292) rfl rfl rfl).trans ?_
  refine (zq_ix hm (pc' := 1293) rfl rfl rfl rfl rfl).trans (zite ?_ rfl)
  refine (zJ_n rfl).trans ?_
  refine (zq_i2l hm (pc' := 1294) rfl rfl rfl).trans ?_
  refine (zq_bi hm (pc' := 1296) rfl rfl rfl rfl).trans ?_
  refine (zq_lshl hm (pc' := 1297) rfl rfl rfl).trans ?_
  refine (zq_aln hm (pc' := 1298) rfl rfl rfl rfl).trans ?_
  refine (zq_iln hm (pc' := 1299) rfl rfl rfl rfl).trans ?_
  refine (zq_ic hm (pc' := 1300) rfl rfl rfl rfl).trans ?_
  refine (zq_iadd hm (pc' := 1301) rfl rfl rfl).trans ?_
  refine (zq_ix hm (pc' := 1302) rfl rfl rfl rfl rfl).trans (zite ?_ rfl)
  refine (zJ_n rfl).trans ?_
  refine (zq_i2l hm (pc' := 1303) rfl rfl rfl).trans ?_
  refine (zq_l2 hm (pc' := 1306) rfl rfl rfl rfl).trans ?_
  refine (zq_land hm (pc' := 1307) rfl rfl rfl).trans ?_
  refine (zq_lor hm (pc' := 1308) rfl rfl rfl).trans ?_
  refine (zq_v1 hm (pc' := 1311) rfl rfl rfl (cls_57_12) rfl rfl).trans (zCI_c rfl (fun r4 s3 => ?_))
  refine (zJ_n rfl).trans ?_
  refine (zq_ieq hm (pc' := 1314) rfl rfl).trans (zite ?_ ?_)
  · refine (zJ_n rfl).trans ?_
    refine (zq_iinc hm (ls' := [some (.inl (some 1002)), some (.inl (some 0)), some (.inl (some 57)), some (.inr (.inl (zw (i + 6))))]) (pc' := 1472) rfl rfl rfl rfl rfl rfl).trans ?_
    exact (zc_goto hm rfl rfl).trans rfl
  · refine (zJ_n rfl).trans ?_
    refine (zq_ic hm (pc' := 1315) rfl rfl rfl rfl).trans ?_
    exact (zq_rb hm rfl rfl).trans (zif1 (by decide))
set_option maxRecDepth 100000 in
set_option maxHeartbeats 4000000 in
theorem e_L_law_c1316 (n : Nat) (xs : Nat → Int) (i : Int) (σ : zF) : C_L_law_1316 n xs i σ = (
if 0 ≤ zw (i + 1) ∧ zw (i + 1) < (n : Int) then (
if 0 ≤ zw (i + 2) ∧ zw (i + 2) < (n : Int) then (
zCJ LAY (zx 200 142 [.inl (some 0), .inr (.inl (xs (zw (i + 1) : Int).toNat)), .inr (.inl (xs (zw (i + 2) : Int).toNat))] σ) fun r2 s1 =>
if 0 ≤ zw (i + 1) ∧ zw (i + 1) < (n : Int) then (
if 0 ≤ zw (i + 2) ∧ zw (i + 2) < (n : Int) then (
zCJ LAY (zx 200 249 [.inl (some 57), .inr (.inl (xs (zw (i + 1) : Int).toNat)), .inr (.inl (xs (zw (i + 2) : Int).toNat))] s1) fun r4 s3 =>
if zcmpl r2 r4 = 0 then (
P_L_law_18 n xs (zw (i + 6)) s3) else (
zri 0 s3)) else (
none)) else (
none)) else (
none)) else (
none)) := by
  have hm := zexec_m zX2 zMT 200
  show zrunL (zXL n xs) (zexec zX2 zMT 200) K_L_law U_L_law 1316 [some (.inl (some 1002)), some (.inl (some 0)), some (.inl (some 57)), some (.inr (.inl i))] [] (LAY, σ) = _
  refine (zq_aln hm (pc' := 1317) rfl rfl rfl rfl).trans ?_
  refine (zq_aln hm (pc' := 1318) rfl rfl rfl rfl).trans ?_
  refine (zq_iln hm (pc' := 1319) rfl rfl rfl rfl).trans ?_
  refine (zq_ic hm (pc' := 1320) rfl rfl rfl rfl).trans ?_
  refine (zq_iadd hm (pc' := 1321) rfl rfl rfl).trans ?_
  refine (zq_ix hm (pc' := 1322) rfl rfl rfl rfl rfl).trans (zite ?_ rfl)
  refine (zJ_n rfl).trans ?_
  refine (zq_aln hm (pc' := 1323) rfl rfl rfl rfl).trans ?_
  refine (zq_iln hm (pc' := 1324) rfl rfl rfl rfl).trans ?_
  refine (zq_ic hm (pc' := 1325) rfl rfl rfl rfl).trans ?_
  refine (zq_iadd hm (pc' := 1326) rfl rfl rfl).trans ?_
  refine (zq_ix hm (pc' := 1327) rfl rfl rfl rfl rfl).trans (zite ?_ rfl)
  refine (zJ_n rfl).trans ?_
  refine (zq_v2 hm (pc' := 1330) rfl rfl rfl (cls_0_11) rfl rfl).trans (zCJ_c rfl (fun r2 s1 => ?_))
  refine (zJ_n rfl).trans ?_
  refine (zq_aln hm (pc' := 1331) rfl rfl rfl rfl).trans ?_
  refine (zq_aln hm (pc' := 1332) rfl rfl rfl rfl).trans ?_
  refine (zq_iln hm (pc' := 1333) rfl rfl rfl rfl).trans ?_
  refine (zq_ic hm (pc' := 1334) rfl rfl rfl rfl).trans ?_
  refine (zq_iadd hm (pc' := 1335) rfl rfl rfl).trans ?_
  refine (zq_ix hm (pc' := 1336) rfl rfl rfl rfl rfl).trans (zite ?_ rfl)
  refine (zJ_n rfl).trans ?_
  refine (zq_aln hm (pc' := 1337) rfl rfl rfl rfl).trans ?_
  refine (zq_iln hm (pc' := 1338) rfl rfl rfl rfl).trans ?_
  refine (zq_ic hm (pc' := 1339) rfl rfl rfl rfl).trans ?_
  refine (zq_iadd hm (pc' := 1340) rfl rfl rfl).trans ?_
  refine (zq_ix hm (pc' := 1341) rfl rfl rfl rfl rfl).trans (zite ?_ rfl)
  refine (zJ_n rfl).trans ?_
  refine (zq_v2 hm (pc' := 1344) rfl rfl rfl (cls_57_12) rfl rfl).trans (zCJ_c rfl (fun r4 s3 => ?_))
  refine (zJ_n rfl).trans ?_
  refine (zq_lcmp hm (pc' := 1345) rfl rfl rfl).trans ?_
  refine (zq_zeq hm (pc' := 1348) rfl rfl).trans (zite ?_ ?_)
  · refine (zJ_n rfl).trans ?_
    refine (zq_iinc hm (ls' := [some (.inl (some 1002)), some (.inl (some 0)), some (.inl (some 57)), some (.inr (.inl (zw (i + 6))))]) (pc' := 1472) rfl rfl rfl rfl rfl rfl).trans ?_
    exact (zc_goto hm rfl rfl).trans rfl
  · refine (zJ_n rfl).trans ?_
    refine (zq_ic hm (pc' := 1349) rfl rfl rfl rfl).trans ?_
    exact (zq_rb hm rfl rfl).trans (zif1 (by decide))
set_option maxRecDepth 100000 in
set_option maxHeartbeats 4000000 in
theorem e_L_law_c1350 (n : Nat) (xs : Nat → Int) (i : Int) (σ : zF) : C_L_law_1350 n xs i σ = (
if 0 ≤ zw (i + 1) ∧ zw (i + 1) < (n : Int) then (
if 0 ≤ zw (i + 2) ∧ zw (i + 2) < (n : Int) then (
if 0 ≤ zw (i + 3) ∧ zw (i + 3) < (n : Int) then (
if 0 ≤ zw (i + 4) ∧ zw (i + 4) < (n : Int) then (
if 0 ≤ zw (i + 5) ∧ zw (i + 5) < (n : Int) then (
zCI LAY (zx 200 143 [.inl (some 0), .inr (.inl (xs (zw (i + 1) : Int).toNat)), .inr (.inl (xs (zw (i + 2) : Int).toNat)), .inr (.inl (xs (zw (i + 3) : Int).toNat)), .inr (.inl (xs (zw (i + 4) : Int).toNat)), .inr (.inl (xs (zw (i + 5) : Int).toNat))] σ) fun r2 s1 =>
if 0 ≤ zw (i + 1) ∧ zw (i + 1) < (n : Int) then (
if 0 ≤ zw (i + 2) ∧ zw (i + 2) < (n : Int) then (
if 0 ≤ zw (i + 3) ∧ zw (i + 3) < (n : Int) then (
if 0 ≤ zw (i + 4) ∧ zw (i + 4) < (n : Int) then (
if 0 ≤ zw (i + 5) ∧ zw (i + 5) < (n : Int) then (
zCI LAY (zx 200 250 [.inl (some 57), .inr (.inl (xs (zw (i + 1) : Int).toNat)), .inr (.inl (xs (zw (i + 2) : Int).toNat)), .inr (.inl (xs (zw (i + 3) : Int).toNat)), .inr (.inl (xs (zw (i + 4) : Int).toNat)), .inr (.inl (xs (zw (i + 5) : Int).toNat))] s1) fun r4 s3 =>
if r2 = r4 then (
P_L_law_18 n xs (zw (i + 6)) s3) else (
zri 0 s3)) else (
none)) else (
none)) else (
none)) else (
none)) else (
none)) else (
none)) else (
none)) else (
none)) else (
none)) else (
none)) := by
  have hm := zexec_m zX2 zMT 200
  show zrunL (zXL n xs) (zexec zX2 zMT 200) K_L_law U_L_law 1350 [some (.inl (some 1002)), some (.inl (some 0)), some (.inl (some 57)), some (.inr (.inl i))] [] (LAY, σ) = _
  refine (zq_aln hm (pc' := 1351) rfl rfl rfl rfl).trans ?_
  refine (zq_aln hm (pc' := 1352) rfl rfl rfl rfl).trans ?_
  refine (zq_iln hm (pc' := 1353) rfl rfl rfl rfl).trans ?_
  refine (zq_ic hm (pc' := 1354) rfl rfl rfl rfl).trans ?_
  refine (zq_iadd hm (pc' := 1355) rfl rfl rfl).trans ?_
  refine (zq_ix hm (pc' := 1356) rfl rfl rfl rfl rfl).trans (zite ?_ rfl)
  refine (zJ_n rfl).trans ?_
  refine (zq_aln hm (pc' := 1357) rfl rfl rfl rfl).trans ?_
  refine (zq_iln hm (pc' := 1358) rfl rfl rfl rfl).trans ?_
  refine (zq_ic hm (pc' := 1359) rfl rfl rfl rfl).trans ?_
  refine (zq_iadd hm (pc' := 1360) rfl rfl rfl).trans ?_
  refine (zq_ix hm (pc' := 1361) rfl rfl rfl rfl rfl).trans (zite ?_ rfl)
  refine (zJ_n rfl).trans ?_
  refine (zq_aln hm (pc' := 1362) rfl rfl rfl rfl).trans ?_
  refine (zq_iln hm (pc' := 1363) rfl rfl rfl rfl).trans ?_
  refine (zq_ic hm (pc' := 1364) rfl rfl rfl rfl).trans ?_
  refine (zq_iadd hm (pc' := 1365) rfl rfl rfl).trans ?_
  refine (zq_ix hm (pc' := 1366) rfl rfl rfl rfl rfl).trans (zite ?_ rfl)
  refine (zJ_n rfl).trans ?_
  refine (zq_aln hm (pc' := 1367) rfl rfl rfl rfl).trans ?_
  refine (zq_iln hm (pc' := 1368) rfl rfl rfl rfl).trans ?_
  refine (zq_ic hm (pc' := 1369) rfl rfl rfl rfl).trans ?_
  refine (zq_iadd hm (pc' := 1370) rfl rfl rfl).trans ?_
  refine (zq_ix hm (pc' := 1371) rfl rfl rfl rfl rfl).trans (zite ?_ rfl)
  refine (zJ_n rfl).trans ?_
  refine (zq_aln hm (pc' := 1372) rfl rfl rfl rfl).trans ?_
  refine (zq_iln hm (pc' := 1373) rfl rfl rfl rfl).trans ?_
  refine (zq_ic hm (pc' := 1374) rfl rfl rfl rfl).trans ?_
  refine (zq_iadd hm (pc' := 1375) rfl rfl rfl).trans ?_
  refine (zq_ix hm (pc' := 1376) rfl rfl rfl rfl rfl).trans (zite ?_ rfl)
  refine (zJ_n rfl).trans ?_
  refine (zq_v1 hm (pc' := 1379) rfl rfl rfl (cls_0_11) rfl rfl).trans (zCI_c rfl (fun r2 s1 => ?_))
  refine (zJ_n rfl).trans ?_
  refine (zq_aln hm (pc' := 1380) rfl rfl rfl rfl).trans ?_
  refine (zq_aln hm (pc' := 1381) rfl rfl rfl rfl).trans ?_
  refine (zq_iln hm (pc' := 1382) rfl rfl rfl rfl).trans ?_
  refine (zq_ic hm (pc' := 1383) rfl rfl rfl rfl).trans ?_
  refine (zq_iadd hm (pc' := 1384) rfl rfl rfl).trans ?_
  refine (zq_ix hm (pc' := 1385) rfl rfl rfl rfl rfl).trans (zite ?_ rfl)
  refine (zJ_n rfl).trans ?_
  refine (zq_aln hm (pc' := 1386) rfl rfl rfl rfl).trans ?_
  refine (zq_iln hm (pc' := 1387) rfl rfl rfl rfl).trans ?_
  refine (zq_ic hm (pc' := 1388) rfl rfl rfl rfl).trans ?_
  refine (zq_iadd hm (pc' := 1389) rfl rfl rfl).trans ?_
  refine (zq_ix hm (pc' := 1390) rfl rfl rfl rfl rfl).trans (zite ?_ rfl)
  refine (zJ_n rfl).trans ?_
  refine (zq_aln hm (pc' := 1391) rfl rfl rfl rfl).trans ?_
  refine (zq_iln hm (pc' := 1392) rfl rfl rfl rfl).trans ?_
  refine (zq_ic hm (pc' := 1393) rfl rfl rfl rfl).trans ?_
  refine (zq_iadd hm (pc' := 1394) rfl rfl rfl).trans ?_
  refine (zq_ix hm (pc' := 1395) rfl rfl rfl rfl rfl).trans (zite ?_ rfl)
  refine (zJ_n rfl).trans ?_
  refine (zq_aln hm (pc' := 1396) rfl rfl rfl rfl).trans ?_
  refine (zq_iln hm (pc' := 1397) rfl rfl rfl rfl).trans ?_
  refine (zq_ic hm (pc' := 1398) rfl rfl rfl rfl).trans ?_
  refine (zq_iadd hm (pc' := 1399) rfl rfl rfl).trans ?_
  refine (zq_ix hm (pc' := 1400) rfl rfl rfl rfl rfl).trans (zite ?_ rfl)
  refine (zJ_n rfl).trans ?_
  refine (zq_aln hm (pc' := 1401) rfl rfl rfl rfl).trans ?_
  refine (zq_iln hm (pc' := 1402) rfl rfl rfl rfl).trans ?_
  refine (zq_ic hm (pc' := 1403) rfl rfl rfl rfl).trans ?_
  refine (zq_iadd hm (pc' := 1404) rfl rfl rfl).trans ?_
  refine (zq_ix hm (pc' := 1405) rfl rfl rfl rfl rfl).trans (zite ?_ rfl)
  refine (zJ_n rfl).trans ?_
  refine (zq_v1 hm (pc' := 1408) rfl rfl rfl (cls_57_12) rfl rfl).trans (zCI_c rfl (fun r4 s3 => ?_))
  refine (zJ_n rfl).trans ?_
  refine (zq_ieq hm (pc' := 1411) rfl rfl).trans (zite ?_ ?_)
  · refine (zJ_n rfl).trans ?_
    refine (zq_iinc hm (ls' := [some (.inl (some 1002)), some (.inl (some 0)), some (.inl (some 57)), some (.inr (.inl (zw (i + 6))))]) (pc' := 1472) rfl rfl rfl rfl rfl rfl).trans ?_
    exact (zc_goto hm rfl rfl).trans rfl
  · refine (zJ_n rfl).trans ?_
    refine (zq_ic hm (pc' := 1412) rfl rfl rfl rfl).trans ?_
    exact (zq_rb hm rfl rfl).trans (zif1 (by decide))
set_option maxRecDepth 100000 in
set_option maxHeartbeats 4000000 in
theorem e_L_law_c1413 (n : Nat) (xs : Nat → Int) (i : Int) (σ : zF) : C_L_law_1413 n xs i σ = (
if 0 ≤ zw (i + 1) ∧ zw (i + 1) < (n : Int) then (
if 0 ≤ zw (i + 2) ∧ zw (i + 2) < (n : Int) then (
zCI LAY (zx 200 144 [.inl (some 0), .inr (.inl (xs (zw (i + 1) : Int).toNat)), .inr (.inl (xs (zw (i + 2) : Int).toNat))] σ) fun r2 s1 =>
if 0 ≤ zw (i + 1) ∧ zw (i + 1) < (n : Int) then (
if 0 ≤ zw (i + 2) ∧ zw (i + 2) < (n : Int) then (
zCI LAY (zx 200 251 [.inl (some 57), .inr (.inl (xs (zw (i + 1) : Int).toNat)), .inr (.inl (xs (zw (i + 2) : Int).toNat))] s1) fun r4 s3 =>
if r2 = r4 then (
P_L_law_18 n xs (zw (i + 6)) s3) else (
zri 0 s3)) else (
none)) else (
none)) else (
none)) else (
none)) := by
  have hm := zexec_m zX2 zMT 200
  show zrunL (zXL n xs) (zexec zX2 zMT 200) K_L_law U_L_law 1413 [some (.inl (some 1002)), some (.inl (some 0)), some (.inl (some 57)), some (.inr (.inl i))] [] (LAY, σ) = _
  refine (zq_aln hm (pc' := 1414) rfl rfl rfl rfl).trans ?_
  refine (zq_aln hm (pc' := 1415) rfl rfl rfl rfl).trans ?_
  refine (zq_iln hm (pc' := 1416) rfl rfl rfl rfl).trans ?_
  refine (zq_ic hm (pc' := 1417) rfl rfl rfl rfl).trans ?_
  refine (zq_iadd hm (pc' := 1418) rfl rfl rfl).trans ?_
  refine (zq_ix hm (pc' := 1419) rfl rfl rfl rfl rfl).trans (zite ?_ rfl)
  refine (zJ_n rfl).trans ?_
  refine (zq_aln hm (pc' := 1420) rfl rfl rfl rfl).trans ?_
  refine (zq_iln hm (pc' := 1421) rfl rfl rfl rfl).trans ?_
  refine (zq_ic hm (pc' := 1422) rfl rfl rfl rfl).trans ?_
  refine (zq_iadd hm (pc' := 1423) rfl rfl rfl).trans ?_
  refine (zq_ix hm (pc' := 1424) rfl rfl rfl rfl rfl).trans (zite ?_ rfl)
  refine (zJ_n rfl).trans ?_
  refine (zq_v1 hm (pc' := 1427) rfl rfl rfl (cls_0_11) rfl rfl).trans (zCI_c rfl (fun r2 s1 => ?_))
  refine (zJ_n rfl).trans ?_
  refine (zq_aln hm (pc' := 1428) rfl rfl rfl rfl).trans ?_
  refine (zq_aln hm (pc' := 1429) rfl rfl rfl rfl).trans ?_
  refine (zq_iln hm (pc' := 1430) rfl rfl rfl rfl).trans ?_
  refine (zq_ic hm (pc' := 1431) rfl rfl rfl rfl).trans ?_
  refine (zq_iadd hm (pc' := 1432) rfl rfl rfl).trans ?_
  refine (zq_ix hm (pc' := 1433) rfl rfl rfl rfl rfl).trans (zite ?_ rfl)
  refine (zJ_n rfl).trans ?_
  refine (zq_aln hm (pc' := 1434) rfl rfl rfl rfl).trans ?_
  refine (zq_iln hm (pc' := 1435) rfl rfl rfl rfl).trans ?_
  refine (zq_ic hm (pc' := 1436) rfl rfl rfl rfl).trans ?_
  refine (zq_iadd hm (pc' := 1437) rfl rfl rfl).trans ?_
  refine (zq_ix hm (pc' := 1438) rfl rfl rfl rfl rfl).trans (zite ?_ rfl)
  refine (zJ_n rfl).trans ?_
  refine (zq_v1 hm (pc' := 1441) rfl rfl rfl (cls_57_12) rfl rfl).trans (zCI_c rfl (fun r4 s3 => ?_))
  refine (zJ_n rfl).trans ?_
  refine (zq_ieq hm (pc' := 1444) rfl rfl).trans (zite ?_ ?_)
  · refine (zJ_n rfl).trans ?_
    refine (zq_iinc hm (ls' := [some (.inl (some 1002)), some (.inl (some 0)), some (.inl (some 57)), some (.inr (.inl (zw (i + 6))))]) (pc' := 1472) rfl rfl rfl rfl rfl rfl).trans ?_
    exact (zc_goto hm rfl rfl).trans rfl
  · refine (zJ_n rfl).trans ?_
    refine (zq_ic hm (pc' := 1445) rfl rfl rfl rfl).trans ?_
    exact (zq_rb hm rfl rfl).trans (zif1 (by decide))
set_option maxRecDepth 100000 in
set_option maxHeartbeats 4000000 in
theorem e_L_law_c1446 (n : Nat) (xs : Nat → Int) (i : Int) (σ : zF) : C_L_law_1446 n xs i σ = (
if 0 ≤ zw (i + 1) ∧ zw (i + 1) < (n : Int) then (
zCI LAY (zx 200 145 [.inl (some 0), .inr (.inl (xs (zw (i + 1) : Int).toNat))] σ) fun r2 s1 =>
if 0 ≤ zw (i + 1) ∧ zw (i + 1) < (n : Int) then (
zCI LAY (zx 200 252 [.inl (some 57), .inr (.inl (xs (zw (i + 1) : Int).toNat))] s1) fun r4 s3 =>
if r2 = r4 then (
P_L_law_18 n xs (zw (i + 6)) s3) else (
zri 0 s3)) else (
none)) else (
none)) := by
  have hm := zexec_m zX2 zMT 200
  show zrunL (zXL n xs) (zexec zX2 zMT 200) K_L_law U_L_law 1446 [some (.inl (some 1002)), some (.inl (some 0)), some (.inl (some 57)), some (.inr (.inl i))] [] (LAY, σ) = _
  refine (zq_aln hm (pc' := 1447) rfl rfl rfl rfl).trans ?_
  refine (zq_aln hm (pc' := 1448) rfl rfl rfl rfl).trans ?_
  refine (zq_iln hm (pc' := 1449) rfl rfl rfl rfl).trans ?_
  refine (zq_ic hm (pc' := 1450) rfl rfl rfl rfl).trans ?_
  refine (zq_iadd hm (pc' := 1451) rfl rfl rfl).trans ?_
  refine (zq_ix hm (pc' := 1452) rfl rfl rfl rfl rfl).trans (zite ?_ rfl)
  refine (zJ_n rfl).trans ?_
  refine (zq_v1 hm (pc' := 1455) rfl rfl rfl (cls_0_11) rfl rfl).trans (zCI_c rfl (fun r2 s1 => ?_))
  refine (zJ_n rfl).trans ?_
  refine (zq_aln hm (pc' := 1456) rfl rfl rfl rfl).trans ?_
  refine (zq_aln hm (pc' := 1457) rfl rfl rfl rfl).trans ?_
  refine (zq_iln hm (pc' := 1458) rfl rfl rfl rfl).trans ?_
  refine (zq_ic hm (pc' := 1459) rfl rfl rfl rfl).trans ?_
  refine (zq_iadd hm (pc' := 1460) rfl rfl rfl).trans ?_
  refine (zq_ix hm (pc' := 1461) rfl rfl rfl rfl rfl).trans (zite ?_ rfl)
  refine (zJ_n rfl).trans ?_
  refine (zq_v1 hm (pc' := 1464) rfl rfl rfl (cls_57_12) rfl rfl).trans (zCI_c rfl (fun r4 s3 => ?_))
  refine (zJ_n rfl).trans ?_
  refine (zq_ieq hm (pc' := 1467) rfl rfl).trans (zite ?_ ?_)
  · refine (zJ_n rfl).trans ?_
    refine (zq_iinc hm (ls' := [some (.inl (some 1002)), some (.inl (some 0)), some (.inl (some 57)), some (.inr (.inl (zw (i + 6))))]) (pc' := 1472) rfl rfl rfl rfl rfl rfl).trans ?_
    exact (zc_goto hm rfl rfl).trans rfl
  · refine (zJ_n rfl).trans ?_
    refine (zq_ic hm (pc' := 1468) rfl rfl rfl rfl).trans ?_
    exact (zq_rb hm rfl rfl).trans (zif1 (by decide))
