/-! whole numbers and the machine's ints and longs -/
theorem zw_in (x : Int) : zin (zw x) := by unfold zin zw; omega
theorem zwl_in (x : Int) : zinl (zwl x) := by unfold zinl zwl; omega
theorem zw_id {x : Int} (h : zin x) : zw x = x := by unfold zin at h; unfold zw; omega
theorem zwl_id {x : Int} (h : zinl x) : zwl x = x := by unfold zinl at h; unfold zwl; omega
theorem zi_toInt {x : Int} (h : zin x) : (Int32.ofInt x).toInt = x := by
  unfold zin at h
  rw [Int32.toInt_ofInt]
  exact Int.bmod_eq_of_le (by rw [show (Int32.size : Int) = 4294967296 from rfl]; omega) (by rw [show (Int32.size : Int) = 4294967296 from rfl]; omega)
theorem zi_in (x : Int32) : zin x.toInt := by
  have h1 := Int32.le_toInt x
  have h2 := Int32.toInt_lt x
  unfold zin
  omega
theorem zj_toInt {x : Int} (h : zinl x) : (Int64.ofInt x).toInt = x := by
  unfold zinl at h
  rw [Int64.toInt_ofInt]
  exact Int.bmod_eq_of_le (by rw [show (Int64.size : Int) = 18446744073709551616 from rfl]; omega) (by rw [show (Int64.size : Int) = 18446744073709551616 from rfl]; omega)
theorem zj_in (x : Int64) : zinl x.toInt := by
  have h1 := Int64.le_toInt x
  have h2 := Int64.toInt_lt x
  unfold zinl
  omega
theorem zw_bmod (x : Int) : zw x = x.bmod (2 ^ 32) := by
  unfold zw Int.bmod
  dsimp only
  rw [show ((2 ^ 32 : Nat) : Int) = 4294967296 from rfl]
  split <;> omega
theorem zwl_bmod (x : Int) : zwl x = x.bmod (2 ^ 64) := by
  unfold zwl Int.bmod
  dsimp only
  rw [show ((2 ^ 64 : Nat) : Int) = 18446744073709551616 from rfl]
  split <;> omega
theorem zw_of (x : Int) : Int32.ofInt (zw x) = Int32.ofInt x := by
  apply Int32.toInt_inj.mp
  rw [zi_toInt (zw_in x), Int32.toInt_ofInt, zw_bmod]
theorem zwl_of (x : Int) : Int64.ofInt (zwl x) = Int64.ofInt x := by
  apply Int64.toInt_inj.mp
  rw [zj_toInt (zwl_in x), Int64.toInt_ofInt, zwl_bmod]
theorem zi_eq {x y : Int} (hx : zin x) (hy : zin y) : Int32.ofInt x = Int32.ofInt y ↔ x = y := by
  rw [← Int32.toInt_inj, zi_toInt hx, zi_toInt hy]
theorem zi_lt {x y : Int} (hx : zin x) (hy : zin y) : Int32.ofInt x < Int32.ofInt y ↔ x < y := by
  rw [Int32.lt_iff_toInt_lt, zi_toInt hx, zi_toInt hy]
theorem zi_le {x y : Int} (hx : zin x) (hy : zin y) : Int32.ofInt x ≤ Int32.ofInt y ↔ x ≤ y := by
  rw [Int32.le_iff_toInt_le, zi_toInt hx, zi_toInt hy]
theorem zi_add (x y : Int) : Int32.ofInt (zw (x + y)) = Int32.ofInt x + Int32.ofInt y := by rw [zw_of, Int32.ofInt_add]
theorem zi_sub (x y : Int) : Int32.ofInt (zw (x - y)) = Int32.ofInt x - Int32.ofInt y := by rw [zw_of, Int32.ofInt_sub]
theorem zi_mul (x y : Int) : Int32.ofInt (zw (x * y)) = Int32.ofInt x * Int32.ofInt y := by rw [zw_of, Int32.ofInt_mul]
theorem zi_neg (x : Int) : Int32.ofInt (zw (-x)) = - Int32.ofInt x := by rw [zw_of, Int32.ofInt_neg]
theorem zj_add (x y : Int) : Int64.ofInt (zwl (x + y)) = Int64.ofInt x + Int64.ofInt y := by rw [zwl_of, Int64.ofInt_add]
theorem zj_mul (x y : Int) : Int64.ofInt (zwl (x * y)) = Int64.ofInt x * Int64.ofInt y := by rw [zwl_of, Int64.ofInt_mul]
theorem zi_div {x y : Int} (hx : zin x) (hy : zin y) : Int32.ofInt (zdiv x y) = Int32.ofInt x / Int32.ofInt y := by
  apply Int32.toInt_inj.mp
  rw [Int32.toInt_div, zi_toInt hx, zi_toInt hy]
  unfold zdiv
  rw [zi_toInt (zw_in _), zw_bmod]
theorem zrem_in {x y : Int} (hx : zin x) (hy : ¬ y = 0) : zin (zrem x y) := by
  unfold zrem zin at *
  have h1 : (x.tmod y).natAbs ≤ x.natAbs := by
    rw [Int.natAbs_tmod]
    exact Nat.mod_le _ _
  by_cases h : 0 ≤ x
  · have h2 := Int.tmod_nonneg y h
    omega
  · have h3 : 0 ≤ (-x).tmod y := Int.tmod_nonneg y (by omega)
    rw [Int.neg_tmod] at h3
    omega
theorem zi_rem {x y : Int} (hx : zin x) (hy : zin y) (h0 : ¬ y = 0) : Int32.ofInt (zrem x y) = Int32.ofInt x - Int32.ofInt x / Int32.ofInt y * Int32.ofInt y := by
  rw [← zi_div hx hy]
  unfold zdiv
  rw [zw_of, ← Int32.ofInt_mul, ← Int32.ofInt_sub]
  congr 1
  unfold zrem
  have := Int.mul_tdiv_add_tmod x y
  rw [Int.mul_comm] at this
  omega
theorem zi_and (x y : Int) : Int32.ofInt (zand x y) = Int32.ofInt x &&& Int32.ofInt y := by unfold zand; rw [Int32.ofInt_toInt]
theorem zi_or (x y : Int) : Int32.ofInt (zor x y) = Int32.ofInt x ||| Int32.ofInt y := by unfold zor; rw [Int32.ofInt_toInt]
theorem zi_xor (x y : Int) : Int32.ofInt (zxor x y) = Int32.ofInt x ^^^ Int32.ofInt y := by unfold zxor; rw [Int32.ofInt_toInt]
theorem zi_shl (x y : Int) : Int32.ofInt (zshl x y) = Int32.ofInt x <<< (Int32.ofInt y &&& 31) := by unfold zshl; rw [Int32.ofInt_toInt]
theorem zi_shr (x y : Int) : Int32.ofInt (zshr x y) = Int32.ofInt x >>> (Int32.ofInt y &&& 31) := by unfold zshr; rw [Int32.ofInt_toInt]
theorem zi_ushr (x y : Int) : ((Int32.ofInt x).toUInt32 >>> ((Int32.ofInt y).toUInt32 &&& Int32.toUInt32 31)).toInt32 = Int32.ofInt (zushr x y) := by unfold zushr; rw [Int32.ofInt_toInt]
theorem zj_and (x y : Int) : Int64.ofInt (zandl x y) = Int64.ofInt x &&& Int64.ofInt y := by unfold zandl; rw [Int64.ofInt_toInt]
theorem zj_or (x y : Int) : Int64.ofInt (zorl x y) = Int64.ofInt x ||| Int64.ofInt y := by unfold zorl; rw [Int64.ofInt_toInt]
theorem zj_shl (x y : Int) : Int64.ofInt x <<< ((Int32.ofInt y).toInt64 &&& 63) = Int64.ofInt (zshll x y) := by unfold zshll; rw [Int64.ofInt_toInt]
theorem zi_2b (x : Int) : (Int32.ofInt x).toInt8.toInt32 = Int32.ofInt (zi2b x) := by unfold zi2b; rw [Int32.ofInt_toInt]
theorem zi_2s (x : Int) : (Int32.ofInt x).toInt16.toInt32 = Int32.ofInt (zi2s x) := by unfold zi2s; rw [Int32.ofInt_toInt]
theorem zi_2l {x : Int} (h : zin x) : (Int32.ofInt x).toInt64 = Int64.ofInt x := by
  apply Int64.toInt_inj.mp
  rw [Int32.toInt_toInt64, zi_toInt h, zj_toInt]
  unfold zin at h
  unfold zinl
  omega
theorem zj_2i {x : Int} (h : zinl x) : (Int64.ofInt x).toInt32 = Int32.ofInt (zw x) := by
  apply Int32.toInt_inj.mp
  rw [Int64.toInt_toInt32, zj_toInt h, zi_toInt (zw_in _), zw_bmod]
theorem zcmpl_in (x y : Int) : zin (zcmpl x y) := by
  unfold zcmpl zin
  split
  · omega
  · split <;> omega
theorem zj_cmp {x y : Int} (hx : zinl x) (hy : zinl y) : lg_cmp (Int64.ofInt x) (Int64.ofInt y) = Int32.ofInt (zcmpl x y) := by
  have h1 : Int64.ofInt y < Int64.ofInt x ↔ y < x := by rw [Int64.lt_iff_toInt_lt, zj_toInt hx, zj_toInt hy]
  have h2 : Int64.ofInt x = Int64.ofInt y ↔ x = y := by rw [← Int64.toInt_inj, zj_toInt hx, zj_toInt hy]
  unfold lg_cmp zcmpl
  by_cases a : y < x
  · rw [if_pos (h1.mpr a), if_pos a]; rfl
  · rw [if_neg (fun q => a (h1.mp q)), if_neg a]
    by_cases b : x = y
    · rw [if_pos (h2.mpr b), if_pos b]; rfl
    · rw [if_neg (fun q => b (h2.mp q)), if_neg b]; rfl
theorem zmax_in {x y : Int} (hx : zin x) (hy : zin y) : zin (zmax x y) := by unfold zmax; split <;> assumption
theorem zmin_in {x y : Int} (hx : zin x) (hy : zin y) : zin (zmin x y) := by unfold zmin; split <;> assumption
theorem zi_max {x y : Int} (hx : zin x) (hy : zin y) : (if Int32.ofInt x < Int32.ofInt y then Int32.ofInt y else Int32.ofInt x) = Int32.ofInt (zmax x y) := by
  unfold zmax
  by_cases h : x < y
  · rw [if_pos h, if_pos ((zi_lt hx hy).mpr h)]
  · rw [if_neg h, if_neg (fun q => h ((zi_lt hx hy).mp q))]
theorem zi_min {x y : Int} (hx : zin x) (hy : zin y) : (if Int32.ofInt y < Int32.ofInt x then Int32.ofInt y else Int32.ofInt x) = Int32.ofInt (zmin x y) := by
  unfold zmin
  by_cases h : y < x
  · rw [if_pos h, if_pos ((zi_lt hy hx).mpr h)]
  · rw [if_neg h, if_neg (fun q => h ((zi_lt hy hx).mp q))]
theorem zi_clamp {x : Int} (h : zin x) : (Int32.ofInt x).toNatClampNeg = x.toNat := by
  show (Int32.ofInt x).toInt.toNat = x.toNat
  rw [zi_toInt h]
theorem zi_vin {x : Int} {n : Nat} (h : zin x) (h0 : 0 ≤ x) (h1 : x < n) : vp_in (Int32.ofInt x) n := by
  rw [vp_in_iff, zi_toInt h]
  exact ⟨h0, h1⟩
theorem zi_neg0 {x : Int} (h : zin x) (h0 : 0 ≤ x) : ¬ Int32.ofInt x < 0 := by
  rw [Int32.lt_iff_toInt_lt, zi_toInt h, Int32.toInt_zero]
  omega
