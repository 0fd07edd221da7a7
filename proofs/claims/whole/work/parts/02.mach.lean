/-! A SMALL MACHINE over whole numbers: values are references by the cell's number, ints, longs; the store is a function. Its one step is told with what comes behind it (K). -/
abbrev zV : Type := Option Nat ⊕ (Int ⊕ Int)
abbrev zS : Type := (Nat × Nat × List (Option Nat)) ⊕ (Nat × List (Option (Option Nat)))
abbrev zF : Type := Nat → Int → Int
abbrev zH : Type := List zS × zF
abbrev zR : Type := Option zV × zH
abbrev zI : Type := Instr × Nat × Nat × Nat × Nat × Nat × List (Int × Nat)
abbrev zL : Type := List (Option zV)
abbrev zK : Type := Nat → zL → List zV → zH → Option zR
abbrev zCalls : Type := Nat → List zV → zH → Option zR
abbrev zX : Type := List (Nat × (Nat → Int))
def zw (x : Int) : Int := (x + 2147483648) % 4294967296 - 2147483648
def zwl (x : Int) : Int := (x + 9223372036854775808) % 18446744073709551616 - 9223372036854775808
def zin (x : Int) : Prop := -2147483648 ≤ x ∧ x < 2147483648
def zinl (x : Int) : Prop := -9223372036854775808 ≤ x ∧ x < 9223372036854775808
def zand (a b : Int) : Int := (Int32.ofInt a &&& Int32.ofInt b).toInt
def zor (a b : Int) : Int := (Int32.ofInt a ||| Int32.ofInt b).toInt
def zxor (a b : Int) : Int := (Int32.ofInt a ^^^ Int32.ofInt b).toInt
def zshl (a b : Int) : Int := (Int32.ofInt a <<< (Int32.ofInt b &&& 31)).toInt
def zshr (a b : Int) : Int := (Int32.ofInt a >>> (Int32.ofInt b &&& 31)).toInt
def zushr (a b : Int) : Int := ((Int32.ofInt a).toUInt32 >>> ((Int32.ofInt b).toUInt32 &&& Int32.toUInt32 31)).toInt32.toInt
def zdiv (a b : Int) : Int := zw (Int.tdiv a b)
def zrem (a b : Int) : Int := Int.tmod a b
def zandl (a b : Int) : Int := (Int64.ofInt a &&& Int64.ofInt b).toInt
def zorl (a b : Int) : Int := (Int64.ofInt a ||| Int64.ofInt b).toInt
def zshll (a b : Int) : Int := (Int64.ofInt a <<< ((Int32.ofInt b).toInt64 &&& 63)).toInt
def zi2b (a : Int) : Int := (Int32.ofInt a).toInt8.toInt32.toInt
def zi2s (a : Int) : Int := (Int32.ofInt a).toInt16.toInt32.toInt
def zcmpl (x y : Int) : Int := if y < x then 1 else if x = y then 0 else -1
def zmax (x y : Int) : Int := if x < y then y else x
def zmin (x y : Int) : Int := if y < x then y else x
def zset (σ : zF) (k : Nat) (i v : Int) : zF := fun k' i' => if k' = k ∧ i' = i then v else σ k' i'
def zz (σ : zF) (k : Nat) : zF := fun k' i' => if k' = k then 0 else σ k' i'
def zcpy (σ : zF) (k : Nat) (sp : Int) (k2 : Nat) (dp n : Int) : zF := fun k' i' => if k' = k2 ∧ dp ≤ i' ∧ i' < dp + n then σ k (sp + (i' - dp)) else σ k' i'
def zcat : zV → Nat
  | .inr (.inr _) => 2
  | _ => 1
def zwords : List zV → Nat
  | [] => 0
  | v :: r => zcat v + zwords r
def zlook {α : Type} : List (Nat × α) → Nat → Option α
  | [], _ => none
  | q :: r, pc => bif Nat.beq q.1 pc then some q.2 else zlook r pc
def zmask : List Bool → zL → zL
  | b :: m, v :: l => (bif b then v else none) :: zmask m l
  | _, _ => []
def zunl (ls : zL) (a : Nat) : zL := match a with
  | 0 => ls
  | j + 1 => match ls[j]? with
    | some (some (.inr (.inr _))) => ls.set j none
    | _ => ls
def zst1 (ls : zL) (a : Nat) (v : zV) : zL := (zunl ls a).set a (some v)
def zst2 (ls : zL) (a : Nat) (v : zV) : zL := ((zunl ls a).set a (some v)).set (a + 1) none
def zsl : List zV → zL
  | [] => []
  | .inr (.inr x) :: r => some (.inr (.inr x)) :: none :: zsl r
  | v :: r => some v :: zsl r
def zargs (n : Nat) (vs : List zV) : zL := zsl vs ++ List.replicate (n - (zsl vs).length) none
def zli (ls : zL) (a : Nat) (k : Int → Option zR) : Option zR := match ls[a]? with
  | some (some (.inr (.inl x))) => k x
  | _ => none
def zll (ls : zL) (a : Nat) (k : Int → Option zR) : Option zR := match ls[a]? with
  | some (some (.inr (.inr x))) => k x
  | _ => none
def zlr (ls : zL) (a : Nat) (k : Nat → Option zR) : Option zR := match ls[a]? with
  | some (some (.inl (some x))) => k x
  | _ => none
def zI1 (st : List zV) (k : Int → List zV → Option zR) : Option zR := match st with
  | .inr (.inl x) :: r => k x r
  | _ => none
def zI2 (st : List zV) (k : Int → Int → List zV → Option zR) : Option zR := match st with
  | .inr (.inl y) :: .inr (.inl x) :: r => k x y r
  | _ => none
def zJ1 (st : List zV) (k : Int → List zV → Option zR) : Option zR := match st with
  | .inr (.inr x) :: r => k x r
  | _ => none
def zJ2 (st : List zV) (k : Int → Int → List zV → Option zR) : Option zR := match st with
  | .inr (.inr y) :: .inr (.inr x) :: r => k x y r
  | _ => none
def zJI (st : List zV) (k : Int → Int → List zV → Option zR) : Option zR := match st with
  | .inr (.inl y) :: .inr (.inr x) :: r => k x y r
  | _ => none
def zR1 (st : List zV) (k : Nat → List zV → Option zR) : Option zR := match st with
  | .inl (some o) :: r => k o r
  | _ => none
def zV1 (st : List zV) (k : zV → List zV → Option zR) : Option zR := match st with
  | v :: r => bif Nat.beq (zcat v) 1 then k v r else none
  | _ => none
def zV2 (st : List zV) (k : zV → zV → List zV → Option zR) : Option zR := match st with
  | v :: w :: r => bif Nat.beq (zcat v) 1 && Nat.beq (zcat w) 1 then k v w r else none
  | _ => none
/-- an object's field: a number, or a reference -/
def zfld (L : List zS) (o a b : Nat) (kI : Option zR) (kR : Nat → Option zR) : Option zR := match L[o]? with
  | some (.inr (ci, fs)) => bif Nat.beq ci a then (match fs[b]? with
    | some none => kI
    | some (some (some t)) => kR t
    | _ => none) else none
  | _ => none
/-- an int array: of the heap, or a given one -/
def zia (X : zX) (L : List zS) (σ : zF) (o : Nat) (i : Int) (k : Int → Option zR) : Option zR := match L[o]? with
  | some (.inl (0, n, _)) => if 0 ≤ i ∧ i < (n : Int) then k (σ o i) else none
  | some _ => none
  | none => bif Nat.blt o 1000 then none else match X[o - 1000]? with
    | some (n, f) => if 0 ≤ i ∧ i < (n : Int) then k (f i.toNat) else none
    | none => none
def zar (L : List zS) (tag : Nat) (o : Nat) (i : Int) (k : Option zR) : Option zR := match L[o]? with
  | some (.inl (t, n, _)) => bif Nat.beq t tag then (if 0 ≤ i ∧ i < (n : Int) then k else none) else none
  | _ => none
def zaa (L : List zS) (o : Nat) (i : Int) (k : Nat → Option zR) : Option zR := match L[o]? with
  | some (.inl (2, n, ts)) => if 0 ≤ i ∧ i < (n : Int) then (match ts[i.toNat]? with
    | some (some t) => k t
    | _ => none) else none
  | _ => none
def zlen (X : zX) (L : List zS) (o : Nat) (k : Nat → Option zR) : Option zR := match L[o]? with
  | some (.inl (_, n, _)) => k n
  | some _ => none
  | none => bif Nat.blt o 1000 then none else match X[o - 1000]? with
    | some (n, _) => k n
    | none => none
def zcls (L : List zS) (o ci : Nat) : Bool := match L[o]? with
  | some (.inr (c, _)) => Nat.beq c ci
  | _ => false
def zsw (k : Nat → Option zR) (d : Nat) : List (Int × Nat) → Int → Option zR
  | [], _ => k d
  | (v, t) :: r, x => if x = v then k t else zsw k d r x
def ztk : Nat → List zV → List zV → Option (List zV × List zV)
  | 0, acc, st => some (acc, st)
  | n + 1, acc, v :: st => ztk n (v :: acc) st
  | _ + 1, _, [] => none
/-- what a call gives back, the layout as it was -/
def zCV (L : List zS) (o : Option zR) (k : zF → Option zR) : Option zR := match o with
  | some (none, (L', σ)) => if L' = L then k σ else none
  | _ => none
def zCI (L : List zS) (o : Option zR) (k : Int → zF → Option zR) : Option zR := match o with
  | some (some (.inr (.inl i)), (L', σ)) => if L' = L then k i σ else none
  | _ => none
def zCJ (L : List zS) (o : Option zR) (k : Int → zF → Option zR) : Option zR := match o with
  | some (some (.inr (.inr i)), (L', σ)) => if L' = L then k i σ else none
  | _ => none
def zCR (L : List zS) (o : Option zR) (k : Nat → zF → Option zR) : Option zR := match o with
  | some (some (.inl (some i)), (L', σ)) => if L' = L then k i σ else none
  | _ => none
def zC (kind : Nat) (L : List zS) (o : Option zR) (k : List zV → zF → Option zR) : Option zR := match kind with
  | 0 => zCV L o (fun σ => k [] σ)
  | 1 => zCI L o (fun i σ => k [.inr (.inl i)] σ)
  | 2 => zCJ L o (fun i σ => k [.inr (.inr i)] σ)
  | 3 => zCR L o (fun i σ => k [.inl (some i)] σ)
  | _ => none
def zCN (o : Option zR) (k : zH → Option zR) : Option zR := match o with
  | some (none, h) => k h
  | _ => none
def zbr (c : ClassFile.Cond) (x y : Int) (t f : Option zR) : Option zR := match c with
  | .eq => if x = y then t else f
  | .ne => if x = y then f else t
  | .lt => if x < y then t else f
  | .ge => if x < y then f else t
  | .gt => if y < x then t else f
  | .le => if y < x then f else t
def zcon (tab : List (Int × Nat)) (k : Int → Option zR) : Option zR := match tab with
  | (v, _) :: _ => k v
  | _ => none
def zputK (L : List zS) (o a b c : Nat) (x : Int) (kk : Option zR) : Option zR := match L[o]? with
  | some (.inr (ci, fs)) => bif Nat.beq ci a && Nat.blt c 2 then (match fs[b]? with
    | some none => bif Nat.beq c 0 then kk else if x = 0 ∨ x = 1 then kk else none
    | _ => none) else none
  | _ => none
def zput (L : List zS) (σ : zF) (st : List zV) (a b c : Nat) (k : List zV → zH → Option zR) : Option zR := match st with
  | .inr (.inl x) :: .inl (some o) :: r => zputK L o a b c x (k r (L, zset σ o b x))
  | .inl (some t) :: .inl (some o) :: r => (match L[o]? with
    | some (.inr (ci, fs)) => bif Nat.beq ci a && (Nat.beq c 2 && Nat.blt t L.length) then (match fs[b]? with
      | some (some _) => k r (L.set o (.inr (ci, fs.set b (some (some t)))), σ)
      | _ => none) else none
    | _ => none)
  | _ => none
def zast (L : List zS) (σ : zF) (st : List zV) (k : List zV → zH → Option zR) : Option zR := match st with
  | .inl (some t) :: .inr (.inl i) :: .inl (some o) :: r => (match L[o]?, L[t]? with
    | some (.inl (2, n, ts)), some (.inr (7, _)) => if 0 ≤ i ∧ i < (n : Int) then k r (L.set o (.inl (2, n, ts.set i.toNat (some t))), σ) else none
    | _, _ => none)
  | _ => none
def zarcK (L : List zS) (o1 o2 : Nat) (n sp dp : Int) (kk : Option zR) : Option zR := match L[o1]?, L[o2]? with
  | some (.inl (t1, n1, _)), some (.inl (t2, n2, _)) => bif Nat.beq t1 t2 && Nat.blt t1 2 then
      (if 0 ≤ n ∧ 0 ≤ sp ∧ 0 ≤ dp ∧ sp + n ≤ (n1 : Int) ∧ dp + n ≤ (n2 : Int) then kk else none) else none
  | _, _ => none
def zarc (L : List zS) (σ : zF) (st : List zV) (k : List zV → zF → Option zR) : Option zR := match st with
  | .inr (.inl n) :: .inr (.inl dp) :: .inl (some o2) :: .inr (.inl sp) :: .inl (some o1) :: r => zarcK L o1 o2 n sp dp (k r (zcpy σ o1 sp o2 dp n))
  | _ => none
/-- the fields of a new object: none a number, some none a reference -/
def zfkOf (q : (Nat → FieldType) × Nat) : List (Option (Option Nat)) := (List.range q.2).map (fun k => match q.1 k with
  | .int => none
  | .boolean => none
  | _ => some none)
def zTys : List ((Nat → FieldType) × Nat) := [(tyX0, 7), (tyX1, 7), (tyX2, 4), (tyX3, 11), (tyX4, 6), (tyX5, 6), (tyX6, 6), (tyX7, 4), (tyX8, 6), (tyX9, 10), (tyX10, 5), (tyX11, 11), (tyX12, 56)]
def znew (L : List zS) (σ : zF) (a : Nat) (k : zH → Option zR) : Option zR := match zTys[a]? with
  | some q => bif Nat.blt L.length 1000 then k (L ++ [.inr (a, zfkOf q)], zz σ L.length) else none
  | none => none
def znwa (L : List zS) (σ : zF) (tag : Nat) (n : Int) (k : zH → Option zR) : Option zR :=
  bif Nat.blt L.length 1000 then (if 0 ≤ n ∧ n ≤ 1000 then k (L ++ [.inl (tag, n.toNat, bif Nat.beq tag 2 then List.replicate n.toNat none else [])], zz σ L.length) else none) else none
/-- ONE STEP, and K behind it -/
def zgo (X : zX) (calls : zCalls) (K : zK) (i : Instr) (len a b c d : Nat) (tab : List (Int × Nat)) (pc : Nat) (ls : zL) (st : List zV) (L : List zS) (σ : zF) : Option zR :=
  match i with
  | .iload _ => zli ls a fun x => K (pc + len) ls (.inr (.inl x) :: st) (L, σ)
  | .iload_n _ => zli ls a fun x => K (pc + len) ls (.inr (.inl x) :: st) (L, σ)
  | .lload _ => zll ls a fun x => K (pc + len) ls (.inr (.inr x) :: st) (L, σ)
  | .lload_n _ => zll ls a fun x => K (pc + len) ls (.inr (.inr x) :: st) (L, σ)
  | .aload _ => zlr ls a fun x => K (pc + len) ls (.inl (some x) :: st) (L, σ)
  | .aload_n _ => zlr ls a fun x => K (pc + len) ls (.inl (some x) :: st) (L, σ)
  | .istore _ => zI1 st fun x r => K (pc + len) (zst1 ls a (.inr (.inl x))) r (L, σ)
  | .istore_n _ => zI1 st fun x r => K (pc + len) (zst1 ls a (.inr (.inl x))) r (L, σ)
  | .lstore _ => zJ1 st fun x r => K (pc + len) (zst2 ls a (.inr (.inr x))) r (L, σ)
  | .lstore_n _ => zJ1 st fun x r => K (pc + len) (zst2 ls a (.inr (.inr x))) r (L, σ)
  | .astore _ => zR1 st fun x r => K (pc + len) (zst1 ls a (.inl (some x))) r (L, σ)
  | .astore_n _ => zR1 st fun x r => K (pc + len) (zst1 ls a (.inl (some x))) r (L, σ)
  | .iinc _ _ => zli ls a fun x => zcon tab fun v => K (pc + len) (zst1 ls a (.inr (.inl (zw (x + v))))) st (L, σ)
  | .iconst _ => zcon tab fun v => K (pc + len) ls (.inr (.inl v) :: st) (L, σ)
  | .bipush _ => zcon tab fun v => K (pc + len) ls (.inr (.inl v) :: st) (L, σ)
  | .sipush _ => zcon tab fun v => K (pc + len) ls (.inr (.inl v) :: st) (L, σ)
  | .ldc _ => zcon tab fun v => K (pc + len) ls (.inr (.inl v) :: st) (L, σ)
  | .ldc_w _ => zcon tab fun v => K (pc + len) ls (.inr (.inl v) :: st) (L, σ)
  | .lconst _ => zcon tab fun v => K (pc + len) ls (.inr (.inr v) :: st) (L, σ)
  | .ldc2_w _ => zcon tab fun v => K (pc + len) ls (.inr (.inr v) :: st) (L, σ)
  | .iadd => zI2 st fun x y r => K (pc + len) ls (.inr (.inl (zw (x + y))) :: r) (L, σ)
  | .isub => zI2 st fun x y r => K (pc + len) ls (.inr (.inl (zw (x - y))) :: r) (L, σ)
  | .imul => zI2 st fun x y r => K (pc + len) ls (.inr (.inl (zw (x * y))) :: r) (L, σ)
  | .idiv => zI2 st fun x y r => if y = 0 then none else K (pc + len) ls (.inr (.inl (zdiv x y)) :: r) (L, σ)
  | .irem => zI2 st fun x y r => if y = 0 then none else K (pc + len) ls (.inr (.inl (zrem x y)) :: r) (L, σ)
  | .ineg => zI1 st fun x r => K (pc + len) ls (.inr (.inl (zw (-x))) :: r) (L, σ)
  | .iand => zI2 st fun x y r => K (pc + len) ls (.inr (.inl (zand x y)) :: r) (L, σ)
  | .ior => zI2 st fun x y r => K (pc + len) ls (.inr (.inl (zor x y)) :: r) (L, σ)
  | .ixor => zI2 st fun x y r => K (pc + len) ls (.inr (.inl (zxor x y)) :: r) (L, σ)
  | .ishl => zI2 st fun x y r => K (pc + len) ls (.inr (.inl (zshl x y)) :: r) (L, σ)
  | .ishr => zI2 st fun x y r => K (pc + len) ls (.inr (.inl (zshr x y)) :: r) (L, σ)
  | .iushr => zI2 st fun x y r => K (pc + len) ls (.inr (.inl (zushr x y)) :: r) (L, σ)
  | .ladd => zJ2 st fun x y r => K (pc + len) ls (.inr (.inr (zwl (x + y))) :: r) (L, σ)
  | .lmul => zJ2 st fun x y r => K (pc + len) ls (.inr (.inr (zwl (x * y))) :: r) (L, σ)
  | .land => zJ2 st fun x y r => K (pc + len) ls (.inr (.inr (zandl x y)) :: r) (L, σ)
  | .lor => zJ2 st fun x y r => K (pc + len) ls (.inr (.inr (zorl x y)) :: r) (L, σ)
  | .lshl => zJI st fun x y r => K (pc + len) ls (.inr (.inr (zshll x y)) :: r) (L, σ)
  | .i2l => zI1 st fun x r => K (pc + len) ls (.inr (.inr x) :: r) (L, σ)
  | .l2i => zJ1 st fun x r => K (pc + len) ls (.inr (.inl (zw x)) :: r) (L, σ)
  | .i2b => zI1 st fun x r => K (pc + len) ls (.inr (.inl (zi2b x)) :: r) (L, σ)
  | .i2s => zI1 st fun x r => K (pc + len) ls (.inr (.inl (zi2s x)) :: r) (L, σ)
  | .lcmp => zJ2 st fun x y r => K (pc + len) ls (.inr (.inl (zcmpl x y)) :: r) (L, σ)
  | .dup => zV1 st fun v r => K (pc + len) ls (v :: v :: r) (L, σ)
  | .pop => zV1 st fun _ r => K (pc + len) ls r (L, σ)
  | .dup_x1 => zV2 st fun v w r => K (pc + len) ls (v :: w :: v :: r) (L, σ)
  | .dup2 => zV2 st fun v w r => K (pc + len) ls (v :: w :: v :: w :: r) (L, σ)
  | .goto _ => K a ls st (L, σ)
  | .if_icmp q _ => zI2 st fun x y r => zbr q x y (K a ls r (L, σ)) (K (pc + len) ls r (L, σ))
  | .ifCond q _ => zI1 st fun x r => zbr q x 0 (K a ls r (L, σ)) (K (pc + len) ls r (L, σ))
  | .tableswitch _ _ _ _ => zI1 st fun x r => zsw (fun t => K t ls r (L, σ)) d tab x
  | .lookupswitch _ _ => zI1 st fun x r => zsw (fun t => K t ls r (L, σ)) d tab x
  | .getfield _ => zR1 st fun o r => zfld L o a b (K (pc + len) ls (.inr (.inl (σ o b)) :: r) (L, σ)) (fun t => K (pc + len) ls (.inl (some t) :: r) (L, σ))
  | .putfield _ => zput L σ st a b c fun r h => K (pc + len) ls r h
  | .getstatic _ => K (pc + len) ls (.inl (some b) :: st) (L, σ)
  | .iaload => zI1 st fun i r => zR1 r fun o r => zia X L σ o i fun v => K (pc + len) ls (.inr (.inl v) :: r) (L, σ)
  | .iastore => zI1 st fun x r => zI1 r fun i r => zR1 r fun o r => zar L 0 o i (K (pc + len) ls r (L, zset σ o i x))
  | .laload => zI1 st fun i r => zR1 r fun o r => zar L 1 o i (K (pc + len) ls (.inr (.inr (σ o i)) :: r) (L, σ))
  | .lastore => zJ1 st fun x r => zI1 r fun i r => zR1 r fun o r => zar L 1 o i (K (pc + len) ls r (L, zset σ o i x))
  | .aaload => zI1 st fun i r => zR1 r fun o r => zaa L o i fun t => K (pc + len) ls (.inl (some t) :: r) (L, σ)
  | .aastore => zast L σ st fun r h => K (pc + len) ls r h
  | .arraylength => zR1 st fun o r => zlen X L o fun n => K (pc + len) ls (.inr (.inl n) :: r) (L, σ)
  | .newarray _ => zI1 st fun n r => bif Nat.blt a 2 then znwa L σ a n fun h => K (pc + len) ls (.inl (some L.length) :: r) h else none
  | .anewarray _ => zI1 st fun n r => znwa L σ 2 n fun h => K (pc + len) ls (.inl (some L.length) :: r) h
  | .new _ => znew L σ a fun h => K (pc + len) ls (.inl (some L.length) :: st) h
  | .invokevirtual _ => match ztk b [] st with
    | some (vs, r) => zR1 r fun o r => bif zcls L o d && Nat.ble (zwords r) 8 then zC c L (calls a (.inl (some o) :: vs) (L, σ)) fun v σ' => K (pc + len) ls (v ++ r) (L, σ') else none
    | none => none
  | .invokestatic _ => match a with
    | 1001 => zI2 st fun x y r => bif Nat.ble (zwords r) 8 then K (pc + len) ls (.inr (.inl (zmax x y)) :: r) (L, σ) else none
    | 1002 => zI2 st fun x y r => bif Nat.ble (zwords r) 8 then K (pc + len) ls (.inr (.inl (zmin x y)) :: r) (L, σ) else none
    | 1003 => zarc L σ st fun r σ' => bif Nat.ble (zwords r) 8 then K (pc + len) ls r (L, σ') else none
    | _ => match ztk b [] st with
      | some (vs, r) => bif Nat.ble (zwords r) 8 then zC c L (calls a vs (L, σ)) fun v σ' => K (pc + len) ls (v ++ r) (L, σ') else none
      | none => none
  | .invokespecial _ => match a with
    | 1000 => zR1 st fun _ r => bif Nat.ble (zwords r) 8 then K (pc + len) ls r (L, σ) else none
    | _ => match ztk b [] st with
      | some (vs, r) => zR1 r fun o r => bif zcls L o d && Nat.ble (zwords r) 8 then zCN (calls a (.inl (some o) :: vs) (L, σ)) fun h => K (pc + len) ls r h else none
      | none => none
  | .ireturn => match st with
    | [.inr (.inl x)] => bif Nat.beq a 0 then some (some (.inr (.inl x)), (L, σ)) else if x = 0 ∨ x = 1 then some (some (.inr (.inl x)), (L, σ)) else none
    | _ => none
  | .lreturn => match st with
    | [.inr (.inr x)] => some (some (.inr (.inr x)), (L, σ))
    | _ => none
  | .areturn => match st with
    | [.inl (some x)] => some (some (.inl (some x)), (L, σ))
    | _ => none
  | .return_ => match st with
    | [] => some (none, (L, σ))
    | _ => none
  | _ => none
def zstp (X : zX) (calls : zCalls) (C : List (Nat × zI)) (K : zK) : zK := fun pc ls st h => match zlook C pc with
  | some (i, len, a, b, c, d, tab) => zgo X calls K i len a b c d tab pc ls st h.1 h.2
  | none => none
abbrev zCut : Type := List (Nat × List Bool)
def zcm (cuts : zCut) (pc : Nat) (ls : zL) : zL := match zlook cuts pc with
  | none => ls
  | some m => zmask m ls
def zcutK (cuts : zCut) (K : zK) : zK := fun pc ls st h => K pc (zcm cuts pc ls) st h
def zrun (X : zX) (calls : zCalls) (C : List (Nat × zI)) (cuts : zCut) : Nat → zK
  | 0 => fun _ _ _ _ => none
  | n + 1 => zstp X calls C (zcutK cuts (zrun X calls C cuts n))
noncomputable def zlim {α : Type} (f : Nat → Option α) : Option α := @dite _ (∃ n, (f n).isSome = true) (Classical.propDecidable _) (fun h => f (Classical.choose h)) (fun _ => none)
noncomputable def zrunL (X : zX) (calls : zCalls) (C : List (Nat × zI)) (cuts : zCut) : zK := fun pc ls st h => zlim (fun n => zrun X calls C cuts n pc ls st h)
abbrev zMt : Type := MethodName × ByteArray × Nat × Option FieldType × List (Nat × zI) × zCut
noncomputable def zexec (X : zX) (MT : List zMt) : Nat → zCalls
  | 0 => fun _ _ _ => none
  | d + 1 => fun id vs h => match MT[id]? with
    | some (_, _, n, _, C, cuts) => bif Nat.ble (zsl vs).length n then zrunL X (zexec X MT d) C cuts 0 (zcm cuts 0 (zargs n vs)) [] h else none
    | none => none
noncomputable def zwalk (X : zX) (calls : zCalls) (C : List (Nat × zI)) (cuts : zCut) : Nat → zK
  | 0 => zrunL X calls C cuts
  | k + 1 => zstp X calls C (fun pc ls st h => match zlook cuts pc with
    | none => zwalk X calls C cuts k pc ls st h
    | some m => zrunL X calls C cuts pc (zmask m ls) st h)
/-- layouts grow -/
def zsz : zS → Nat
  | .inl (_, n, _) => n
  | .inr (_, fs) => fs.length
def zslots (L : List zS) : Nat := (L.map zsz).sum
def zle (L L' : List zS) : Prop := L.length ≤ L'.length ∧ zslots L ≤ zslots L'
theorem zle_rf (L : List zS) : zle L L := ⟨Nat.le_refl _, Nat.le_refl _⟩
theorem zle_tr {L L' L'' : List zS} (h : zle L L') (h2 : zle L' L'') : zle L L'' := ⟨Nat.le_trans h.1 h2.1, Nat.le_trans h.2 h2.2⟩
theorem zslots_app (L : List zS) (q : zS) : zslots (L ++ [q]) = zslots L + zsz q := by simp [zslots]
theorem zle_app (L : List zS) (q : zS) : zle L (L ++ [q]) := ⟨by simp, by rw [zslots_app]; omega⟩
theorem zslots_set : ∀ (L : List zS) (k : Nat) (q q' : zS), L[k]? = some q → zsz q' = zsz q → zslots (L.set k q') = zslots L
  | [], _, _, _, h, _ => by simp at h
  | x :: L, 0, q, q', h, e => by
    simp at h
    subst h
    simp [zslots, e]
  | x :: L, k + 1, q, q', h, e => by
    have := zslots_set L k q q' (by simpa using h) e
    simp [zslots] at this ⊢
    exact this
theorem zle_set {L : List zS} {k : Nat} {q q' : zS} (h : L[k]? = some q) (e : zsz q' = zsz q) : zle L (L.set k q') := ⟨by simp, by rw [zslots_set L k q q' h e]; exact Nat.le_refl _⟩
