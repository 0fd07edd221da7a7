/-! ONE STEP of the small machine is a step of the Java machine -/
def zTb : List Jvm.Cond := lw_tbl.filter goodWord
theorem zTb_in {w : Jvm.Cond} (h : w ∈ lw_tbl) (hg : goodWord w = true) : w ∈ zTb := List.mem_filter.mpr ⟨h, hg⟩
def zRX11 : String := "RoadsThanked"
def zNst : List (String × Nat × MethodName × String) := [(RX11, 9, yX3_init, RX11), (RX11, 18, yX4_init, RX11), (RX11, 25, yX2_init, RX11), (RX11, 82, yX8_init, RX11), (RX11, 93, yX7_init, RX11), (RX3, 53, yX11_isLength, RX11), (RX3, 56, yX11_isPlace, RX11)]
def zNs (U : State) : Prop := (∀ q ∈ zNst, va_Nw (.methodLinkNest q.1 q.2.1 q.2.2.1 q.2.2.2) U) ∧ va_AO RX7 U
def zstat : List String := ["OWN", "ABOVE"]
def zExt (ea : Nat → Nat) (X : zX) (A : Nat → Prop) (U : State) : Prop :=
  (∀ (j : Nat) (nm : String), zstat[j]? = some nm → va_Z RX8 nm "[I" (.ref (ea j)) A U U.heap) ∧ (∀ (j n : Nat) (f : Nat → Int), X[j]? = some (n, f) → va_T .int (ea j) n (fun i => .int (Int32.ofInt (f i))) A U U.heap ∧ n ≤ 100000 ∧ ∀ i, zin (f i))
def zCtx (p : Program) (s : State) (m : MethodId) (args : Array Value) (c : Code) (cc : ByteArray) (nL : Nat) (own : String) (A : Nat → Prop) (ea : Nat → Nat) (X : zX) : Prop :=
  p.tables.exec = Jvm.exec ∧ c.code = cc ∧ c.maxLocals = nL ∧ s.vm.findClass own = some m.cls ∧ (∀ w ∈ zTb, w.before args s = true) ∧ (∀ q : Nat, s.heap.size ≤ q → A q) ∧ zExt ea X A s ∧ zNs s
/-- the machine at a state of the small one: it comes to Q -/
def zG (p : Program) (l : Launch) (e : Env) (R : Room) (s : State) (m : MethodId) (args : Array Value) (below : List Frame) (meth : Method) (c : Code) (Q : State → Prop) (D : va_G) (as0 ea : Nat → Nat) (A : Nat → Prop) (nL : Nat) (L0 : List zS) (pc : Nat) (ls : zL) (st : List zV) (h : zH) : Prop :=
  ∀ (as : Nat → Nat) (cas : Nat → ClassId) (tys : List (ClassId × FieldType)) (H : Heap) (locs : List Loc) (lsA : Array Slot), zWd D as ea cas tys A s H locs h.1 h.2 → (∀ k, k < L0.length → as k = as0 k) → zLc (zad as ea) h.1.length lsA nL ls → (∀ v ∈ st, zvok h.1.length v) → zle L0 h.1 →
    W p l e R s m args below meth c H locs (h.1.length - L0.length) (zslots h.1 - zslots L0) Q (F0 m pc lsA (st.map (zc (zad as ea))))
def zrt (ret : Option FieldType) (i : Instr) (v : Option zV) : Prop := match v with
  | none => i = .return_ ∧ ret = none
  | some (.inr (.inl x)) => i = .ireturn ∧ (ret = some .int ∨ (ret = some .boolean ∧ (x = 0 ∨ x = 1)))
  | some (.inr (.inr _)) => i = .lreturn ∧ ret = some .long
  | some (.inl (some _)) => i = .areturn ∧ ∃ rt, ret = some rt ∧ ((∃ n, rt = .object n) ∨ ∃ t, rt = .array t)
  | some (.inl none) => False
def zRet (p : Program) (l : Launch) (e : Env) (R : Room) (s : State) (m : MethodId) (args : Array Value) (below : List Frame) (meth : Method) (c : Code) (Q : State → Prop) (D : va_G) (as0 ea : Nat → Nat) (A : Nat → Prop) (cc : ByteArray) (ret : Option FieldType) (L0 : List zS) (r : zR) : Prop :=
  ∀ (as : Nat → Nat) (cas : Nat → ClassId) (tys : List (ClassId × FieldType)) (H : Heap) (locs : List Loc) (lsA : Array Slot) (pc : Nat) (i : Instr), zWd D as ea cas tys A s H locs r.2.1 r.2.2 → (∀ k, k < L0.length → as k = as0 k) → (∀ v, r.1 = some v → zvok r.2.1.length v) → zle L0 r.2.1 → decode cc pc = .ok (i, 1) → zrt ret i r.1 →
    W p l e R s m args below meth c H locs (r.2.1.length - L0.length) (zslots r.2.1 - zslots L0) Q (F0 m pc lsA (r.1.toList.map (zc (zad as ea))))
-- what a row of code must be held to, beside its bytes
def ztabOK (pc : Nat) : Int → List Int → List (Int × Nat) → Prop
  | _, [], [] => True
  | lo, o :: os, (v, t) :: tab => v = lo ∧ (pc : Int) + o = t ∧ ztabOK pc (lo + 1) os tab
  | _, _, _ => False
def zlkpOK (pc : Nat) : List (Int × Int) → List (Int × Nat) → Prop
  | [], [] => True
  | (a, o) :: ps, (v, t) :: tab => v = a ∧ (pc : Int) + o = t ∧ zlkpOK pc ps tab
  | _, _ => False
def zconOK (P : Int → Prop) : List (Int × Nat) → Prop
  | (v, _) :: _ => P v
  | [] => False
def zfldOK (own : String) (idx a b : Nat) : Prop := ∃ (C : String) (T : u_T) (N : Nat), vwCl[a]? = some (C, T, N) ∧ b < N ∧ (T b).1 = C ∧ Jvm.Cond.fieldLink own idx C (T b).2.1 (T b).2.2.1 ∈ lw_tbl
def zputOK (own nm : String) (idx a b c : Nat) : Prop := ∃ (C : String) (T : u_T) (N : Nat) (ty : FieldType), vwCl[a]? = some (C, T, N) ∧ b < N ∧ (T b).1 = C ∧ Jvm.Cond.fieldLink own idx C (T b).2.1 (T b).2.2.1 ∈ lw_tbl ∧ parseFieldDescriptor (T b).2.2.1 = some ty ∧
  ((c = 0 ∧ ty = .int ∧ (T b).2.2.2 = false) ∨ (c = 1 ∧ ty = .boolean ∧ (T b).2.2.2 = false) ∨ (c = 2 ∧ ((∃ n, ty = .object n) ∨ ∃ t, ty = .array t) ∧ (T b).2.2.2 = true ∧ nm = "<init>" ∧ (T b).1 = own))
def zparOK (y : MethodName) (n : Nat) : Prop := y.cls ≠ "java/lang/invoke/MethodHandle" ∧ y.cls ≠ "java/lang/invoke/VarHandle" ∧ (parseMethodDescriptor y.desc).map (fun d => d.parameters.length) = some n
def zlnkOK (own : String) (idx : Nat) (y : MethodName) : Prop := Jvm.Cond.methodLink own idx y ∈ lw_tbl ∨ ∃ host, (own, idx, y, host) ∈ zNst
def zvirOK (MT : List zMt) (own : String) (idx a b d : Nat) : Prop := ∃ (y : MethodName) (cc : ByteArray) (n : Nat) (ret : Option FieldType) (C : List (Nat × zI)) (cuts : zCut) (T : u_T) (N : Nat), MT[a]? = some (y, cc, n, ret, C, cuts) ∧ vwCl[d]? = some (y.cls, T, N) ∧ zparOK y b ∧ zlnkOK own idx y ∧ Jvm.Cond.instanceMethod y ∈ lw_tbl ∧ Jvm.Cond.selects y.cls y y ∈ lw_tbl ∧ Jvm.Cond.initialized y.cls ∈ lw_tbl
def zsttOK (MT : List zMt) (own : String) (idx a b : Nat) : Prop := ∃ (y : MethodName) (cc : ByteArray) (n : Nat) (ret : Option FieldType) (C : List (Nat × zI)) (cuts : zCut), MT[a]? = some (y, cc, n, ret, C, cuts) ∧ zparOK y b ∧ zlnkOK own idx y ∧ Jvm.Cond.static y ∈ lw_tbl ∧ Jvm.Cond.initialized y.cls ∈ lw_tbl
def ziniOK (MT : List zMt) (own : String) (idx a b d : Nat) : Prop := ∃ (y : MethodName) (cc : ByteArray) (n : Nat) (C : List (Nat × zI)) (cuts : zCut) (T : u_T) (N : Nat), MT[a]? = some (y, cc, n, none, C, cuts) ∧ vwCl[d]? = some (y.cls, T, N) ∧ zparOK y b ∧ zlnkOK own idx y ∧ Jvm.Cond.instanceMethod y ∈ lw_tbl ∧ Jvm.Cond.initialized y.cls ∈ lw_tbl ∧ y.name = "<init>"
def zlk (MT : List zMt) (own nm : String) (nL : Nat) (ret : Option FieldType) (pc : Nat) (q : zI) : Prop := match q with
  | (i, len, a, b, c, d, tab) => match i with
    | .iload k => k = a ∧ len = 2
    | .iload_n k => (k : Nat) = a ∧ len = 1
    | .lload k => k = a ∧ len = 2
    | .lload_n k => (k : Nat) = a ∧ len = 1
    | .aload k => k = a ∧ len = 2
    | .aload_n k => (k : Nat) = a ∧ len = 1
    | .istore k => k = a ∧ len = 2 ∧ a < nL
    | .istore_n k => (k : Nat) = a ∧ len = 1 ∧ a < nL
    | .lstore k => k = a ∧ len = 2 ∧ a + 1 < nL
    | .lstore_n k => (k : Nat) = a ∧ len = 1 ∧ a + 1 < nL
    | .astore k => k = a ∧ len = 2 ∧ a < nL
    | .astore_n k => (k : Nat) = a ∧ len = 1 ∧ a < nL
    | .iinc k n => k = a ∧ len = 3 ∧ a < nL ∧ zconOK (fun v => n = v) tab
    | .iconst n => len = 1 ∧ zconOK (fun v => n = v ∧ zin v) tab
    | .bipush n => len = 2 ∧ zconOK (fun v => (Int8.ofInt n).toInt32 = Int32.ofInt v ∧ zin v) tab
    | .sipush n => len = 3 ∧ zconOK (fun v => (Int16.ofInt n).toInt32 = Int32.ofInt v ∧ zin v) tab
    | .ldc k => len = 2 ∧ zconOK (fun v => Jvm.Cond.constant own k (Int32.ofInt v) ∈ lw_tbl ∧ zin v) tab
    | .ldc_w k => len = 3 ∧ zconOK (fun v => Jvm.Cond.constant own k (Int32.ofInt v) ∈ lw_tbl ∧ zin v) tab
    | .lconst n => len = 1 ∧ zconOK (fun v => Int64.ofNat (n : Nat) = Int64.ofInt v ∧ zinl v) tab
    | .ldc2_w k => len = 3 ∧ zconOK (fun v => Jvm.Cond.constantLong own k (Int64.ofInt v) ∈ lw_tbl ∧ zinl v) tab
    | .goto o => len = 3 ∧ (pc : Int) + o = a
    | .if_icmp _ o => len = 3 ∧ (pc : Int) + o = a
    | .ifCond _ o => len = 3 ∧ (pc : Int) + o = a
    | .tableswitch dflt lo hi offs => (pc : Int) + dflt = d ∧ ztabOK pc lo offs.toList tab ∧ hi + 1 = lo + offs.size
    | .lookupswitch dflt ps => (pc : Int) + dflt = d ∧ zlkpOK pc ps.toList tab ∧ (ps.toList.zip (ps.toList.drop 1)).all (fun (a, next) => a.1 < next.1) = true
    | .getfield k => len = 3 ∧ zfldOK own k a b
    | .putfield k => len = 3 ∧ zputOK own nm k a b c
    | .getstatic k => len = 3 ∧ b = 1000 + a ∧ ∃ nm', zstat[a]? = some nm' ∧ Jvm.Cond.fieldLink own k RX8 nm' "[I" ∈ lw_tbl
    | .newarray t => len = 2 ∧ ((a = 0 ∧ t = .int) ∨ (a = 1 ∧ t = .long))
    | .anewarray k => len = 3 ∧ Jvm.Cond.classLink own k RX7 ∈ lw_tbl
    | .new k => len = 3 ∧ ∃ (C : String) (T : u_T) (N : Nat) (ty : Nat → FieldType), vwCl[a]? = some (C, T, N) ∧ zTys[a]? = some (ty, N) ∧ (∀ k, k < N → parseFieldDescriptor (T k).2.2.1 = some (ty k)) ∧ (∀ k, k < N → defaultValue (ty k) = .int 0 ∧ (ty k = .int ∨ ty k = .boolean) ∨ defaultValue (ty k) = .null ∧ (¬ ty k = .int ∧ ¬ ty k = .boolean)) ∧ Jvm.Cond.classLink own k C ∈ lw_tbl ∧ Jvm.Cond.instantiable C N ∈ lw_tbl ∧ Jvm.Cond.initialized C ∈ lw_tbl
    | .invokevirtual k => len = 3 ∧ zvirOK MT own k a b d
    | .invokestatic k => len = 3 ∧ match a with
      | 1001 => Jvm.Cond.methodLink own k Lib.Math.max.name ∈ lw_tbl
      | 1002 => Jvm.Cond.methodLink own k Lib.Math.min.name ∈ lw_tbl
      | 1003 => Jvm.Cond.methodLink own k arraycopyName ∈ lw_tbl
      | _ => zsttOK MT own k a b
    | .invokespecial k => len = 3 ∧ match a with
      | 1000 => Jvm.Cond.methodLink own k Lib.objectInit ∈ lw_tbl
      | _ => ziniOK MT own k a b d
    | .ireturn => len = 1 ∧ ((a = 0 ∧ ret = some .int) ∨ (a = 1 ∧ ret = some .boolean))
    | .lreturn => len = 1 ∧ ret = some .long
    | .areturn => len = 1 ∧ ∃ rt, ret = some rt ∧ ((∃ n, rt = .object n) ∨ ∃ t, rt = .array t)
    | .return_ => len = 1 ∧ ret = none
    | _ => len = 1
-- what the helpers say
theorem zli_some {ls : zL} {a : Nat} {k : Int → Option zR} {r : zR} (h : zli ls a k = some r) : ∃ x, ls[a]? = some (some (.inr (.inl x))) ∧ k x = some r := by
  unfold zli at h
  split at h
  · next x e => exact ⟨x, e, h⟩
  · cases h
theorem zll_some {ls : zL} {a : Nat} {k : Int → Option zR} {r : zR} (h : zll ls a k = some r) : ∃ x, ls[a]? = some (some (.inr (.inr x))) ∧ k x = some r := by
  unfold zll at h
  split at h
  · next x e => exact ⟨x, e, h⟩
  · cases h
theorem zlr_some {ls : zL} {a : Nat} {k : Nat → Option zR} {r : zR} (h : zlr ls a k = some r) : ∃ x, ls[a]? = some (some (.inl (some x))) ∧ k x = some r := by
  unfold zlr at h
  split at h
  · next x e => exact ⟨x, e, h⟩
  · cases h
theorem zI1_some {st : List zV} {k : Int → List zV → Option zR} {r : zR} (h : zI1 st k = some r) : ∃ x q, st = .inr (.inl x) :: q ∧ k x q = some r := by
  unfold zI1 at h
  split at h
  · next x q => exact ⟨x, q, rfl, h⟩
  · cases h
theorem zJ1_some {st : List zV} {k : Int → List zV → Option zR} {r : zR} (h : zJ1 st k = some r) : ∃ x q, st = .inr (.inr x) :: q ∧ k x q = some r := by
  unfold zJ1 at h
  split at h
  · next x q => exact ⟨x, q, rfl, h⟩
  · cases h
theorem zR1_some {st : List zV} {k : Nat → List zV → Option zR} {r : zR} (h : zR1 st k = some r) : ∃ x q, st = .inl (some x) :: q ∧ k x q = some r := by
  unfold zR1 at h
  split at h
  · next x q => exact ⟨x, q, rfl, h⟩
  · cases h
theorem zI2_some {st : List zV} {k : Int → Int → List zV → Option zR} {r : zR} (h : zI2 st k = some r) : ∃ x y q, st = .inr (.inl y) :: .inr (.inl x) :: q ∧ k x y q = some r := by
  unfold zI2 at h
  split at h
  · next y x q => exact ⟨x, y, q, rfl, h⟩
  · cases h
theorem zJ2_some {st : List zV} {k : Int → Int → List zV → Option zR} {r : zR} (h : zJ2 st k = some r) : ∃ x y q, st = .inr (.inr y) :: .inr (.inr x) :: q ∧ k x y q = some r := by
  unfold zJ2 at h
  split at h
  · next y x q => exact ⟨x, y, q, rfl, h⟩
  · cases h
theorem zJI_some {st : List zV} {k : Int → Int → List zV → Option zR} {r : zR} (h : zJI st k = some r) : ∃ x y q, st = .inr (.inl y) :: .inr (.inr x) :: q ∧ k x y q = some r := by
  unfold zJI at h
  split at h
  · next y x q => exact ⟨x, y, q, rfl, h⟩
  · cases h
theorem zbif_some {p : Bool} {x : Option zR} {r : zR} (h : (bif p then x else none) = some r) : p = true ∧ x = some r := by
  cases p
  · cases h
  · exact ⟨rfl, h⟩
theorem zV1_some {st : List zV} {k : zV → List zV → Option zR} {r : zR} (h : zV1 st k = some r) : ∃ v q, st = v :: q ∧ zcat v = 1 ∧ k v q = some r := by
  unfold zV1 at h
  split at h
  · next v q =>
    obtain ⟨h1, h2⟩ := zbif_some h
    exact ⟨v, q, rfl, Nat.eq_of_beq_eq_true h1, h2⟩
  · cases h
theorem zV2_some {st : List zV} {k : zV → zV → List zV → Option zR} {r : zR} (h : zV2 st k = some r) : ∃ v w q, st = v :: w :: q ∧ zcat v = 1 ∧ zcat w = 1 ∧ k v w q = some r := by
  unfold zV2 at h
  split at h
  · next v w q =>
    obtain ⟨h1, h2⟩ := zbif_some h
    rw [Bool.and_eq_true] at h1
    exact ⟨v, w, q, rfl, Nat.eq_of_beq_eq_true h1.1, Nat.eq_of_beq_eq_true h1.2, h2⟩
  · cases h
theorem zcon_some {tab : List (Int × Nat)} {k : Int → Option zR} {r : zR} (h : zcon tab k = some r) : ∃ v t q, tab = (v, t) :: q ∧ k v = some r := by
  unfold zcon at h
  split at h
  · next v t q => exact ⟨v, t, q, rfl, h⟩
  · cases h
theorem zite_none {p : Prop} [Decidable p] {x : Option zR} {r : zR} (h : (if p then x else none) = some r) : p ∧ x = some r := by
  split at h
  · next hp => exact ⟨hp, h⟩
  · cases h
theorem zfld_some {L : List zS} {o a b : Nat} {kI : Option zR} {kR : Nat → Option zR} {r : zR} (h : zfld L o a b kI kR = some r) : ∃ fs, L[o]? = some (.inr (a, fs)) ∧ ((fs[b]? = some none ∧ kI = some r) ∨ ∃ t, fs[b]? = some (some (some t)) ∧ kR t = some r) := by
  unfold zfld at h
  split at h
  · next ci fs e =>
    obtain ⟨h1, h2⟩ := zbif_some h
    have : ci = a := Nat.eq_of_beq_eq_true h1
    subst this
    refine ⟨fs, e, ?_⟩
    split at h2
    · next e2 => exact Or.inl ⟨e2, h2⟩
    · next t e2 => exact Or.inr ⟨t, e2, h2⟩
    · cases h2
  · cases h
theorem zar_some {L : List zS} {tag o : Nat} {i : Int} {k : Option zR} {r : zR} (h : zar L tag o i k = some r) : ∃ n ts, L[o]? = some (.inl (tag, n, ts)) ∧ 0 ≤ i ∧ i < (n : Int) ∧ k = some r := by
  unfold zar at h
  split at h
  · next t n ts e =>
    obtain ⟨h1, h2⟩ := zbif_some h
    have : t = tag := Nat.eq_of_beq_eq_true h1
    subst this
    obtain ⟨h3, h4⟩ := zite_none h2
    exact ⟨n, ts, e, h3.1, h3.2, h4⟩
  · cases h
theorem zia_some {X : zX} {L : List zS} {σ : zF} {o : Nat} {i : Int} {k : Int → Option zR} {r : zR} (h : zia X L σ o i k = some r) : (∃ n ts, L[o]? = some (.inl (0, n, ts)) ∧ 0 ≤ i ∧ i < (n : Int) ∧ k (σ o i) = some r) ∨ ∃ n f, 1000 ≤ o ∧ X[o - 1000]? = some (n, f) ∧ 0 ≤ i ∧ i < (n : Int) ∧ k (f i.toNat) = some r := by
  unfold zia at h
  split at h
  · next n ts e =>
    obtain ⟨h3, h4⟩ := zite_none h
    exact Or.inl ⟨n, ts, e, h3.1, h3.2, h4⟩
  · cases h
  · cases hb : Nat.blt o 1000
    · rw [hb] at h
      simp only [cond_false] at h
      split at h
      · next n f e =>
        obtain ⟨h3, h4⟩ := zite_none h
        refine Or.inr ⟨n, f, ?_, e, h3.1, h3.2, h4⟩
        rcases Nat.lt_or_ge o 1000 with q | q
        · rw [show Nat.blt o 1000 = true from by rw [Nat.blt_eq]; exact q] at hb
          cases hb
        · exact q
      · cases h
    · rw [hb] at h
      cases h
theorem zlen_some {X : zX} {L : List zS} {o : Nat} {k : Nat → Option zR} {r : zR} (h : zlen X L o k = some r) : (∃ t n ts, L[o]? = some (.inl (t, n, ts)) ∧ k n = some r) ∨ ∃ n f, 1000 ≤ o ∧ X[o - 1000]? = some (n, f) ∧ k n = some r := by
  unfold zlen at h
  split at h
  · next t n ts e => exact Or.inl ⟨t, n, ts, e, h⟩
  · cases h
  · cases hb : Nat.blt o 1000
    · rw [hb] at h
      simp only [cond_false] at h
      split at h
      · next n f e =>
        refine Or.inr ⟨n, f, ?_, e, h⟩
        rcases Nat.lt_or_ge o 1000 with q | q
        · rw [show Nat.blt o 1000 = true from by rw [Nat.blt_eq]; exact q] at hb
          cases hb
        · exact q
      · cases h
    · rw [hb] at h
      cases h
theorem zaa_some {L : List zS} {o : Nat} {i : Int} {k : Nat → Option zR} {r : zR} (h : zaa L o i k = some r) : ∃ n ts t, L[o]? = some (.inl (2, n, ts)) ∧ 0 ≤ i ∧ i < (n : Int) ∧ ts[i.toNat]? = some (some t) ∧ k t = some r := by
  unfold zaa at h
  split at h
  · next n ts e =>
    obtain ⟨h3, h4⟩ := zite_none h
    split at h4
    · next t e2 => exact ⟨n, ts, t, e, h3.1, h3.2, e2, h4⟩
    · cases h4
  · cases h
theorem zcls_some {L : List zS} {o ci : Nat} (h : zcls L o ci = true) : ∃ fs, L[o]? = some (.inr (ci, fs)) := by
  unfold zcls at h
  split at h
  · next c fs e =>
    have : c = ci := Nat.eq_of_beq_eq_true h
    subst this
    exact ⟨fs, e⟩
  · cases h
theorem zC_some {kind : Nat} {L : List zS} {o : Option zR} {k : List zV → zF → Option zR} {r : zR} (h : zC kind L o k = some r) : ∃ v σ', o = some (v, (L, σ')) ∧ k v.toList σ' = some r ∧ ¬ v = some (.inl none) := by
  unfold zC at h
  split at h
  · unfold zCV at h
    split at h
    · next L' σ' =>
      obtain ⟨h1, h2⟩ := zite_none h
      subst h1
      exact ⟨none, σ', rfl, h2, by simp⟩
    · cases h
  · unfold zCI at h
    split at h
    · next i L' σ' =>
      obtain ⟨h1, h2⟩ := zite_none h
      subst h1
      exact ⟨_, σ', rfl, h2, by simp⟩
    · cases h
  · unfold zCJ at h
    split at h
    · next i L' σ' =>
      obtain ⟨h1, h2⟩ := zite_none h
      subst h1
      exact ⟨_, σ', rfl, h2, by simp⟩
    · cases h
  · unfold zCR at h
    split at h
    · next i L' σ' =>
      obtain ⟨h1, h2⟩ := zite_none h
      subst h1
      exact ⟨_, σ', rfl, h2, by simp⟩
    · cases h
  · cases h
theorem zCN_some {o : Option zR} {k : zH → Option zR} {r : zR} (h : zCN o k = some r) : ∃ q, o = some (none, q) ∧ k q = some r := by
  unfold zCN at h
  split at h
  · next q => exact ⟨q, rfl, h⟩
  · cases h
