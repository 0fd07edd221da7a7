/-! the run without a count of steps: it holds the equation of one step; a walk to the next cuts is the run -/
/-- what a step does with what comes behind it: nothing, or it goes on at one place -/
def zT (L0 : List zS) (f : zK → Option zR) : Prop := (∃ r : Option zR, (∀ v, r = some v → zle L0 v.2.1) ∧ ∀ K, f K = r) ∨ ∃ pc ls st h, zle L0 h.1 ∧ ∀ K, f K = K pc ls st h
def zCm (calls : zCalls) : Prop := ∀ id vs h v, calls id vs h = some v → zle h.1 v.2.1
section
variable {L0 : List zS}
theorem zT_none : zT L0 (fun _ => none) := Or.inl ⟨none, (fun _ h => by cases h), fun _ => rfl⟩
theorem zT_c (r : Option zR) (h : ∀ v, r = some v → zle L0 v.2.1) : zT L0 (fun _ => r) := Or.inl ⟨r, h, fun _ => rfl⟩
theorem zT_K (pc : Nat) (ls : zL) (st : List zV) (h : zH) (e : zle L0 h.1) : zT L0 (fun K => K pc ls st h) := Or.inr ⟨pc, ls, st, h, e, fun _ => rfl⟩
theorem zT_ite {p : Prop} [Decidable p] {f g : zK → Option zR} (hf : zT L0 f) (hg : zT L0 g) : zT L0 (fun K => if p then f K else g K) := by
  by_cases h : p
  · simp only [if_pos h]; exact hf
  · simp only [if_neg h]; exact hg
theorem zT_bif {p : Bool} {f g : zK → Option zR} (hf : zT L0 f) (hg : zT L0 g) : zT L0 (fun K => bif p then f K else g K) := by
  cases p
  · exact hg
  · exact hf
theorem zT_li {ls : zL} {a : Nat} {k : zK → Int → Option zR} (h : ∀ x, zT L0 (fun K => k K x)) : zT L0 (fun K => zli ls a (k K)) := by
  unfold zli
  rcases ls[a]? with _ | _ | _ | x | x
  · exact zT_none
  · exact zT_none
  · exact zT_none
  · exact h x
  · exact zT_none
theorem zT_ll {ls : zL} {a : Nat} {k : zK → Int → Option zR} (h : ∀ x, zT L0 (fun K => k K x)) : zT L0 (fun K => zll ls a (k K)) := by
  unfold zll
  rcases ls[a]? with _ | _ | _ | x | x
  · exact zT_none
  · exact zT_none
  · exact zT_none
  · exact zT_none
  · exact h x
theorem zT_lr {ls : zL} {a : Nat} {k : zK → Nat → Option zR} (h : ∀ x, zT L0 (fun K => k K x)) : zT L0 (fun K => zlr ls a (k K)) := by
  unfold zlr
  rcases ls[a]? with _ | _ | (_ | x) | x | x
  · exact zT_none
  · exact zT_none
  · exact zT_none
  · exact h x
  · exact zT_none
  · exact zT_none
theorem zT_I1 {st : List zV} {k : zK → Int → List zV → Option zR} (h : ∀ x r, zT L0 (fun K => k K x r)) : zT L0 (fun K => zI1 st (k K)) := by
  unfold zI1
  rcases st with _ | ⟨_ | x | x, r⟩
  · exact zT_none
  · exact zT_none
  · exact h x r
  · exact zT_none
theorem zT_J1 {st : List zV} {k : zK → Int → List zV → Option zR} (h : ∀ x r, zT L0 (fun K => k K x r)) : zT L0 (fun K => zJ1 st (k K)) := by
  unfold zJ1
  rcases st with _ | ⟨_ | x | x, r⟩
  · exact zT_none
  · exact zT_none
  · exact zT_none
  · exact h x r
theorem zT_R1 {st : List zV} {k : zK → Nat → List zV → Option zR} (h : ∀ x r, zT L0 (fun K => k K x r)) : zT L0 (fun K => zR1 st (k K)) := by
  unfold zR1
  rcases st with _ | ⟨(_ | x) | x | x, r⟩
  · exact zT_none
  · exact zT_none
  · exact h x r
  · exact zT_none
  · exact zT_none
theorem zT_I2 {st : List zV} {k : zK → Int → Int → List zV → Option zR} (h : ∀ x y r, zT L0 (fun K => k K x y r)) : zT L0 (fun K => zI2 st (k K)) := by
  unfold zI2
  rcases st with _ | ⟨_ | x | x, _ | ⟨_ | y | y, r⟩⟩
  all_goals first | exact zT_none | exact h _ _ _
theorem zT_J2 {st : List zV} {k : zK → Int → Int → List zV → Option zR} (h : ∀ x y r, zT L0 (fun K => k K x y r)) : zT L0 (fun K => zJ2 st (k K)) := by
  unfold zJ2
  rcases st with _ | ⟨_ | x | x, _ | ⟨_ | y | y, r⟩⟩
  all_goals first | exact zT_none | exact h _ _ _
theorem zT_JI {st : List zV} {k : zK → Int → Int → List zV → Option zR} (h : ∀ x y r, zT L0 (fun K => k K x y r)) : zT L0 (fun K => zJI st (k K)) := by
  unfold zJI
  rcases st with _ | ⟨_ | x | x, _ | ⟨_ | y | y, r⟩⟩
  all_goals first | exact zT_none | exact h _ _ _
theorem zT_V1 {st : List zV} {k : zK → zV → List zV → Option zR} (h : ∀ x r, zT L0 (fun K => k K x r)) : zT L0 (fun K => zV1 st (k K)) := by
  unfold zV1
  rcases st with _ | ⟨v, r⟩
  · exact zT_none
  · exact zT_bif (h v r) zT_none
theorem zT_V2 {st : List zV} {k : zK → zV → zV → List zV → Option zR} (h : ∀ x y r, zT L0 (fun K => k K x y r)) : zT L0 (fun K => zV2 st (k K)) := by
  unfold zV2
  rcases st with _ | ⟨v, _ | ⟨w, r⟩⟩
  · exact zT_none
  · exact zT_none
  · exact zT_bif (h v w r) zT_none
theorem zT_con {tab : List (Int × Nat)} {k : zK → Int → Option zR} (h : ∀ x, zT L0 (fun K => k K x)) : zT L0 (fun K => zcon tab (k K)) := by
  unfold zcon
  rcases tab with _ | ⟨q, r⟩
  · exact zT_none
  · exact h q.1
theorem zT_br {q : ClassFile.Cond} {x y : Int} {f g : zK → Option zR} (hf : zT L0 f) (hg : zT L0 g) : zT L0 (fun K => zbr q x y (f K) (g K)) := by
  unfold zbr
  cases q
  · exact zT_ite hf hg
  · exact zT_ite hg hf
  · exact zT_ite hf hg
  · exact zT_ite hg hf
  · exact zT_ite hf hg
  · exact zT_ite hg hf
theorem zT_sw {k : zK → Nat → Option zR} (h : ∀ t, zT L0 (fun K => k K t)) (d : Nat) (x : Int) : ∀ tab, zT L0 (fun K => zsw (k K) d tab x)
  | [] => h d
  | (v, t) :: r => by
    simp only [zsw]
    exact zT_ite (h t) (zT_sw h d x r)
theorem zT_fld {L : List zS} {o a b : Nat} {kI : zK → Option zR} {kR : zK → Nat → Option zR} (h1 : zT L0 kI) (h2 : ∀ t, zT L0 (fun K => kR K t)) : zT L0 (fun K => zfld L o a b (kI K) (kR K)) := by
  unfold zfld
  rcases L[o]? with _ | _ | ⟨ci, fs⟩
  · exact zT_none
  · exact zT_none
  · refine zT_bif ?_ zT_none
    rcases fs[b]? with _ | _ | _ | t
    · exact zT_none
    · exact h1
    · exact zT_none
    · exact h2 t
theorem zT_ia {X : zX} {L : List zS} {σ : zF} {o : Nat} {i : Int} {k : zK → Int → Option zR} (h : ∀ x, zT L0 (fun K => k K x)) : zT L0 (fun K => zia X L σ o i (k K)) := by
  unfold zia
  rcases L[o]? with _ | ⟨_ | t, n, ts⟩ | q
  · refine zT_bif zT_none ?_
    rcases X[o - 1000]? with _ | ⟨n, f⟩
    · exact zT_none
    · exact zT_ite (h _) zT_none
  · exact zT_ite (h _) zT_none
  · exact zT_none
  · exact zT_none
theorem zT_ar {L : List zS} {tag o : Nat} {i : Int} {k : zK → Option zR} (h : zT L0 k) : zT L0 (fun K => zar L tag o i (k K)) := by
  unfold zar
  rcases L[o]? with _ | ⟨t, n, ts⟩ | q
  · exact zT_none
  · exact zT_bif (zT_ite h zT_none) zT_none
  · exact zT_none
theorem zT_aa {L : List zS} {o : Nat} {i : Int} {k : zK → Nat → Option zR} (h : ∀ t, zT L0 (fun K => k K t)) : zT L0 (fun K => zaa L o i (k K)) := by
  unfold zaa
  rcases L[o]? with _ | ⟨_ | _ | _ | t, n, ts⟩ | q
  all_goals try exact zT_none
  refine zT_ite ?_ zT_none
  rcases ts[i.toNat]? with _ | _ | t
  · exact zT_none
  · exact zT_none
  · exact h t
theorem zT_len {X : zX} {L : List zS} {o : Nat} {k : zK → Nat → Option zR} (h : ∀ t, zT L0 (fun K => k K t)) : zT L0 (fun K => zlen X L o (k K)) := by
  unfold zlen
  rcases L[o]? with _ | ⟨t, n, ts⟩ | q
  · refine zT_bif zT_none ?_
    rcases X[o - 1000]? with _ | ⟨n, f⟩
    · exact zT_none
    · exact h n
  · exact h n
  · exact zT_none
theorem zT_putK {L : List zS} {o a b c : Nat} {x : Int} {k : zK → Option zR} (h : zT L0 k) : zT L0 (fun K => zputK L o a b c x (k K)) := by
  unfold zputK
  rcases L[o]? with _ | _ | ⟨ci, fs⟩
  · exact zT_none
  · exact zT_none
  · dsimp only
    refine zT_bif ?_ zT_none
    rcases fs[b]? with _ | _ | q
    · exact zT_none
    · exact zT_bif h (zT_ite h zT_none)
    · exact zT_none
theorem zT_put {L : List zS} {σ : zF} {st : List zV} {a b c : Nat} {k : zK → List zV → zH → Option zR} (h : ∀ r q, zle L q.1 → zT L0 (fun K => k K r q)) : zT L0 (fun K => zput L σ st a b c (k K)) := by
  unfold zput
  rcases st with _ | ⟨(_ | t) | x | x, _ | ⟨(_ | o) | y | y, r⟩⟩
  all_goals try exact zT_none
  · dsimp only
    rcases hL : L[o]? with _ | _ | ⟨ci, fs⟩
    · exact zT_none
    · exact zT_none
    · dsimp only
      refine zT_bif ?_ zT_none
      rcases fs[b]? with _ | _ | q
      · exact zT_none
      · exact zT_none
      · exact h _ _ (zle_set hL (by simp [zsz]))
  · exact zT_putK (h _ _ (zle_rf L))
theorem zT_ast {L : List zS} {σ : zF} {st : List zV} {k : zK → List zV → zH → Option zR} (h : ∀ r q, zle L q.1 → zT L0 (fun K => k K r q)) : zT L0 (fun K => zast L σ st (k K)) := by
  unfold zast
  split
  · split
    · next h1 h2 => exact zT_ite (h _ _ (zle_set h1 rfl)) zT_none
    · exact zT_none
  · exact zT_none
theorem zT_arcK {L : List zS} {o1 o2 : Nat} {n sp dp : Int} {k : zK → Option zR} (h : zT L0 k) : zT L0 (fun K => zarcK L o1 o2 n sp dp (k K)) := by
  unfold zarcK
  split
  · exact zT_bif (zT_ite h zT_none) zT_none
  · exact zT_none
theorem zT_arc {L : List zS} {σ : zF} {st : List zV} {k : zK → List zV → zF → Option zR} (h : ∀ r q, zT L0 (fun K => k K r q)) : zT L0 (fun K => zarc L σ st (k K)) := by
  unfold zarc
  split
  · exact zT_arcK (h _ _)
  · exact zT_none
theorem zT_new {L : List zS} {σ : zF} {a : Nat} {k : zK → zH → Option zR} (h : ∀ q, zle L q.1 → zT L0 (fun K => k K q)) : zT L0 (fun K => znew L σ a (k K)) := by
  unfold znew
  rcases zTys[a]? with _ | q
  · exact zT_none
  · exact zT_bif (h _ (zle_app _ _)) zT_none
theorem zT_nwa {L : List zS} {σ : zF} {tag : Nat} {n : Int} {k : zK → zH → Option zR} (h : ∀ q, zle L q.1 → zT L0 (fun K => k K q)) : zT L0 (fun K => znwa L σ tag n (k K)) := by
  unfold znwa
  exact zT_bif (zT_ite (h _ (zle_app _ _)) zT_none) zT_none
theorem zT_CN {L : List zS} {o : Option zR} {k : zK → zH → Option zR} (ho : ∀ v, o = some v → zle L v.2.1) (h : ∀ q, zle L q.1 → zT L0 (fun K => k K q)) : zT L0 (fun K => zCN o (k K)) := by
  unfold zCN
  rcases o with _ | ⟨_ | v, q⟩
  · exact zT_none
  · exact h q (ho _ rfl)
  · exact zT_none
theorem zT_C {kind : Nat} {L : List zS} {o : Option zR} {k : zK → List zV → zF → Option zR} (h : ∀ v q, zT L0 (fun K => k K v q)) : zT L0 (fun K => zC kind L o (k K)) := by
  unfold zC
  split
  · unfold zCV
    rcases o with _ | ⟨_ | v, L', σ⟩
    · exact zT_none
    · exact zT_ite (h _ _) zT_none
    · exact zT_none
  · unfold zCI
    rcases o with _ | ⟨_ | _ | v | v, L', σ⟩
    all_goals try exact zT_none
    exact zT_ite (h _ _) zT_none
  · unfold zCJ
    rcases o with _ | ⟨_ | _ | v | v, L', σ⟩
    all_goals try exact zT_none
    exact zT_ite (h _ _) zT_none
  · unfold zCR
    rcases o with _ | ⟨_ | (_ | v) | v | v, L', σ⟩
    all_goals try exact zT_none
    exact zT_ite (h _ _) zT_none
  · exact zT_none
theorem zgo_T (X : zX) (calls : zCalls) (hc : zCm calls) (i : Instr) (len a b c d : Nat) (tab : List (Int × Nat)) (pc : Nat) (ls : zL) (st : List zV) (L : List zS) (σ : zF) : zT L (fun K => zgo X calls K i len a b c d tab pc ls st L σ) := by
  cases i
  case iload => exact zT_li fun x => zT_K _ _ _ _ (zle_rf L)
  case iload_n => exact zT_li fun x => zT_K _ _ _ _ (zle_rf L)
  case lload => exact zT_ll fun x => zT_K _ _ _ _ (zle_rf L)
  case lload_n => exact zT_ll fun x => zT_K _ _ _ _ (zle_rf L)
  case aload => exact zT_lr fun x => zT_K _ _ _ _ (zle_rf L)
  case aload_n => exact zT_lr fun x => zT_K _ _ _ _ (zle_rf L)
  case istore => exact zT_I1 fun x r => zT_K _ _ _ _ (zle_rf L)
  case istore_n => exact zT_I1 fun x r => zT_K _ _ _ _ (zle_rf L)
  case lstore => exact zT_J1 fun x r => zT_K _ _ _ _ (zle_rf L)
  case lstore_n => exact zT_J1 fun x r => zT_K _ _ _ _ (zle_rf L)
  case astore => exact zT_R1 fun x r => zT_K _ _ _ _ (zle_rf L)
  case astore_n => exact zT_R1 fun x r => zT_K _ _ _ _ (zle_rf L)
  case iinc => exact zT_li fun x => zT_con fun v => zT_K _ _ _ _ (zle_rf L)
  case iconst => exact zT_con fun v => zT_K _ _ _ _ (zle_rf L)
  case bipush => exact zT_con fun v => zT_K _ _ _ _ (zle_rf L)
  case sipush => exact zT_con fun v => zT_K _ _ _ _ (zle_rf L)
  case ldc => exact zT_con fun v => zT_K _ _ _ _ (zle_rf L)
  case ldc_w => exact zT_con fun v => zT_K _ _ _ _ (zle_rf L)
  case lconst => exact zT_con fun v => zT_K _ _ _ _ (zle_rf L)
  case ldc2_w => exact zT_con fun v => zT_K _ _ _ _ (zle_rf L)
  case iadd => exact zT_I2 fun x y r => zT_K _ _ _ _ (zle_rf L)
  case isub => exact zT_I2 fun x y r => zT_K _ _ _ _ (zle_rf L)
  case imul => exact zT_I2 fun x y r => zT_K _ _ _ _ (zle_rf L)
  case idiv => exact zT_I2 fun x y r => zT_ite zT_none (zT_K _ _ _ _ (zle_rf L))
  case irem => exact zT_I2 fun x y r => zT_ite zT_none (zT_K _ _ _ _ (zle_rf L))
  case ineg => exact zT_I1 fun x r => zT_K _ _ _ _ (zle_rf L)
  case iand => exact zT_I2 fun x y r => zT_K _ _ _ _ (zle_rf L)
  case ior => exact zT_I2 fun x y r => zT_K _ _ _ _ (zle_rf L)
  case ixor => exact zT_I2 fun x y r => zT_K _ _ _ _ (zle_rf L)
  case ishl => exact zT_I2 fun x y r => zT_K _ _ _ _ (zle_rf L)
  case ishr => exact zT_I2 fun x y r => zT_K _ _ _ _ (zle_rf L)
  case iushr => exact zT_I2 fun x y r => zT_K _ _ _ _ (zle_rf L)
  case ladd => exact zT_J2 fun x y r => zT_K _ _ _ _ (zle_rf L)
  case lmul => exact zT_J2 fun x y r => zT_K _ _ _ _ (zle_rf L)
  case land => exact zT_J2 fun x y r => zT_K _ _ _ _ (zle_rf L)
  case lor => exact zT_J2 fun x y r => zT_K _ _ _ _ (zle_rf L)
  case lshl => exact zT_JI fun x y r => zT_K _ _ _ _ (zle_rf L)
  case i2l => exact zT_I1 fun x r => zT_K _ _ _ _ (zle_rf L)
  case l2i => exact zT_J1 fun x r => zT_K _ _ _ _ (zle_rf L)
  case i2b => exact zT_I1 fun x r => zT_K _ _ _ _ (zle_rf L)
  case i2s => exact zT_I1 fun x r => zT_K _ _ _ _ (zle_rf L)
  case lcmp => exact zT_J2 fun x y r => zT_K _ _ _ _ (zle_rf L)
  case dup => exact zT_V1 fun v r => zT_K _ _ _ _ (zle_rf L)
  case pop => exact zT_V1 fun v r => zT_K _ _ _ _ (zle_rf L)
  case dup_x1 => exact zT_V2 fun v w r => zT_K _ _ _ _ (zle_rf L)
  case dup2 => exact zT_V2 fun v w r => zT_K _ _ _ _ (zle_rf L)
  case goto => exact zT_K _ _ _ _ (zle_rf L)
  case if_icmp => exact zT_I2 fun x y r => zT_br (zT_K _ _ _ _ (zle_rf L)) (zT_K _ _ _ _ (zle_rf L))
  case ifCond => exact zT_I1 fun x r => zT_br (zT_K _ _ _ _ (zle_rf L)) (zT_K _ _ _ _ (zle_rf L))
  case tableswitch => exact zT_I1 fun x r => zT_sw (fun t => zT_K _ _ _ _ (zle_rf L)) _ _ _
  case lookupswitch => exact zT_I1 fun x r => zT_sw (fun t => zT_K _ _ _ _ (zle_rf L)) _ _ _
  case getfield => exact zT_R1 fun o r => zT_fld (zT_K _ _ _ _ (zle_rf L)) fun t => zT_K _ _ _ _ (zle_rf L)
  case putfield => exact zT_put fun r h e => zT_K _ _ _ _ e
  case getstatic => exact zT_K _ _ _ _ (zle_rf L)
  case iaload => exact zT_I1 fun i r => zT_R1 fun o r => zT_ia fun v => zT_K _ _ _ _ (zle_rf L)
  case iastore => exact zT_I1 fun x r => zT_I1 fun i r => zT_R1 fun o r => zT_ar (zT_K _ _ _ _ (zle_rf L))
  case laload => exact zT_I1 fun i r => zT_R1 fun o r => zT_ar (zT_K _ _ _ _ (zle_rf L))
  case lastore => exact zT_J1 fun x r => zT_I1 fun i r => zT_R1 fun o r => zT_ar (zT_K _ _ _ _ (zle_rf L))
  case aaload => exact zT_I1 fun i r => zT_R1 fun o r => zT_aa fun t => zT_K _ _ _ _ (zle_rf L)
  case aastore => exact zT_ast fun r h e => zT_K _ _ _ _ e
  case arraylength => exact zT_R1 fun o r => zT_len fun n => zT_K _ _ _ _ (zle_rf L)
  case newarray => exact zT_I1 fun n r => zT_bif (zT_nwa fun h e => zT_K _ _ _ _ e) zT_none
  case anewarray => exact zT_I1 fun n r => zT_nwa fun h e => zT_K _ _ _ _ e
  case new => exact zT_new fun h e => zT_K _ _ _ _ e
  case invokevirtual =>
    simp only [zgo]
    rcases ztk b [] st with _ | ⟨vs, r⟩
    · exact zT_none
    · exact zT_R1 fun o r => zT_bif (zT_C fun v q => zT_K _ _ _ _ (zle_rf L)) zT_none
  case invokestatic =>
    unfold zgo
    dsimp only
    split
    · exact zT_I2 fun x y r => zT_bif (zT_K _ _ _ _ (zle_rf L)) zT_none
    · exact zT_I2 fun x y r => zT_bif (zT_K _ _ _ _ (zle_rf L)) zT_none
    · exact zT_arc fun r q => zT_bif (zT_K _ _ _ _ (zle_rf L)) zT_none
    · rcases ztk b [] st with _ | ⟨vs, r⟩
      · exact zT_none
      · exact zT_bif (zT_C fun v q => zT_K _ _ _ _ (zle_rf L)) zT_none
  case invokespecial =>
    unfold zgo
    dsimp only
    split
    · exact zT_R1 fun o r => zT_bif (zT_K _ _ _ _ (zle_rf L)) zT_none
    · rcases ztk b [] st with _ | ⟨vs, r⟩
      · exact zT_none
      · exact zT_R1 fun o r => zT_bif (zT_CN (hc _ _ _) fun q e => zT_K _ _ _ _ e) zT_none
  case ireturn =>
    refine zT_c _ ?_
    intro v hv
    split at hv
    · cases a
      · cases hv; exact zle_rf L
      · simp only [Nat.beq, cond_false] at hv
        split at hv
        · cases hv; exact zle_rf L
        · cases hv
    · cases hv
  case lreturn =>
    refine zT_c _ ?_
    intro v hv
    split at hv
    · cases hv; exact zle_rf L
    · cases hv
  case areturn =>
    refine zT_c _ ?_
    intro v hv
    split at hv
    · cases hv; exact zle_rf L
    · cases hv
  case return_ =>
    refine zT_c _ ?_
    intro v hv
    split at hv
    · cases hv; exact zle_rf L
    · cases hv
  all_goals exact zT_none
end
theorem zstp_T0 (X : zX) (calls : zCalls) (hc : zCm calls) (C : List (Nat × zI)) (pc : Nat) (ls : zL) (st : List zV) (h : zH) : zT h.1 (fun K => zstp X calls C K pc ls st h) := by
  unfold zstp
  rcases zlook C pc with _ | ⟨i, len, a, b, c, d, tab⟩
  · exact zT_none
  · exact zgo_T _ _ hc _ _ _ _ _ _ _ _ _ _ _ _
theorem zstp_T1 (X : zX) (calls : zCalls) (hc : zCm calls) (C : List (Nat × zI)) (pc : Nat) (ls : zL) (st : List zV) (h : zH) : (∃ r : Option zR, (∀ v, r = some v → zle h.1 v.2.1) ∧ ∀ K, zstp X calls C K pc ls st h = r) ∨ ∃ pc' ls' st' h', zle h.1 h'.1 ∧ ∀ K, zstp X calls C K pc ls st h = K pc' ls' st' h' := zstp_T0 X calls hc C pc ls st h
theorem zstp_T (X : zX) (calls : zCalls) (hc : zCm calls) (C : List (Nat × zI)) (pc : Nat) (ls : zL) (st : List zV) (h : zH) : (∃ r, ∀ K, zstp X calls C K pc ls st h = r) ∨ ∃ pc' ls' st' h', ∀ K, zstp X calls C K pc ls st h = K pc' ls' st' h' := by
  rcases zstp_T1 X calls hc C pc ls st h with ⟨r, _, q⟩ | ⟨a1, a2, a3, a4, _, q⟩
  · exact Or.inl ⟨r, q⟩
  · exact Or.inr ⟨a1, a2, a3, a4, q⟩
theorem zrun_mono1 (X : zX) (calls : zCalls) (hc : zCm calls) (C : List (Nat × zI)) (cuts : zCut) : ∀ (n pc : Nat) (ls : zL) (st : List zV) (h : zH) (v : zR), zrun X calls C cuts n pc ls st h = some v → zrun X calls C cuts (n + 1) pc ls st h = some v := by
  intro n
  induction n with
  | zero => intro pc ls st h v e; exact absurd e (by simp [zrun])
  | succ n ih =>
    intro pc ls st h v e
    rcases zstp_T X calls hc C pc ls st h with ⟨r, hr⟩ | ⟨pc', ls', st', h', hr⟩
    · have e1 : zstp X calls C (zcutK cuts (zrun X calls C cuts n)) pc ls st h = some v := e
      show zstp X calls C (zcutK cuts (zrun X calls C cuts (n + 1))) pc ls st h = some v
      rw [hr] at e1 ⊢
      exact e1
    · have e1 : zstp X calls C (zcutK cuts (zrun X calls C cuts n)) pc ls st h = some v := e
      show zstp X calls C (zcutK cuts (zrun X calls C cuts (n + 1))) pc ls st h = some v
      rw [hr] at e1 ⊢
      exact ih _ _ _ _ _ e1
theorem zrun_mono (X : zX) (calls : zCalls) (hc : zCm calls) (C : List (Nat × zI)) (cuts : zCut) (n m : Nat) (hnm : n ≤ m) (pc : Nat) (ls : zL) (st : List zV) (h : zH) (v : zR) (e : zrun X calls C cuts n pc ls st h = some v) : zrun X calls C cuts m pc ls st h = some v := by
  induction hnm with
  | refl => exact e
  | step _ ih => exact zrun_mono1 _ _ hc _ _ _ _ _ _ _ _ ih
theorem zlim_some {α : Type} {f : Nat → Option α} {v : α} (h : zlim f = some v) : ∃ n, f n = some v := by
  unfold zlim at h
  split at h
  · next q => exact ⟨_, h⟩
  · cases h
theorem zlim_of {α : Type} {f : Nat → Option α} (hm : ∀ n m v, n ≤ m → f n = some v → f m = some v) {n : Nat} {v : α} (h : f n = some v) : zlim f = some v := by
  have hx : ∃ n, (f n).isSome = true := ⟨n, by rw [h]; rfl⟩
  unfold zlim
  rw [dif_pos hx]
  have h2 := Classical.choose_spec hx
  obtain ⟨w, hw⟩ := Option.isSome_iff_exists.mp h2
  have a1 := hm _ (max n (Classical.choose hx)) _ (Nat.le_max_left _ _) h
  have a2 := hm _ (max n (Classical.choose hx)) _ (Nat.le_max_right _ _) hw
  rw [hw, ← a2, a1]
theorem zrunL_some {X : zX} {calls : zCalls} {C : List (Nat × zI)} {cuts : zCut} {pc : Nat} {ls : zL} {st : List zV} {h : zH} {v : zR} (e : zrunL X calls C cuts pc ls st h = some v) : ∃ n, zrun X calls C cuts n pc ls st h = some v := zlim_some e
theorem zrunL_of {X : zX} {calls : zCalls} (hc : zCm calls) {C : List (Nat × zI)} {cuts : zCut} {n pc : Nat} {ls : zL} {st : List zV} {h : zH} {v : zR} (e : zrun X calls C cuts n pc ls st h = some v) : zrunL X calls C cuts pc ls st h = some v :=
  zlim_of (fun _ _ _ hnm q => zrun_mono X calls hc C cuts _ _ hnm _ _ _ _ _ q) e
theorem zrunL_eq (X : zX) (calls : zCalls) (hc : zCm calls) (C : List (Nat × zI)) (cuts : zCut) (pc : Nat) (ls : zL) (st : List zV) (h : zH) : zrunL X calls C cuts pc ls st h = zstp X calls C (zcutK cuts (zrunL X calls C cuts)) pc ls st h := by
  apply Option.ext
  intro v
  constructor
  · intro e
    obtain ⟨n, hn⟩ := zrunL_some e
    cases n with
    | zero => cases hn
    | succ n =>
      have e1 : zstp X calls C (zcutK cuts (zrun X calls C cuts n)) pc ls st h = some v := hn
      rcases zstp_T X calls hc C pc ls st h with ⟨r, hr⟩ | ⟨pc', ls', st', h', hr⟩
      · rw [hr] at e1 ⊢
        exact e1
      · rw [hr] at e1 ⊢
        exact zrunL_of hc e1
  · intro e
    rcases zstp_T X calls hc C pc ls st h with ⟨r, hr⟩ | ⟨pc', ls', st', h', hr⟩
    · rw [hr] at e
      exact zrunL_of hc (n := 1) (by show zstp X calls C (zcutK cuts (zrun X calls C cuts 0)) pc ls st h = some v; rw [hr]; exact e)
    · rw [hr] at e
      obtain ⟨n, hn⟩ := zrunL_some (show zrunL X calls C cuts pc' (zcm cuts pc' ls') st' h' = some v from e)
      exact zrunL_of hc (n := n + 1) (by show zstp X calls C (zcutK cuts (zrun X calls C cuts n)) pc ls st h = some v; rw [hr]; exact hn)
theorem zwalk_eq (X : zX) (calls : zCalls) (hc : zCm calls) (C : List (Nat × zI)) (cuts : zCut) : ∀ k, zwalk X calls C cuts k = zrunL X calls C cuts
  | 0 => rfl
  | k + 1 => by
    funext pc ls st h
    rw [zrunL_eq X calls hc]
    show zstp X calls C _ pc ls st h = _
    congr 1
    funext pc ls st h
    unfold zcutK zcm
    rw [zwalk_eq X calls hc C cuts k]
    cases zlook cuts pc <;> rfl
theorem zrun_le (X : zX) (calls : zCalls) (hc : zCm calls) (C : List (Nat × zI)) (cuts : zCut) : ∀ (n pc : Nat) (ls : zL) (st : List zV) (h : zH) (v : zR), zrun X calls C cuts n pc ls st h = some v → zle h.1 v.2.1 := by
  intro n
  induction n with
  | zero => intro pc ls st h v e; exact absurd e (by simp [zrun])
  | succ n ih =>
    intro pc ls st h v e
    have e1 : zstp X calls C (zcutK cuts (zrun X calls C cuts n)) pc ls st h = some v := e
    rcases zstp_T1 X calls hc C pc ls st h with ⟨r, hr1, hr⟩ | ⟨pc', ls', st', h', hr1, hr⟩
    · rw [hr] at e1
      exact hr1 v e1
    · rw [hr] at e1
      exact zle_tr hr1 (ih _ _ _ _ _ e1)
theorem zexec_m (X : zX) (MT : List zMt) : ∀ d, zCm (zexec X MT d)
  | 0 => fun _ _ _ _ h => by cases h
  | d + 1 => fun id vs h v e => by
    have e1 : (match MT[id]? with
      | some (_, _, n, _, C, cuts) => bif Nat.ble (zsl vs).length n then zrunL X (zexec X MT d) C cuts 0 (zcm cuts 0 (zargs n vs)) [] h else none
      | none => none) = some v := e
    rcases hM : MT[id]? with _ | ⟨y, cc, n, ret, C, cuts⟩
    · rw [hM] at e1; cases e1
    · rw [hM] at e1
      dsimp only at e1
      cases hb : Nat.ble (zsl vs).length n
      · rw [hb] at e1; cases e1
      · rw [hb] at e1
        obtain ⟨k, hk⟩ := zrunL_some (show zrunL X (zexec X MT d) C cuts 0 (zcm cuts 0 (zargs n vs)) [] h = some v from e1)
        exact zrun_le X _ (zexec_m X MT d) C cuts k _ _ _ _ _ hk
theorem zexec_eq {X : zX} {MT : List zMt} {d id n : Nat} {y : MethodName} {cc : ByteArray} {ret : Option FieldType} {C : List (Nat × zI)} {cuts : zCut} (hm : MT[id]? = some (y, cc, n, ret, C, cuts)) (vs : List zV) (hn : Nat.ble (zsl vs).length n = true) (h : zH) (k : Nat) : zexec X MT (d + 1) id vs h = zwalk X (zexec X MT d) C cuts k 0 (zcm cuts 0 (zargs n vs)) [] h := by
  rw [zwalk_eq X _ (zexec_m X MT d)]
  show (match MT[id]? with
    | some (_, _, n, _, C, cuts) => bif Nat.ble (zsl vs).length n then zrunL X (zexec X MT d) C cuts 0 (zcm cuts 0 (zargs n vs)) [] h else none
    | none => none) = _
  rw [hm]
  dsimp only
  rw [hn]
  rfl
