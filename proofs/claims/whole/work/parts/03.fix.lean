/-! the run without a count of steps: it holds the equation of one step; a walk to the next cuts is the run -/
/-- what a step does with what comes behind it: nothing, or it goes on at one place -/
def zT (f : zK → Option zR) : Prop := (∃ r, ∀ K, f K = r) ∨ ∃ pc ls st h, ∀ K, f K = K pc ls st h
theorem zT_none : zT (fun _ => none) := Or.inl ⟨none, fun _ => rfl⟩
theorem zT_c (r : Option zR) : zT (fun _ => r) := Or.inl ⟨r, fun _ => rfl⟩
theorem zT_K (pc : Nat) (ls : zL) (st : List zV) (h : zH) : zT (fun K => K pc ls st h) := Or.inr ⟨pc, ls, st, h, fun _ => rfl⟩
theorem zT_ite {p : Prop} [Decidable p] {f g : zK → Option zR} (hf : zT f) (hg : zT g) : zT (fun K => if p then f K else g K) := by
  by_cases h : p
  · simp only [if_pos h]; exact hf
  · simp only [if_neg h]; exact hg
theorem zT_bif {p : Bool} {f g : zK → Option zR} (hf : zT f) (hg : zT g) : zT (fun K => bif p then f K else g K) := by
  cases p
  · exact hg
  · exact hf
theorem zT_li {ls : zL} {a : Nat} {k : zK → Int → Option zR} (h : ∀ x, zT (fun K => k K x)) : zT (fun K => zli ls a (k K)) := by
  unfold zli
  rcases ls[a]? with _ | _ | _ | x | x
  · exact zT_none
  · exact zT_none
  · exact zT_none
  · exact h x
  · exact zT_none
theorem zT_ll {ls : zL} {a : Nat} {k : zK → Int → Option zR} (h : ∀ x, zT (fun K => k K x)) : zT (fun K => zll ls a (k K)) := by
  unfold zll
  rcases ls[a]? with _ | _ | _ | x | x
  · exact zT_none
  · exact zT_none
  · exact zT_none
  · exact zT_none
  · exact h x
theorem zT_lr {ls : zL} {a : Nat} {k : zK → Nat → Option zR} (h : ∀ x, zT (fun K => k K x)) : zT (fun K => zlr ls a (k K)) := by
  unfold zlr
  rcases ls[a]? with _ | _ | (_ | x) | x | x
  · exact zT_none
  · exact zT_none
  · exact zT_none
  · exact h x
  · exact zT_none
  · exact zT_none
theorem zT_I1 {st : List zV} {k : zK → Int → List zV → Option zR} (h : ∀ x r, zT (fun K => k K x r)) : zT (fun K => zI1 st (k K)) := by
  unfold zI1
  rcases st with _ | ⟨_ | x | x, r⟩
  · exact zT_none
  · exact zT_none
  · exact h x r
  · exact zT_none
theorem zT_J1 {st : List zV} {k : zK → Int → List zV → Option zR} (h : ∀ x r, zT (fun K => k K x r)) : zT (fun K => zJ1 st (k K)) := by
  unfold zJ1
  rcases st with _ | ⟨_ | x | x, r⟩
  · exact zT_none
  · exact zT_none
  · exact zT_none
  · exact h x r
theorem zT_R1 {st : List zV} {k : zK → Nat → List zV → Option zR} (h : ∀ x r, zT (fun K => k K x r)) : zT (fun K => zR1 st (k K)) := by
  unfold zR1
  rcases st with _ | ⟨(_ | x) | x | x, r⟩
  · exact zT_none
  · exact zT_none
  · exact h x r
  · exact zT_none
  · exact zT_none
theorem zT_I2 {st : List zV} {k : zK → Int → Int → List zV → Option zR} (h : ∀ x y r, zT (fun K => k K x y r)) : zT (fun K => zI2 st (k K)) := by
  unfold zI2
  rcases st with _ | ⟨_ | x | x, _ | ⟨_ | y | y, r⟩⟩
  all_goals first | exact zT_none | exact h _ _ _
theorem zT_J2 {st : List zV} {k : zK → Int → Int → List zV → Option zR} (h : ∀ x y r, zT (fun K => k K x y r)) : zT (fun K => zJ2 st (k K)) := by
  unfold zJ2
  rcases st with _ | ⟨_ | x | x, _ | ⟨_ | y | y, r⟩⟩
  all_goals first | exact zT_none | exact h _ _ _
theorem zT_JI {st : List zV} {k : zK → Int → Int → List zV → Option zR} (h : ∀ x y r, zT (fun K => k K x y r)) : zT (fun K => zJI st (k K)) := by
  unfold zJI
  rcases st with _ | ⟨_ | x | x, _ | ⟨_ | y | y, r⟩⟩
  all_goals first | exact zT_none | exact h _ _ _
theorem zT_V1 {st : List zV} {k : zK → zV → List zV → Option zR} (h : ∀ x r, zT (fun K => k K x r)) : zT (fun K => zV1 st (k K)) := by
  unfold zV1
  rcases st with _ | ⟨v, r⟩
  · exact zT_none
  · exact zT_bif (h v r) zT_none
theorem zT_V2 {st : List zV} {k : zK → zV → zV → List zV → Option zR} (h : ∀ x y r, zT (fun K => k K x y r)) : zT (fun K => zV2 st (k K)) := by
  unfold zV2
  rcases st with _ | ⟨v, _ | ⟨w, r⟩⟩
  · exact zT_none
  · exact zT_none
  · exact zT_bif (h v w r) zT_none
theorem zT_con {tab : List (Int × Nat)} {k : zK → Int → Option zR} (h : ∀ x, zT (fun K => k K x)) : zT (fun K => zcon tab (k K)) := by
  unfold zcon
  rcases tab with _ | ⟨q, r⟩
  · exact zT_none
  · exact h q.1
theorem zT_br {q : ClassFile.Cond} {x y : Int} {f g : zK → Option zR} (hf : zT f) (hg : zT g) : zT (fun K => zbr q x y (f K) (g K)) := by
  unfold zbr
  cases q
  · exact zT_ite hf hg
  · exact zT_ite hg hf
  · exact zT_ite hf hg
  · exact zT_ite hg hf
  · exact zT_ite hf hg
  · exact zT_ite hg hf
theorem zT_sw {k : zK → Nat → Option zR} (h : ∀ t, zT (fun K => k K t)) (d : Nat) (x : Int) : ∀ tab, zT (fun K => zsw (k K) d tab x)
  | [] => h d
  | (v, t) :: r => by
    simp only [zsw]
    exact zT_ite (h t) (zT_sw h d x r)
theorem zT_fld {L : List zS} {o a b : Nat} {kI : zK → Option zR} {kR : zK → Nat → Option zR} (h1 : zT kI) (h2 : ∀ t, zT (fun K => kR K t)) : zT (fun K => zfld L o a b (kI K) (kR K)) := by
  unfold zfld
  rcases L[o]? with _ | _ | ⟨ci, fs⟩
  · exact zT_none
  · exact zT_none
  · refine zT_bif ?_ zT_none
    rcases fs[b]? with _ | _ | _ | t
    · exact zT_none
    · exact h1
    · exact zT_none
    · exact h2 t
theorem zT_ia {X : zX} {L : List zS} {σ : zF} {o : Nat} {i : Int} {k : zK → Int → Option zR} (h : ∀ x, zT (fun K => k K x)) : zT (fun K => zia X L σ o i (k K)) := by
  unfold zia
  rcases L[o]? with _ | ⟨_ | t, n, ts⟩ | q
  · refine zT_bif zT_none ?_
    rcases X[o - 1000]? with _ | ⟨n, f⟩
    · exact zT_none
    · exact zT_ite (h _) zT_none
  · exact zT_ite (h _) zT_none
  · exact zT_none
  · exact zT_none
theorem zT_ar {L : List zS} {tag o : Nat} {i : Int} {k : zK → Option zR} (h : zT k) : zT (fun K => zar L tag o i (k K)) := by
  unfold zar
  rcases L[o]? with _ | ⟨t, n, ts⟩ | q
  · exact zT_none
  · exact zT_bif (zT_ite h zT_none) zT_none
  · exact zT_none
theorem zT_aa {L : List zS} {o : Nat} {i : Int} {k : zK → Nat → Option zR} (h : ∀ t, zT (fun K => k K t)) : zT (fun K => zaa L o i (k K)) := by
  unfold zaa
  rcases L[o]? with _ | ⟨_ | _ | _ | t, n, ts⟩ | q
  all_goals try exact zT_none
  refine zT_ite ?_ zT_none
  rcases ts[i.toNat]? with _ | _ | t
  · exact zT_none
  · exact zT_none
  · exact h t
theorem zT_len {X : zX} {L : List zS} {o : Nat} {k : zK → Nat → Option zR} (h : ∀ t, zT (fun K => k K t)) : zT (fun K => zlen X L o (k K)) := by
  unfold zlen
  rcases L[o]? with _ | ⟨t, n, ts⟩ | q
  · refine zT_bif zT_none ?_
    rcases X[o - 1000]? with _ | ⟨n, f⟩
    · exact zT_none
    · exact h n
  · exact h n
  · exact zT_none
theorem zT_put {L : List zS} {σ : zF} {st : List zV} {a b c : Nat} {k : zK → List zV → zH → Option zR} (h : ∀ r q, zT (fun K => k K r q)) : zT (fun K => zput L σ st a b c (k K)) := by
  unfold zput
  rcases st with _ | ⟨(_ | t) | x | x, _ | ⟨(_ | o) | y | y, r⟩⟩
  all_goals try exact zT_none
  · dsimp only
    rcases L[o]? with _ | _ | ⟨ci, fs⟩
    · exact zT_none
    · exact zT_none
    · dsimp only
      refine zT_bif ?_ zT_none
      rcases fs[b]? with _ | _ | q
      · exact zT_none
      · exact zT_none
      · exact h _ _
  · dsimp only
    rcases L[o]? with _ | _ | ⟨ci, fs⟩
    · exact zT_none
    · exact zT_none
    · dsimp only
      refine zT_bif ?_ zT_none
      rcases fs[b]? with _ | _ | q
      · exact zT_none
      · exact zT_bif (h _ _) (zT_ite (h _ _) zT_none)
      · exact zT_none
theorem zT_ast {L : List zS} {σ : zF} {st : List zV} {k : zK → List zV → zH → Option zR} (h : ∀ r q, zT (fun K => k K r q)) : zT (fun K => zast L σ st (k K)) := by
  unfold zast
  split
  · split
    · exact zT_ite (h _ _) zT_none
    · exact zT_none
  · exact zT_none
theorem zT_arc {L : List zS} {σ : zF} {st : List zV} {k : zK → List zV → zF → Option zR} (h : ∀ r q, zT (fun K => k K r q)) : zT (fun K => zarc L σ st (k K)) := by
  unfold zarc
  split
  · split
    · exact zT_bif (zT_ite (h _ _) zT_none) zT_none
    · exact zT_none
  · exact zT_none
theorem zT_new {L : List zS} {σ : zF} {a : Nat} {k : zK → zH → Option zR} (h : ∀ q, zT (fun K => k K q)) : zT (fun K => znew L σ a (k K)) := by
  unfold znew
  rcases zTys[a]? with _ | q
  · exact zT_none
  · exact zT_bif (h _) zT_none
theorem zT_nwa {L : List zS} {σ : zF} {tag : Nat} {n : Int} {k : zK → zH → Option zR} (h : ∀ q, zT (fun K => k K q)) : zT (fun K => znwa L σ tag n (k K)) := by
  unfold znwa
  exact zT_bif (zT_ite (h _) zT_none) zT_none
theorem zT_CN {o : Option zR} {k : zK → zH → Option zR} (h : ∀ q, zT (fun K => k K q)) : zT (fun K => zCN o (k K)) := by
  unfold zCN
  rcases o with _ | ⟨_ | v, q⟩
  · exact zT_none
  · exact h q
  · exact zT_none
theorem zT_C {kind : Nat} {L : List zS} {o : Option zR} {k : zK → List zV → zF → Option zR} (h : ∀ v q, zT (fun K => k K v q)) : zT (fun K => zC kind L o (k K)) := by
  unfold zC
  split
  · unfold zCV
    rcases o with _ | ⟨_ | v, L', σ⟩
    · exact zT_none
    · exact zT_ite (h _ _) zT_none
    · exact zT_none
  · unfold zCI
    rcases o with _ | ⟨_ | _ | v | v, L', σ⟩
    all_goals try exact zT_none
    exact zT_ite (h _ _) zT_none
  · unfold zCJ
    rcases o with _ | ⟨_ | _ | v | v, L', σ⟩
    all_goals try exact zT_none
    exact zT_ite (h _ _) zT_none
  · unfold zCR
    rcases o with _ | ⟨_ | (_ | v) | v | v, L', σ⟩
    all_goals try exact zT_none
    exact zT_ite (h _ _) zT_none
  · exact zT_none
theorem zgo_T (X : zX) (calls : zCalls) (i : Instr) (len a b c d : Nat) (tab : List (Int × Nat)) (pc : Nat) (ls : zL) (st : List zV) (L : List zS) (σ : zF) : zT (fun K => zgo X calls K i len a b c d tab pc ls st L σ) := by
  cases i
  case iload => exact zT_li fun x => zT_K _ _ _ _
  case iload_n => exact zT_li fun x => zT_K _ _ _ _
  case lload => exact zT_ll fun x => zT_K _ _ _ _
  case lload_n => exact zT_ll fun x => zT_K _ _ _ _
  case aload => exact zT_lr fun x => zT_K _ _ _ _
  case aload_n => exact zT_lr fun x => zT_K _ _ _ _
  case istore => exact zT_I1 fun x r => zT_K _ _ _ _
  case istore_n => exact zT_I1 fun x r => zT_K _ _ _ _
  case lstore => exact zT_J1 fun x r => zT_K _ _ _ _
  case lstore_n => exact zT_J1 fun x r => zT_K _ _ _ _
  case astore => exact zT_R1 fun x r => zT_K _ _ _ _
  case astore_n => exact zT_R1 fun x r => zT_K _ _ _ _
  case iinc => exact zT_li fun x => zT_con fun v => zT_K _ _ _ _
  case iconst => exact zT_con fun v => zT_K _ _ _ _
  case bipush => exact zT_con fun v => zT_K _ _ _ _
  case sipush => exact zT_con fun v => zT_K _ _ _ _
  case ldc => exact zT_con fun v => zT_K _ _ _ _
  case ldc_w => exact zT_con fun v => zT_K _ _ _ _
  case lconst => exact zT_con fun v => zT_K _ _ _ _
  case ldc2_w => exact zT_con fun v => zT_K _ _ _ _
  case iadd => exact zT_I2 fun x y r => zT_K _ _ _ _
  case isub => exact zT_I2 fun x y r => zT_K _ _ _ _
  case imul => exact zT_I2 fun x y r => zT_K _ _ _ _
  case idiv => exact zT_I2 fun x y r => zT_ite zT_none (zT_K _ _ _ _)
  case irem => exact zT_I2 fun x y r => zT_ite zT_none (zT_K _ _ _ _)
  case ineg => exact zT_I1 fun x r => zT_K _ _ _ _
  case iand => exact zT_I2 fun x y r => zT_K _ _ _ _
  case ior => exact zT_I2 fun x y r => zT_K _ _ _ _
  case ixor => exact zT_I2 fun x y r => zT_K _ _ _ _
  case ishl => exact zT_I2 fun x y r => zT_K _ _ _ _
  case ishr => exact zT_I2 fun x y r => zT_K _ _ _ _
  case iushr => exact zT_I2 fun x y r => zT_K _ _ _ _
  case ladd => exact zT_J2 fun x y r => zT_K _ _ _ _
  case lmul => exact zT_J2 fun x y r => zT_K _ _ _ _
  case land => exact zT_J2 fun x y r => zT_K _ _ _ _
  case lor => exact zT_J2 fun x y r => zT_K _ _ _ _
  case lshl => exact zT_JI fun x y r => zT_K _ _ _ _
  case i2l => exact zT_I1 fun x r => zT_K _ _ _ _
  case l2i => exact zT_J1 fun x r => zT_K _ _ _ _
  case i2b => exact zT_I1 fun x r => zT_K _ _ _ _
  case i2s => exact zT_I1 fun x r => zT_K _ _ _ _
  case lcmp => exact zT_J2 fun x y r => zT_K _ _ _ _
  case dup => exact zT_V1 fun v r => zT_K _ _ _ _
  case pop => exact zT_V1 fun v r => zT_K _ _ _ _
  case dup_x1 => exact zT_V2 fun v w r => zT_K _ _ _ _
  case dup2 => exact zT_V2 fun v w r => zT_K _ _ _ _
  case goto => exact zT_K _ _ _ _
  case if_icmp => exact zT_I2 fun x y r => zT_br (zT_K _ _ _ _) (zT_K _ _ _ _)
  case ifCond => exact zT_I1 fun x r => zT_br (zT_K _ _ _ _) (zT_K _ _ _ _)
  case tableswitch => exact zT_I1 fun x r => zT_sw (fun t => zT_K _ _ _ _) _ _ _
  case lookupswitch => exact zT_I1 fun x r => zT_sw (fun t => zT_K _ _ _ _) _ _ _
  case getfield => exact zT_R1 fun o r => zT_fld (zT_K _ _ _ _) fun t => zT_K _ _ _ _
  case putfield => exact zT_put fun r h => zT_K _ _ _ _
  case getstatic => exact zT_K _ _ _ _
  case iaload => exact zT_I1 fun i r => zT_R1 fun o r => zT_ia fun v => zT_K _ _ _ _
  case iastore => exact zT_I1 fun x r => zT_I1 fun i r => zT_R1 fun o r => zT_ar (zT_K _ _ _ _)
  case laload => exact zT_I1 fun i r => zT_R1 fun o r => zT_ar (zT_K _ _ _ _)
  case lastore => exact zT_J1 fun x r => zT_I1 fun i r => zT_R1 fun o r => zT_ar (zT_K _ _ _ _)
  case aaload => exact zT_I1 fun i r => zT_R1 fun o r => zT_aa fun t => zT_K _ _ _ _
  case aastore => exact zT_ast fun r h => zT_K _ _ _ _
  case arraylength => exact zT_R1 fun o r => zT_len fun n => zT_K _ _ _ _
  case newarray => exact zT_I1 fun n r => zT_bif (zT_nwa fun h => zT_K _ _ _ _) zT_none
  case anewarray => exact zT_I1 fun n r => zT_nwa fun h => zT_K _ _ _ _
  case new => exact zT_new fun h => zT_K _ _ _ _
  case invokevirtual =>
    simp only [zgo]
    rcases ztk b [] st with _ | ⟨vs, r⟩
    · exact zT_none
    · exact zT_R1 fun o r => zT_bif (zT_C fun v q => zT_K _ _ _ _) zT_none
  case invokestatic =>
    unfold zgo
    dsimp only
    split
    · exact zT_I2 fun x y r => zT_bif (zT_K _ _ _ _) zT_none
    · exact zT_I2 fun x y r => zT_bif (zT_K _ _ _ _) zT_none
    · exact zT_arc fun r q => zT_bif (zT_K _ _ _ _) zT_none
    · rcases ztk b [] st with _ | ⟨vs, r⟩
      · exact zT_none
      · exact zT_bif (zT_C fun v q => zT_K _ _ _ _) zT_none
  case invokespecial =>
    unfold zgo
    dsimp only
    split
    · exact zT_R1 fun o r => zT_bif (zT_K _ _ _ _) zT_none
    · rcases ztk b [] st with _ | ⟨vs, r⟩
      · exact zT_none
      · exact zT_R1 fun o r => zT_bif (zT_CN fun q => zT_K _ _ _ _) zT_none
  all_goals exact zT_c _
theorem zstp_T0 (X : zX) (calls : zCalls) (C : List (Nat × zI)) (pc : Nat) (ls : zL) (st : List zV) (h : zH) : zT (fun K => zstp X calls C K pc ls st h) := by
  unfold zstp
  rcases zlook C pc with _ | ⟨i, len, a, b, c, d, tab⟩
  · exact zT_none
  · exact zgo_T _ _ _ _ _ _ _ _ _ _ _ _ _ _
theorem zstp_T (X : zX) (calls : zCalls) (C : List (Nat × zI)) (pc : Nat) (ls : zL) (st : List zV) (h : zH) : (∃ r, ∀ K, zstp X calls C K pc ls st h = r) ∨ ∃ pc' ls' st' h', ∀ K, zstp X calls C K pc ls st h = K pc' ls' st' h' := zstp_T0 X calls C pc ls st h
theorem zrun_mono1 (X : zX) (calls : zCalls) (C : List (Nat × zI)) (cuts : zCut) : ∀ (n pc : Nat) (ls : zL) (st : List zV) (h : zH) (v : zR), zrun X calls C cuts n pc ls st h = some v → zrun X calls C cuts (n + 1) pc ls st h = some v := by
  intro n
  induction n with
  | zero => intro pc ls st h v e; exact absurd e (by simp [zrun])
  | succ n ih =>
    intro pc ls st h v e
    rcases zstp_T X calls C pc ls st h with ⟨r, hr⟩ | ⟨pc', ls', st', h', hr⟩
    · have e1 : zstp X calls C (zcutK cuts (zrun X calls C cuts n)) pc ls st h = some v := e
      show zstp X calls C (zcutK cuts (zrun X calls C cuts (n + 1))) pc ls st h = some v
      rw [hr] at e1 ⊢
      exact e1
    · have e1 : zstp X calls C (zcutK cuts (zrun X calls C cuts n)) pc ls st h = some v := e
      show zstp X calls C (zcutK cuts (zrun X calls C cuts (n + 1))) pc ls st h = some v
      rw [hr] at e1 ⊢
      exact ih _ _ _ _ _ e1
theorem zrun_mono (X : zX) (calls : zCalls) (C : List (Nat × zI)) (cuts : zCut) (n m : Nat) (hnm : n ≤ m) (pc : Nat) (ls : zL) (st : List zV) (h : zH) (v : zR) (e : zrun X calls C cuts n pc ls st h = some v) : zrun X calls C cuts m pc ls st h = some v := by
  induction hnm with
  | refl => exact e
  | step _ ih => exact zrun_mono1 _ _ _ _ _ _ _ _ _ _ ih
theorem zlim_some {α : Type} {f : Nat → Option α} {v : α} (h : zlim f = some v) : ∃ n, f n = some v := by
  unfold zlim at h
  split at h
  · next q => exact ⟨_, h⟩
  · cases h
theorem zlim_of {α : Type} {f : Nat → Option α} (hm : ∀ n m v, n ≤ m → f n = some v → f m = some v) {n : Nat} {v : α} (h : f n = some v) : zlim f = some v := by
  have hx : ∃ n, (f n).isSome = true := ⟨n, by rw [h]; rfl⟩
  unfold zlim
  rw [dif_pos hx]
  have h2 := Classical.choose_spec hx
  obtain ⟨w, hw⟩ := Option.isSome_iff_exists.mp h2
  have a1 := hm _ (max n (Classical.choose hx)) _ (Nat.le_max_left _ _) h
  have a2 := hm _ (max n (Classical.choose hx)) _ (Nat.le_max_right _ _) hw
  rw [hw, ← a2, a1]
theorem zrunL_some {X : zX} {calls : zCalls} {C : List (Nat × zI)} {cuts : zCut} {pc : Nat} {ls : zL} {st : List zV} {h : zH} {v : zR} (e : zrunL X calls C cuts pc ls st h = some v) : ∃ n, zrun X calls C cuts n pc ls st h = some v := zlim_some e
theorem zrunL_of {X : zX} {calls : zCalls} {C : List (Nat × zI)} {cuts : zCut} {n pc : Nat} {ls : zL} {st : List zV} {h : zH} {v : zR} (e : zrun X calls C cuts n pc ls st h = some v) : zrunL X calls C cuts pc ls st h = some v :=
  zlim_of (fun _ _ _ hnm q => zrun_mono X calls C cuts _ _ hnm _ _ _ _ _ q) e
theorem zrunL_eq (X : zX) (calls : zCalls) (C : List (Nat × zI)) (cuts : zCut) (pc : Nat) (ls : zL) (st : List zV) (h : zH) : zrunL X calls C cuts pc ls st h = zstp X calls C (zcutK cuts (zrunL X calls C cuts)) pc ls st h := by
  apply Option.ext
  intro v
  constructor
  · intro e
    obtain ⟨n, hn⟩ := zrunL_some e
    cases n with
    | zero => cases hn
    | succ n =>
      have e1 : zstp X calls C (zcutK cuts (zrun X calls C cuts n)) pc ls st h = some v := hn
      rcases zstp_T X calls C pc ls st h with ⟨r, hr⟩ | ⟨pc', ls', st', h', hr⟩
      · rw [hr] at e1 ⊢
        exact e1
      · rw [hr] at e1 ⊢
        exact zrunL_of e1
  · intro e
    rcases zstp_T X calls C pc ls st h with ⟨r, hr⟩ | ⟨pc', ls', st', h', hr⟩
    · rw [hr] at e
      exact zrunL_of (n := 1) (by show zstp X calls C (zcutK cuts (zrun X calls C cuts 0)) pc ls st h = some v; rw [hr]; exact e)
    · rw [hr] at e
      obtain ⟨n, hn⟩ := zrunL_some (show zrunL X calls C cuts pc' (zcm cuts pc' ls') st' h' = some v from e)
      exact zrunL_of (n := n + 1) (by show zstp X calls C (zcutK cuts (zrun X calls C cuts n)) pc ls st h = some v; rw [hr]; exact hn)
theorem zwalk_eq (X : zX) (calls : zCalls) (C : List (Nat × zI)) (cuts : zCut) : ∀ k, zwalk X calls C cuts k = zrunL X calls C cuts
  | 0 => rfl
  | k + 1 => by
    funext pc ls st h
    rw [zrunL_eq]
    show zstp X calls C _ pc ls st h = _
    congr 1
    funext pc ls st h
    unfold zcutK zcm
    rw [zwalk_eq X calls C cuts k]
    cases zlook cuts pc <;> rfl
theorem zexec_eq {X : zX} {MT : List zMt} {d id n : Nat} {y : MethodName} {cc : ByteArray} {ret : Option FieldType} {C : List (Nat × zI)} {cuts : zCut} (hm : MT[id]? = some (y, cc, n, ret, C, cuts)) (vs : List zV) (h : zH) (k : Nat) : zexec X MT (d + 1) id vs h = zwalk X (zexec X MT d) C cuts k 0 (zcm cuts 0 (zargs n vs)) [] h := by
  rw [zwalk_eq]
  show (match MT[id]? with
    | some (_, _, n, _, C, cuts) => zrunL X (zexec X MT d) C cuts 0 (zcm cuts 0 (zargs n vs)) [] h
    | none => none) = _
  rw [hm]
