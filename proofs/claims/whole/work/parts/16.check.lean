/-! the code of the small machine is the classes' code -/
def ztabB (pc : Nat) : Int → List Int → List (Int × Nat) → Bool
  | _, [], [] => true
  | lo, o :: os, (v, t) :: tab => decide (v = lo ∧ (pc : Int) + o = t) && ztabB pc (lo + 1) os tab
  | _, _, _ => false
def zlkpB (pc : Nat) : List (Int × Int) → List (Int × Nat) → Bool
  | [], [] => true
  | (a, o) :: ps, (v, t) :: tab => decide (v = a ∧ (pc : Int) + o = t) && zlkpB pc ps tab
  | _, _ => false
theorem ztabB_ok {pc : Nat} : ∀ {lo : Int} {os : List Int} {tab : List (Int × Nat)}, ztabB pc lo os tab = true → ztabOK pc lo os tab
  | _, [], [], _ => trivial
  | lo, o :: os, (v, t) :: tab, h => by
    simp only [ztabB, Bool.and_eq_true, decide_eq_true_eq] at h
    exact ⟨h.1.1, h.1.2, ztabB_ok h.2⟩
  | _, [], _ :: _, h => by simp [ztabB] at h
  | _, _ :: _, [], h => by simp [ztabB] at h
theorem zlkpB_ok {pc : Nat} : ∀ {ps : List (Int × Int)} {tab : List (Int × Nat)}, zlkpB pc ps tab = true → zlkpOK pc ps tab
  | [], [], _ => trivial
  | (a, o) :: ps, (v, t) :: tab, h => by
    simp only [zlkpB, Bool.and_eq_true, decide_eq_true_eq] at h
    exact ⟨h.1.1, h.1.2, zlkpB_ok h.2⟩
  | [], _ :: _, h => by simp [zlkpB] at h
  | _ :: _, [], h => by simp [zlkpB] at h
def zsimp (nL : Nat) (ret : Option FieldType) (pc : Nat) (q : zI) : Bool := match q with
  | (i, len, a, _, _, d, tab) => match i with
    | .iload k => decide (k = a ∧ len = 2)
    | .iload_n k => decide ((k : Nat) = a ∧ len = 1)
    | .lload k => decide (k = a ∧ len = 2)
    | .lload_n k => decide ((k : Nat) = a ∧ len = 1)
    | .aload k => decide (k = a ∧ len = 2)
    | .aload_n k => decide ((k : Nat) = a ∧ len = 1)
    | .istore k => decide (k = a ∧ len = 2 ∧ a < nL)
    | .istore_n k => decide ((k : Nat) = a ∧ len = 1 ∧ a < nL)
    | .lstore k => decide (k = a ∧ len = 2 ∧ a + 1 < nL)
    | .lstore_n k => decide ((k : Nat) = a ∧ len = 1 ∧ a + 1 < nL)
    | .astore k => decide (k = a ∧ len = 2 ∧ a < nL)
    | .astore_n k => decide ((k : Nat) = a ∧ len = 1 ∧ a < nL)
    | .iinc k n => decide (k = a ∧ len = 3 ∧ a < nL) && (match tab with
      | (v, _) :: _ => decide (n = v)
      | [] => false)
    | .iconst n => decide (len = 1) && (match tab with
      | (v, _) :: _ => decide (n = v ∧ (-2147483648 ≤ v ∧ v < 2147483648))
      | [] => false)
    | .bipush n => decide (len = 2) && (match tab with
      | (v, _) :: _ => decide ((Int8.ofInt n).toInt32 = Int32.ofInt v ∧ (-2147483648 ≤ v ∧ v < 2147483648))
      | [] => false)
    | .sipush n => decide (len = 3) && (match tab with
      | (v, _) :: _ => decide ((Int16.ofInt n).toInt32 = Int32.ofInt v ∧ (-2147483648 ≤ v ∧ v < 2147483648))
      | [] => false)
    | .lconst n => decide (len = 1) && (match tab with
      | (v, _) :: _ => decide (Int64.ofNat (n : Nat) = Int64.ofInt v ∧ (-9223372036854775808 ≤ v ∧ v < 9223372036854775808))
      | [] => false)
    | .ldc _ => decide (len = 2)
    | .ldc_w _ => decide (len = 3)
    | .ldc2_w _ => decide (len = 3)
    | .goto o => decide (len = 3 ∧ (pc : Int) + o = a)
    | .if_icmp _ o => decide (len = 3 ∧ (pc : Int) + o = a)
    | .ifCond _ o => decide (len = 3 ∧ (pc : Int) + o = a)
    | .tableswitch dflt lo hi offs => decide ((pc : Int) + dflt = d) && (ztabB pc lo offs.toList tab && decide (hi + 1 = lo + offs.size))
    | .lookupswitch dflt ps => decide ((pc : Int) + dflt = d) && (zlkpB pc ps.toList tab && (ps.toList.zip (ps.toList.drop 1)).all (fun (a, next) => a.1 < next.1))
    | .getfield _ => decide (len = 3)
    | .putfield _ => decide (len = 3)
    | .getstatic _ => decide (len = 3)
    | .newarray t => decide (len = 2 ∧ ((a = 0 ∧ t = .int) ∨ (a = 1 ∧ t = .long)))
    | .anewarray _ => decide (len = 3)
    | .new _ => decide (len = 3)
    | .invokevirtual _ => decide (len = 3)
    | .invokestatic _ => decide (len = 3)
    | .invokespecial _ => decide (len = 3)
    | .ireturn => decide (len = 1 ∧ ((a = 0 ∧ ret = some .int) ∨ (a = 1 ∧ ret = some .boolean)))
    | .lreturn => decide (len = 1 ∧ ret = some .long)
    | .areturn => decide (len = 1) && (match ret with
      | some (.object _) => true
      | some (.array _) => true
      | _ => false)
    | .return_ => decide (len = 1 ∧ ret = none)
    | _ => decide (len = 1)
def zlkL (MT : List zMt) (own nm : String) (q : zI) : Prop := match q with
  | (i, _, a, b, c, d, tab) => match i with
    | .ldc k => zconOK (fun v => Jvm.Cond.constant own k (Int32.ofInt v) ∈ lw_tbl ∧ zin v) tab
    | .ldc_w k => zconOK (fun v => Jvm.Cond.constant own k (Int32.ofInt v) ∈ lw_tbl ∧ zin v) tab
    | .ldc2_w k => zconOK (fun v => Jvm.Cond.constantLong own k (Int64.ofInt v) ∈ lw_tbl ∧ zinl v) tab
    | .getfield k => zfldOK own k a b
    | .putfield k => zputOK own nm k a b c
    | .getstatic k => b = 1000 + a ∧ ∃ nm', zstat[a]? = some nm' ∧ Jvm.Cond.fieldLink own k RX8 nm' "[I" ∈ lw_tbl
    | .anewarray k => Jvm.Cond.classLink own k RX7 ∈ lw_tbl
    | .new k => ∃ (C : String) (T : u_T) (N : Nat) (ty : Nat → FieldType), vwCl[a]? = some (C, T, N) ∧ zTys[a]? = some (ty, N) ∧ (∀ k, k < N → parseFieldDescriptor (T k).2.2.1 = some (ty k)) ∧ (∀ k, k < N → defaultValue (ty k) = .int 0 ∧ (ty k = .int ∨ ty k = .boolean) ∨ defaultValue (ty k) = .null ∧ (¬ ty k = .int ∧ ¬ ty k = .boolean)) ∧ Jvm.Cond.classLink own k C ∈ lw_tbl ∧ Jvm.Cond.instantiable C N ∈ lw_tbl ∧ Jvm.Cond.initialized C ∈ lw_tbl
    | .invokevirtual k => zvirOK MT own k a b d
    | .invokestatic k => match a with
      | 1001 => Jvm.Cond.methodLink own k Lib.Math.max.name ∈ lw_tbl
      | 1002 => Jvm.Cond.methodLink own k Lib.Math.min.name ∈ lw_tbl
      | 1003 => Jvm.Cond.methodLink own k arraycopyName ∈ lw_tbl
      | _ => zsttOK MT own k a b
    | .invokespecial k => match a with
      | 1000 => Jvm.Cond.methodLink own k Lib.objectInit ∈ lw_tbl
      | _ => ziniOK MT own k a b d
    | _ => True
def zall (MT : List zMt) (own nm : String) : List (Nat × zI) → Prop
  | [] => True
  | e :: r => zlkL MT own nm e.2 ∧ zall MT own nm r

set_option maxHeartbeats 4000000 in
theorem zlk_of {MT : List zMt} {own nm : String} {nL : Nat} {ret : Option FieldType} {pc : Nat} {q : zI} (h : zsimp nL ret pc q = true) (h2 : zlkL MT own nm q) : zlk MT own nm nL ret pc q := by
  obtain ⟨i, len, a, b, c, d, tab⟩ := q
  cases i
  case iinc =>
    simp only [zsimp, Bool.and_eq_true, decide_eq_true_eq] at h
    refine ⟨h.1.1, h.1.2.1, h.1.2.2, ?_⟩
    rcases tab with _ | ⟨⟨v, t⟩, r⟩
    · cases h.2
    · have h3 := h.2
      simp only [decide_eq_true_eq] at h3
      exact h3
  case iconst =>
    simp only [zsimp, Bool.and_eq_true, decide_eq_true_eq] at h
    refine ⟨h.1, ?_⟩
    rcases tab with _ | ⟨⟨v, t⟩, r⟩
    · cases h.2
    · have h3 := h.2
      simp only [decide_eq_true_eq] at h3
      exact h3
  case bipush =>
    simp only [zsimp, Bool.and_eq_true, decide_eq_true_eq] at h
    refine ⟨h.1, ?_⟩
    rcases tab with _ | ⟨⟨v, t⟩, r⟩
    · cases h.2
    · have h3 := h.2
      simp only [decide_eq_true_eq] at h3
      exact h3
  case sipush =>
    simp only [zsimp, Bool.and_eq_true, decide_eq_true_eq] at h
    refine ⟨h.1, ?_⟩
    rcases tab with _ | ⟨⟨v, t⟩, r⟩
    · cases h.2
    · have h3 := h.2
      simp only [decide_eq_true_eq] at h3
      exact h3
  case lconst =>
    simp only [zsimp, Bool.and_eq_true, decide_eq_true_eq] at h
    refine ⟨h.1, ?_⟩
    rcases tab with _ | ⟨⟨v, t⟩, r⟩
    · cases h.2
    · have h3 := h.2
      simp only [decide_eq_true_eq] at h3
      exact h3
  case tableswitch =>
    simp only [zsimp, Bool.and_eq_true, decide_eq_true_eq] at h
    exact ⟨h.1, ztabB_ok h.2.1, h.2.2⟩
  case lookupswitch =>
    simp only [zsimp, Bool.and_eq_true, decide_eq_true_eq] at h
    exact ⟨h.1, zlkpB_ok h.2.1, h.2.2⟩
  case areturn =>
    simp only [zsimp, Bool.and_eq_true, decide_eq_true_eq] at h
    refine ⟨h.1, ?_⟩
    have h3 := h.2
    split at h3
    · exact ⟨_, rfl, Or.inl ⟨_, rfl⟩⟩
    · exact ⟨_, rfl, Or.inr ⟨_, rfl⟩⟩
    · cases h3
  case ldc => exact ⟨of_decide_eq_true h, h2⟩
  case ldc_w => exact ⟨of_decide_eq_true h, h2⟩
  case ldc2_w => exact ⟨of_decide_eq_true h, h2⟩
  case getfield => exact ⟨of_decide_eq_true h, h2⟩
  case putfield => exact ⟨of_decide_eq_true h, h2⟩
  case getstatic => exact ⟨of_decide_eq_true h, h2⟩
  case anewarray => exact ⟨of_decide_eq_true h, h2⟩
  case new => exact ⟨of_decide_eq_true h, h2⟩
  case invokevirtual => exact ⟨of_decide_eq_true h, h2⟩
  case invokestatic => exact ⟨of_decide_eq_true h, h2⟩
  case invokespecial => exact ⟨of_decide_eq_true h, h2⟩
  all_goals (simp only [zsimp, decide_eq_true_eq] at h; exact h)
theorem zlook_mem {α : Type} : ∀ {C : List (Nat × α)} {pc : Nat} {q : α}, zlook C pc = some q → (pc, q) ∈ C
  | [], _, _, h => by cases h
  | e :: r, pc, q, h => by
    unfold zlook at h
    cases hb : Nat.beq e.1 pc
    · rw [hb] at h
      exact List.mem_cons_of_mem _ (zlook_mem h)
    · rw [hb] at h
      have h1 : e.1 = pc := Nat.eq_of_beq_eq_true hb
      cases h
      subst h1
      exact List.mem_cons_self
theorem zall_mem {MT : List zMt} {own nm : String} : ∀ {C : List (Nat × zI)} {e : Nat × zI}, zall MT own nm C → e ∈ C → zlkL MT own nm e.2
  | [], _, _, h => by cases h
  | x :: r, e, ⟨h1, h2⟩, h => (List.mem_cons.mp h).elim (fun q => q ▸ h1) (fun q => zall_mem h2 q)
theorem zcode_of {MT : List zMt} {y : MethodName} {cc : ByteArray} {n : Nat} {ret : Option FieldType} {C : List (Nat × zI)} (h1 : ∀ e ∈ C, decode cc e.1 = .ok (e.2.1, e.2.2.1)) (h2 : C.all (fun e => zsimp n ret e.1 e.2) = true) (h3 : zall MT y.cls y.name C) : zcodeOK MT y cc n ret C := by
  intro pc q hq
  have hm := zlook_mem hq
  have h4 : zsimp n ret pc q = true := List.all_eq_true.mp h2 (pc, q) hm
  have h5 : zlkL MT y.cls y.name q := zall_mem (e := (pc, q)) h3 hm
  have h6 : decode cc pc = .ok (q.1, q.2.1) := h1 (pc, q) hm
  exact ⟨h6, zlk_of h4 h5⟩
theorem zall_app {MT : List zMt} {own nm : String} : ∀ {C C' : List (Nat × zI)}, zall MT own nm C → zall MT own nm C' → zall MT own nm (C ++ C')
  | [], _, _, h => h
  | x :: r, _, ⟨h1, h2⟩, h => ⟨h1, zall_app h2 h⟩
