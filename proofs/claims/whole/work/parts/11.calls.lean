/-! calls: a run of the small machine is a contract -/
def zroom (d mc ms : Nat) : Room := { frames := d, cells := mc, slots := ms, locals := 40 * d }
def zPc (D : va_G) (as ea : Nat → Nat) (cas : Nat → ClassId) (tys : List (ClassId × FieldType)) (L : List zS) (σ : zF) (X : zX) (vs : List zV) (sz : Nat) : Array Value → State → Prop :=
  va_Pc (vs.map (zc (zad as ea))) (fun U => U.heap.size = sz ∧ va_P D vwCl (zws as ea cas L σ) U.heap ∧ va_K D vwCl tys U ∧ va_D (fun _ => True) (zws as ea cas L σ) ∧ zExt ea X (va_A (zws as ea cas L σ) sz) U ∧ zNs U)
abbrev zS3 : Type := (Nat → Nat) × (Nat → ClassId) × List (ClassId × FieldType)
def zPost (as : Nat → Nat) (L L' : List zS) (σ' : zF) (v : Option zV) (u : zS3) : Prop := (∀ k, k < L.length → u.1 k = as k) ∧ zHok L' σ' ∧ (∀ w, v = some w → zvok L'.length w) ∧ ∀ (k tag n : Nat) (ts : List (Option Nat)), L'[k]? = some (.inl (tag, n, ts)) → ∃ t0 : Nat, u.2.2[t0]? = some (u.2.1 k, zty tag)
def zB (D : va_G) (ea : Nat → Nat) (L' : List zS) (σ' : zF) (A : Nat → Prop) (u : zS3) (t : State) : Prop := va_P D vwCl (zws u.1 ea u.2.1 L' σ') t.heap ∧ va_K D vwCl u.2.2 t ∧ va_D A (zws u.1 ea u.2.1 L' σ')
def zQ (D : va_G) (as ea : Nat → Nat) (L L' : List zS) (σ' : zF) (v : Option zV) (A : Nat → Prop) : Array Value → State → Outcome → State → Prop := match v with
  | none => va_Qv (zPost as L L' σ' none) (zB D ea L' σ' A) A
  | some (.inr (.inl i)) => va_Qi (fun r u => r = Int32.ofInt i ∧ zPost as L L' σ' (some (.inr (.inl i))) u) (zB D ea L' σ' A) A
  | some (.inr (.inr i)) => va_Ql (fun r u => r = Int64.ofInt i ∧ zPost as L L' σ' (some (.inr (.inr i))) u) (zB D ea L' σ' A) A
  | some (.inl (some k)) => va_Qr (zPost as L L' σ' (some (.inl (some k)))) (fun u a t => a = zad u.1 ea k ∧ zB D ea L' σ' A u t) A
  | some (.inl none) => fun _ _ _ _ => False
def zMet (l : Launch) (D : va_G) (ea : Nat → Nat) (X : zX) (d : Nat) (y : MethodName) (cc : ByteArray) (n : Nat) (rt : Option FieldType) (as : Nat → Nat) (cas : Nat → ClassId) (tys : List (ClassId × FieldType)) (L : List zS) (σ : zF) (vs : List zV) (sz : Nat) (v : Option zV) (L' : List zS) (σ' : zF) : Prop :=
  Met l y (Cond.code y cc n rt :: zTb) (zroom d (L'.length - L.length) (zslots L' - zslots L)) (zPc D as ea cas tys L σ X vs sz) (zQ D as ea L L' σ' v (va_A (zws as ea cas L σ) sz)) (L'.length - L.length) (zslots L' - zslots L) (va_A (zws as ea cas L σ) sz)
def zCallOK (l : Launch) (D : va_G) (ea : Nat → Nat) (X : zX) (MT : List zMt) (d : Nat) (calls : zCalls) : Prop := ∀ (id : Nat) (y : MethodName) (cc : ByteArray) (n : Nat) (rt : Option FieldType) (C : List (Nat × zI)) (cuts : zCut), MT[id]? = some (y, cc, n, rt, C, cuts) → n ≤ 21 ∧ Cond.code y cc n rt ∈ lw_tbl ∧
  ∀ (vs : List zV) (L : List zS) (σ : zF) (v : Option zV) (L' : List zS) (σ' : zF), calls id vs (L, σ) = some (v, (L', σ')) → zHok L σ → (∀ w ∈ vs, zvok L.length w) → ∀ (as : Nat → Nat) (cas : Nat → ClassId) (tys : List (ClassId × FieldType)) (sz : Nat), (∀ (k tag n : Nat) (ts : List (Option Nat)), L[k]? = some (.inl (tag, n, ts)) → ∃ t0 : Nat, tys[t0]? = some (cas k, zty tag)) → zMet l D ea X d y cc n rt as cas tys L σ vs sz v L' σ'
theorem zExt.moved {ea : Nat → Nat} {X : zX} {A : Nat → Prop} {u U : State} (hvm : u.vm.Alike U.vm) (hh : U.heap = u.heap) (h : zExt ea X A u) : zExt ea X A U := by
  refine ⟨fun j nm hj => ?_, fun j n f hj => ?_⟩
  · rw [hh]; exact va_Z.moved hvm (h.1 j nm hj)
  · rw [hh]; exact ⟨va_T.moved hvm (h.2 j n f hj).1, (h.2 j n f hj).2⟩
theorem zPc_blind {D : va_G} {as ea : Nat → Nat} {cas : Nat → ClassId} {tys : List (ClassId × FieldType)} {L : List zS} {σ : zF} {X : zX} {vs : List zV} {sz : Nat} : FrameBlind (zPc D as ea cas tys L σ X vs sz) := by
  intro a U g mk q
  obtain ⟨q0, q1, qP, qK, qD, qE, qN⟩ := q
  exact ⟨q0, q1, qP, va_K.moved (u := U) (U := U.calling g mk a) (Vm.Alike.refl U.vm) qK, qD, zExt.moved (u := U) (U := U.calling g mk a) (Vm.Alike.refl U.vm) rfl qE, fun w hw => va_Nw.same rfl (rfl : U.vm = (U.calling g mk a).vm) (qN.1 w hw), va_AO.moved (u := U) (U := U.calling g mk a) (Vm.Alike.refl U.vm) qN.2⟩
section
variable {p : Program} {l : Launch} {e : Env} {R : Room} {s : State} {m : MethodId} {args : Array Value} {below : List Frame} {meth : Method} {c : Code} {Q : State → Prop} {D : va_G} {as0 ea : Nat → Nat} {A : Nat → Prop} {nL : Nat} {L0 : List zS} {cc : ByteArray} {own nm : String} {X Xc : zX} {r : zR} {K : zK} {pc : Nat} {ls : zL} {st : List zV} {L : List zS} {σ : zF} {ret : Option FieldType}
theorem zAimp {as : Nat → Nat} {cas : Nat → ClassId} {tys : List (ClassId × FieldType)} {H : Heap} {locs : List Loc} (hA : ∀ q : Nat, s.heap.size ≤ q → A q) (hw : zWd D as ea cas tys A s H locs L σ) : ∀ q, va_A (zws as ea cas L σ) H.size q → A q := by
  obtain ⟨wK, wP, wD, wS, wH, wT⟩ := hw
  rintro q (⟨k, e, hk⟩ | h)
  · exact wD.2 k _ hk
  · exact hA q (Nat.le_trans wS.1 h)
/-- the callee's start, as the caller gives it -/
theorem zgive {as : Nat → Nat} {cas : Nat → ClassId} {tys : List (ClassId × FieldType)} {H : Heap} {locs : List Loc} (C0 : zCtx p s m args c cc nL own A ea X) (hX : ∀ (j : Nat) (q : Nat × (Nat → Int)), Xc[j]? = some q → X[j]? = some q) (hw : zWd D as ea cas tys A s H locs L σ) (vs : List zV) : ∀ U : State, U.heap = H → s.WarmedH U.vm → zPc D as ea cas tys L σ Xc vs H.size (vs.map (zc (zad as ea))).toArray U := by
  obtain ⟨hx, hb, hml, hown, hts, hA, hE, hN⟩ := C0
  have hAi := zAimp hA hw
  obtain ⟨wK, wP, wD, wS, wH, wT⟩ := hw
  intro U hU hW
  refine ⟨rfl, by rw [hU], by rw [hU]; exact wP, va_K.moved hW.alike wK, ⟨wD.1, fun _ _ _ => trivial⟩, ⟨fun j nm hj => ?_, fun j n f hj => ?_⟩, fun w hw => va_Nw.warmM hW (hN.1 w hw), va_AO.moved hW.alike hN.2⟩
  · rw [hU]
    exact va_Z.moved hW.alike (va_Z.narrow (va_Z.kept (hE.1 j nm hj) wS.2.1) hAi)
  · rw [hU]
    obtain ⟨h1, h2⟩ := hE.2 j n f (hX j _ hj)
    exact ⟨va_T.moved hW.alike (va_T.narrow (va_T.kept h1 wS.2.1) hAi), h2⟩
/-- behind the call -/
theorem zback {as : Nat → Nat} {cas : Nat → ClassId} {tys : List (ClassId × FieldType)} {H : Heap} {locs : List Loc} {lsA : Array Slot} {v : Option zV} {L' : List zS} {σ' : zF} {st0 : List Value} {rest : List zV} {a : Array Value}
    (C0 : zCtx p s m args c cc nL own A ea X) (hw : zWd D as ea cas tys A s H locs L σ) (ha : ∀ k, k < L0.length → as k = as0 k) (hl : zLc (zad as ea) L.length lsA nL ls) (hst : ∀ v ∈ rest, zvok L.length v) (hle : zle L0 L) (hle2 : zle L L')
    (hr : va_Run p l e R s m args below meth c H locs (L.length - L0.length) (zslots L - zslots L0) (L'.length - L.length) (zslots L' - zslots L) (F0 m pc lsA st0) (rest.map (zc (zad as ea))) (zQ D as ea L L' σ' v (va_A (zws as ea cas L σ) H.size) a) (va_A (zws as ea cas L σ) H.size))
    (kk : zG p l e R s m args below meth c Q D as0 ea A nL L0 (pc + 3) ls (v.toList ++ rest) (L', σ')) :
    W p l e R s m args below meth c H locs (L.length - L0.length) (zslots L - zslots L0) Q (F0 m pc lsA st0) := by
  have hA := C0.2.2.2.2.2.1
  have hAi := zAimp hA hw
  obtain ⟨wK, wP, wD, wS, wH, wT⟩ := id hw
  have hc : L.length - L0.length + (L'.length - L.length) = L'.length - L0.length := by have h1 := hle.1; have h2 := hle2.1; omega
  have hs : zslots L - zslots L0 + (zslots L' - zslots L) = zslots L' - zslots L0 := by have h1 := hle.2; have h2 := hle2.2; omega
  -- the world behind
  have key : ∀ (u : zS3) (t : State) (H1 : Heap) (locs1 : List Loc), t.heap = H1 → s.vm.Alike t.vm → zPost as L L' σ' v u → zB D ea L' σ' (va_A (zws as ea cas L σ) H.size) u t → va_S A s.heap H1 locs1 → W p l e R s m args below meth c H1 locs1 (L'.length - L0.length) (zslots L' - zslots L0) Q (F0 m (pc + 3) lsA ((v.toList ++ rest).map (zc (zad u.1 ea)))) ∧ ∀ w ∈ rest, zc (zad u.1 ea) w = zc (zad as ea) w := by
    intro u t H1 locs1 ht hvm hp hB hS1
    obtain ⟨p1, p2, p3, p4⟩ := hp
    obtain ⟨b1, b2, b3⟩ := hB
    rw [ht] at b1
    have hag : ∀ t, t < L.length ∨ 1000 ≤ t → zad u.1 ea t = zad as ea t := by
      intro t ht
      have := wH.2
      unfold zad
      split
      · exact p1 t (by omega)
      · rfl
    refine ⟨kk u.1 u.2.1 u.2.2 H1 locs1 lsA ⟨va_K.moved hvm.symm b2, b1, ⟨b3.1, fun k q hk => hAi _ (b3.2 k q hk)⟩, hS1, p2, p4⟩ (fun k hk => by rw [p1 k (Nat.lt_of_lt_of_le hk hle.1)]; exact ha k hk) ⟨hl.1, hl.2.1, fun j w e => ?_⟩ (fun w hw => ?_) (zle_tr hle hle2), fun w hw => zc_congr (hst w hw) hag⟩
    · obtain ⟨h1, h2⟩ := hl.2.2 j w e
      exact ⟨by rw [h1, zc_congr h2 hag], zvok_mono hle2.1 h2⟩
    · rcases List.mem_append.mp hw with h | h
      · cases v with
        | none => cases h
        | some x =>
          have : w = x := by simpa using h
          subst this
          exact p3 w rfl
      · exact zvok_mono hle2.1 (hst w h)
  have hmap : ∀ (ad : Nat → Nat), (∀ w ∈ rest, zc ad w = zc (zad as ea) w) → rest.map (zc ad) = rest.map (zc (zad as ea)) := fun ad h => List.map_congr_left h
  rcases v with _ | (_ | k) | i | i
  · refine va_callv (a := a) hr wS (fun q _ h => hAi q h) hAi (fun u t H1 locs1 ht hvm hp hB _ _ hS1 => ?_)
    obtain ⟨k1, k2⟩ := key u t H1 locs1 ht hvm hp hB hS1
    rw [hc, hs]
    rw [List.map_append, hmap _ k2] at k1
    exact k1
  · intro T hT X
    obtain ⟨_, _, _, _, _, _, _, _, _, _, q, _⟩ := hr T hT X
    exact q.elim
  · refine va_callr (a := a) hr wS (fun q _ h => hAi q h) hAi (fun u ra t H1 locs1 ht hvm hp hB _ _ hS1 => ?_)
    obtain ⟨k1, k2⟩ := key u t H1 locs1 ht hvm hp hB.2 hS1
    rw [hc, hs, hB.1]
    rw [List.map_append, hmap _ k2] at k1
    exact k1
  · refine va_calli (a := a) hr wS (fun q _ h => hAi q h) hAi (fun ri u t H1 locs1 ht hvm hp hB _ _ hS1 => ?_)
    obtain ⟨k1, k2⟩ := key u t H1 locs1 ht hvm hp.2 hB hS1
    rw [hc, hs, hp.1]
    rw [List.map_append, hmap _ k2] at k1
    exact k1
  · refine va_calll (a := a) hr wS (fun q _ h => hAi q h) hAi (fun ri u t H1 locs1 ht hvm hp hB _ _ hS1 => ?_)
    obtain ⟨k1, k2⟩ := key u t H1 locs1 ht hvm hp.2 hB hS1
    rw [hc, hs, hp.1]
    rw [List.map_append, hmap _ k2] at k1
    exact k1
end
