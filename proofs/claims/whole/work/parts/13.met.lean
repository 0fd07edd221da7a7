/-! from runs to contracts -/
def zcodeOK (MT : List zMt) (y : MethodName) (cc : ByteArray) (n : Nat) (ret : Option FieldType) (C : List (Nat × zI)) : Prop := ∀ (pc : Nat) (q : zI), zlook C pc = some q → decode cc pc = .ok (q.1, q.2.1) ∧ zlk MT y.cls y.name n ret pc q
section
variable {p : Program} {l : Launch} {e : Env} {R : Room} {s : State} {m : MethodId} {args : Array Value} {below : List Frame} {meth : Method} {c : Code} {Q : State → Prop} {D : va_G} {as0 ea : Nat → Nat} {A : Nat → Prop} {nL : Nat} {L0 : List zS} {cc : ByteArray} {X Xc : zX} {r : zR} {ret : Option FieldType} {MT : List zMt} {d : Nat} {calls : zCalls} {y : MethodName} {Cd : List (Nat × zI)} {cuts : zCut}
theorem zrun_sound (C0 : zCtx p s m args c cc nL y.cls A ea X) (hin : y.name = "<init>" → meth.name = "<init>") (hX : ∀ (j : Nat) (q : Nat × (Nat → Int)), Xc[j]? = some q → X[j]? = some q) (hret : zRet p l e R s m args below meth c Q D as0 ea A cc ret L0 r) (hC : zCallOK l D ea Xc MT d calls) (hm : zCm calls) (hR1 : d + 1 ≤ R.frames) (hR2 : 40 * (d + 1) ≤ R.locals) (hR3 : r.2.1.length - L0.length ≤ R.cells) (hR4 : zslots r.2.1 - zslots L0 ≤ R.slots) (hcd : zcodeOK MT y cc nL ret Cd) :
    ∀ (n pc : Nat) (ls : zL) (st : List zV) (h : zH), zrun X calls Cd cuts n pc ls st h = some r → zG p l e R s m args below meth c Q D as0 ea A nL L0 pc ls st h := by
  intro n
  induction n with
  | zero => intro pc ls st h e; cases e
  | succ n ih =>
    intro pc ls st h e
    have e1 : zstp X calls Cd (zcutK cuts (zrun X calls Cd cuts n)) pc ls st h = some r := e
    unfold zstp at e1
    rcases hq : zlook Cd pc with _ | ⟨i, len, a, b, c1, d1, tab⟩
    · rw [hq] at e1; cases e1
    · rw [hq] at e1
      obtain ⟨h1, h2⟩ := hcd pc _ hq
      obtain ⟨L, σ⟩ := h
      refine zgo_sound C0 hin hX (fun pc' ls' st' h' hk => ⟨zrun_le X calls hm Cd cuts n _ _ _ _ _ hk, fun as cas tys H locs lsA hw ha hl hst hle => ?_⟩) hret hC hm hR1 hR2 hR3 hR4 i len a b c1 d1 tab h1 h2 e1
      exact ih _ _ _ _ hk as cas tys H locs lsA hw ha (hl.cut cuts pc') hst hle
end
theorem zsl_args (ad : Nat → Nat) : ∀ (vs : List zV) (i j : Nat) (v : zV), (zsl vs)[j]? = some (some v) → (i + j, zc ad v) ∈ lv_args i (vs.map (zc ad)) ∧ v ∈ vs
  | [], i, j, v, h => by simp [zsl] at h
  | .inr (.inr x) :: vs, i, 0, v, h => by
    simp [zsl] at h
    subst h
    exact ⟨List.mem_cons_self, List.mem_cons_self⟩
  | .inr (.inr x) :: vs, i, 1, v, h => by simp [zsl] at h
  | .inr (.inr x) :: vs, i, j + 2, v, h => by
    obtain ⟨h1, h2⟩ := zsl_args ad vs (i + 2) j v (by simpa [zsl] using h)
    refine ⟨List.mem_cons_of_mem _ ?_, List.mem_cons_of_mem _ h2⟩
    show _ ∈ lv_args (if (Value.long (Int64.ofInt x)).category = 2 then i + 2 else i + 1) _
    rw [if_pos (show (Value.long (Int64.ofInt x)).category = 2 from rfl), show i + (j + 2) = i + 2 + j by omega]
    exact h1
  | .inl o :: vs, i, 0, v, h => by
    simp [zsl] at h
    subst h
    exact ⟨List.mem_cons_self, List.mem_cons_self⟩
  | .inl o :: vs, i, j + 1, v, h => by
    obtain ⟨h1, h2⟩ := zsl_args ad vs (i + 1) j v (by simpa [zsl] using h)
    refine ⟨List.mem_cons_of_mem _ ?_, List.mem_cons_of_mem _ h2⟩
    show _ ∈ lv_args (if (zc ad (.inl o)).category = 2 then i + 2 else i + 1) _
    rw [if_neg (by rw [zc_cat]; exact fun q => by cases q), show i + (j + 1) = i + 1 + j by omega]
    exact h1
  | .inr (.inl x) :: vs, i, 0, v, h => by
    simp [zsl] at h
    subst h
    exact ⟨List.mem_cons_self, List.mem_cons_self⟩
  | .inr (.inl x) :: vs, i, j + 1, v, h => by
    obtain ⟨h1, h2⟩ := zsl_args ad vs (i + 1) j v (by simpa [zsl] using h)
    refine ⟨List.mem_cons_of_mem _ ?_, List.mem_cons_of_mem _ h2⟩
    show _ ∈ lv_args (if (Value.int (Int32.ofInt x)).category = 2 then i + 2 else i + 1) _
    rw [if_neg (fun q => by cases q), show i + (j + 1) = i + 1 + j by omega]
    exact h1
theorem zsl_len (ad : Nat → Nat) : ∀ (vs : List zV), (lg_sl (vs.map (zc ad))).length = (zsl vs).length
  | [] => rfl
  | .inr (.inr x) :: vs => by
    have := zsl_len ad vs
    unfold lg_sl at this ⊢
    rw [List.map_cons, List.flatMap_cons, List.length_append, this]
    simp [zsl, zc, Value.category]
    omega
  | .inl o :: vs => by
    have := zsl_len ad vs
    unfold lg_sl at this ⊢
    rw [List.map_cons, List.flatMap_cons, List.length_append, this, if_neg (by rw [zc_cat]; exact fun q => by cases q)]
    simp [zsl]
    omega
  | .inr (.inl x) :: vs => by
    have := zsl_len ad vs
    unfold lg_sl at this ⊢
    rw [List.map_cons, List.flatMap_cons, List.length_append, this, if_neg (by rw [zc_cat]; exact fun q => by cases q)]
    simp [zsl]
    omega
theorem zentry {ad : Nat → Nat} {n k : Nat} {vs : List zV} (hn : (zsl vs).length ≤ n) (hv : ∀ w ∈ vs, zvok k w) : zLc ad k ((lg_sl (vs.map (zc ad)) ++ List.replicate (n - (lg_sl (vs.map (zc ad))).length) Slot.unset).toArray) n (zargs n vs) := by
  have hl := lv_entry (vs.map (zc ad)) (n := n) (by rw [zsl_len]; exact hn)
  refine ⟨hl.1, hl.2.1, fun j v e => ?_⟩
  unfold zargs at e
  rw [List.getElem?_append] at e
  split at e
  · obtain ⟨h1, h2⟩ := zsl_args ad vs 0 j v e
    rw [Nat.zero_add] at h1
    exact ⟨hl.2.2 _ h1, hv v h2⟩
  · rw [List.getElem?_replicate] at e
    split at e <;> cases e
def zmok (MT : List zMt) (q : zMt) : Prop := match q with
  | (y, cc, n, ret, C, _) => plainName y.cls = true ∧ n ≤ 21 ∧ Cond.code y cc n ret ∈ lw_tbl ∧ zcodeOK MT y cc n ret C
theorem zmet_step (l : Launch) (D : va_G) (ea : Nat → Nat) (X : zX) (MT : List zMt) (hMT : ∀ q ∈ MT, zmok MT q) (d : Nat) (ih : zCallOK l D ea X MT d (zexec X MT d)) : zCallOK l D ea X MT (d + 1) (zexec X MT (d + 1)) := by
  intro id y cc n rt Cd cuts hq
  obtain ⟨g1, g2, g3, g4⟩ := hMT _ (List.mem_of_getElem? hq)
  refine ⟨g2, g3, ?_⟩
  intro vs L σ v L' σ' he hok hvs as cas tys sz hT
  have he1 : (match MT[id]? with
      | some (_, _, n, _, C, cuts) => bif Nat.ble (zsl vs).length n then zrunL X (zexec X MT d) C cuts 0 (zcm cuts 0 (zargs n vs)) [] (L, σ) else none
      | none => none) = some (v, (L', σ')) := he
  rw [hq] at he1
  obtain ⟨hb, he2⟩ := zbif_some (show (bif Nat.ble (zsl vs).length n then zrunL X (zexec X MT d) Cd cuts 0 (zcm cuts 0 (zargs n vs)) [] (L, σ) else none) = some (v, (L', σ')) from he1)
  have hb := Nat.le_of_ble_eq_true hb
  obtain ⟨k, hk⟩ := zrunL_some he2
  refine Met.ofW (cc := cc) (maxL := n) (ret := rt) g1 rfl ?_
  intro p e s m args below meth c s₁ B hml hv
  obtain ⟨rfl, hsz, hP, hK, hD, hE, hN⟩ := hv
  have hts := atoms_spec (ws := Cond.code y cc n rt :: zTb) B.pre
  have hown : s.vm.findClass y.cls = some m.cls := findClass_of_methodNamed B.named
  have hlocks := B.notSynchronized
  have hr := B.returns
  subst hsz
  have hD1 := hD.self (sz := s.heap.size)
  have C0 : zCtx p s m (vs.map (zc (zad as ea))).toArray c cc n y.cls (va_A (zws as ea cas L σ) s.heap.size) ea X := ⟨B.exec, B.bytes, hml, hown, fun w hw => hts w (List.mem_cons_of_mem _ hw), fun q h => Or.inr h, hE, hN⟩
  have hret : zRet p l e (zroom (d + 1) (L'.length - L.length) (zslots L' - zslots L)) s m (vs.map (zc (zad as ea))).toArray below meth c (MQ below (zQ D as ea L L' σ' v (va_A (zws as ea cas L σ) s.heap.size)) (vs.map (zc (zad as ea))).toArray s (L'.length - L.length) (zslots L' - zslots L) (va_A (zws as ea cas L σ) s.heap.size)) D as ea (va_A (zws as ea cas L σ) s.heap.size) cc rt L (v, (L', σ')) := by
    intro as1 cas1 tys1 H locs lsA pc i hw ha hv hle hd hz
    obtain ⟨wK, wP, wD, wS, wH, wT⟩ := hw
    have hpost : zPost as L L' σ' v (as1, cas1, tys1) := ⟨ha, wH, hv, wT⟩
    have hB : ∀ t : State, t.heap = H → s.WarmedH t.vm → zB D ea L' σ' (va_A (zws as ea cas L σ) s.heap.size) (as1, cas1, tys1) t := fun t ht hW => ⟨by rw [ht]; exact wP, va_K.moved hW.alike wK, wD⟩
    rcases v with _ | (_ | k1) | i1 | i1
    · obtain ⟨rfl, hrt⟩ := hz
      exact W.vret B.exec B.bytes (hr.trans hrt) (fun t ht hW => ⟨⟨(as1, cas1, tys1), rfl, hpost, hB t ht hW⟩, wS.F ht⟩) wS.2.2 hd hlocks
    · exact hz.elim
    · obtain ⟨rfl, rt1, hrt, hrk⟩ := hz
      exact W.aret (v := .ref (zad as1 ea k1)) B.exec B.bytes (hr.trans hrt) hrk (Or.inr ⟨_, rfl⟩) (fun t ht hW => ⟨⟨(as1, cas1, tys1), zad as1 ea k1, rfl, hpost, rfl, hB t ht hW⟩, wS.F ht⟩) wS.2.2 hd hlocks
    · obtain ⟨rfl, hrt⟩ := hz
      rcases hrt with hrt | ⟨hrt, hx⟩
      · exact W.iret (v := Int32.ofInt i1) B.exec B.bytes (hr.trans hrt) (fun t ht hW => ⟨⟨_, (as1, cas1, tys1), rfl, ⟨rfl, hpost⟩, hB t ht hW⟩, wS.F ht⟩) wS.2.2 hd hlocks
      · exact W.zret (v := Int32.ofInt i1) (ty := .boolean) B.exec B.bytes (hr.trans hrt) (by rcases hx with rfl | rfl <;> decide) (fun t ht hW => ⟨⟨_, (as1, cas1, tys1), rfl, ⟨rfl, hpost⟩, hB t ht hW⟩, wS.F ht⟩) wS.2.2 hd hlocks
    · obtain ⟨rfl, hrt⟩ := hz
      exact W.lret (v := Int64.ofInt i1) B.exec B.bytes (hr.trans hrt) (fun t ht hW => ⟨⟨_, (as1, cas1, tys1), rfl, ⟨rfl, hpost⟩, hB t ht hW⟩, wS.F ht⟩) wS.2.2 hd hlocks
  have key := zrun_sound (R := zroom (d + 1) (L'.length - L.length) (zslots L' - zslots L)) (cuts := cuts) C0 (fun hi => by rw [← hi]; exact (name_of_methodNamed B.named B.method).1) (fun _ _ h => h) hret ih (zexec_m X MT d) (Nat.le_refl _) (Nat.le_refl _) (Nat.le_refl _) (Nat.le_refl _) g4 k 0 _ [] (L, σ) hk as cas tys s.heap [] _ ⟨hK, hP, hD1, va_S.rf, hok, hT⟩ (fun _ _ => rfl) ((zentry hb hvs).cut cuts 0) (fun _ h => by cases h) (zle_rf L)
  rw [lg_entry_eq]
  have e1 : L.length - L.length = 0 := Nat.sub_self _
  have e2 : zslots L - zslots L = 0 := Nat.sub_self _
  dsimp only at key
  rw [e1, e2] at key
  exact key
theorem zmet_all (l : Launch) (D : va_G) (ea : Nat → Nat) (X : zX) (MT : List zMt) (hMT : ∀ q ∈ MT, zmok MT q) : ∀ d, zCallOK l D ea X MT d (zexec X MT d)
  | 0 => by
    intro id y cc n rt Cd cuts hq
    obtain ⟨g1, g2, g3, g4⟩ := hMT _ (List.mem_of_getElem? hq)
    exact ⟨g2, g3, fun vs L σ v L' σ' he => by cases he⟩
  | d + 1 => zmet_step l D ea X MT hMT d (zmet_all l D ea X MT hMT d)
