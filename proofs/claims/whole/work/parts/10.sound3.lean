/-! soundness of one step: what is made; the library's three; ends -/
theorem zz_o {σ : zF} {k j : Nat} (h : j ≠ k) : zz σ k j = σ j := by
  funext i
  unfold zz
  rw [if_neg h]
theorem zz_at {σ : zF} {k : Nat} {i : Int} : zz σ k k i = 0 := by
  unfold zz
  rw [if_pos rfl]
theorem zHok_app {L : List zS} {σ : zF} {x : zS} (h : zHok L σ) (hL : L.length < 1000) (hx : zsok (L.length + 1) x) : zHok (L ++ [x]) (zz σ L.length) := by
  have hlen : (L ++ [x]).length = L.length + 1 := by simp
  refine ⟨fun j y hy => ?_, by omega⟩
  rw [hlen]
  rw [List.getElem?_append] at hy
  split at hy
  · next hj =>
    obtain ⟨h1, h2⟩ := h.1 j y hy
    refine ⟨zsok_mono (Nat.le_succ _) h1, ?_⟩
    rw [zz_o (by omega)]
    exact h2
  · next hj =>
    have hjl : j - L.length = 0 := by
      rcases hd : j - L.length with _ | d
      · rfl
      · rw [hd] at hy; simp at hy
    rw [hjl] at hy
    simp at hy
    subst hy
    have : j = L.length := by omega
    subst this
    refine ⟨hx, ?_⟩
    rcases x with ⟨_ | _ | tag, n, ts⟩ | ⟨c, fs⟩
    all_goals
      intro i
      rw [zz_at]
      first | (unfold zin; omega) | (unfold zinl; omega)
theorem zwT_app {L : List zS} {cas : Nat → ClassId} {tys : List (ClassId × FieldType)} {x : zS} {cA : ClassId} {ty : FieldType} (wT : ∀ (k tag n : Nat) (ts : List (Option Nat)), L[k]? = some (.inl (tag, n, ts)) → ∃ t0 : Nat, tys[t0]? = some (cas k, zty tag)) (hx : ∀ tag n ts, x = .inl (tag, n, ts) → zty tag = ty) : ∀ (k tag n : Nat) (ts : List (Option Nat)), (L ++ [x])[k]? = some (.inl (tag, n, ts)) → ∃ t0 : Nat, (tys ++ [(cA, ty)])[t0]? = some ((fun j => if j = L.length then cA else cas j) k, zty tag) := by
  intro k tag n ts h
  rw [List.getElem?_append] at h
  split at h
  · next hk =>
    obtain ⟨t0, ht0⟩ := wT k tag n ts h
    refine ⟨t0, ?_⟩
    rw [List.getElem?_append_left (List.getElem?_eq_some_iff.mp ht0).1, ht0]
    simp only [if_neg (show ¬ k = L.length by omega)]
  · next hk =>
    have hjl : k - L.length = 0 := by
      rcases hd : k - L.length with _ | d
      · rfl
      · rw [hd] at h; simp at h
    rw [hjl] at h
    simp at h
    refine ⟨tys.length, ?_⟩
    rw [List.getElem?_append_right (Nat.le_refl _)]
    simp only [if_pos (show k = L.length by omega), hx tag n ts h]
    simp
theorem zfk_get (q : (Nat → FieldType) × Nat) (j : Nat) : (zfkOf q)[j]? = if j < q.2 then some (match q.1 j with
  | .int => none
  | .boolean => none
  | _ => some none) else none := by
  unfold zfkOf
  rw [List.getElem?_map]
  by_cases h : j < q.2
  · rw [if_pos h, List.getElem?_range h]
    rfl
  · rw [if_neg h, List.getElem?_eq_none (by simp; omega)]
    rfl
theorem zfk_len (q : (Nat → FieldType) × Nat) : (zfkOf q).length = q.2 := by unfold zfkOf; simp
section
variable {p : Program} {l : Launch} {e : Env} {R : Room} {s : State} {m : MethodId} {args : Array Value} {below : List Frame} {meth : Method} {c : Code} {Q : State → Prop} {D : va_G} {as0 ea : Nat → Nat} {A : Nat → Prop} {nL : Nat} {L0 : List zS} {cc : ByteArray} {own nm : String} {X : zX} {r : zR} {K : zK} {pc : Nat} {ls : zL} {st : List zV} {L : List zS} {σ : zF} {ret : Option FieldType}
/-- behind a making: the world with the new cell -/
theorem zmade {as : Nat → Nat} {cas : Nat → ClassId} {tys : List (ClassId × FieldType)} {H H1 : Heap} {locs : List Loc} {lsA : Array Slot} {x : zS} {q : Nat} {cA : ClassId} {ty : FieldType} {pc' : Nat} {rest : List zV}
    (hk : zle (L ++ [x]) r.2.1 ∧ zG p l e R s m args below meth c Q D as0 ea A nL L0 pc' ls (.inl (some L.length) :: rest) (L ++ [x], zz σ L.length)) (hw : zWd D as ea cas tys A s H locs L σ) (ha : ∀ k, k < L0.length → as k = as0 k) (hl : zLc (zad as ea) L.length lsA nL ls) (hst : ∀ v ∈ rest, zvok L.length v) (hle : zle L0 L) (hL : L.length < 1000) (hx : zsok (L.length + 1) x) (hxt : ∀ tag n ts, x = .inl (tag, n, ts) → zty tag = ty)
    (wK1 : va_K D vwCl (tys ++ [(cA, ty)]) s ∨ ((∀ tag n ts, ¬ x = .inl (tag, n, ts)) ∧ va_K D vwCl tys s)) (hP1 : va_P D vwCl (zws as ea cas L σ ++ [(q, zcell (zad (zup as L.length q) ea) cA (fun _ => 0) x)]) H1) (hD1 : va_D A (zws as ea cas L σ ++ [(q, zcell (zad (zup as L.length q) ea) cA (fun _ => 0) x)])) (hS1 : va_S A s.heap H1 locs) :
    W p l e R s m args below meth c H1 locs (L.length - L0.length + 1) (zslots L - zslots L0 + zsz x) Q (F0 m pc' lsA (.ref q :: rest.map (zc (zad as ea)))) := by
  obtain ⟨wK, wP, wD, wS, wH, wT⟩ := id hw
  have hlen : (L ++ [x]).length = L.length + 1 := by simp
  have happ := zws_app (as := as) (ea := ea) (cas := cas) (cas' := fun j => if j = L.length then cA else cas j) (L := L) (σ := σ) (σ' := zz σ L.length) (q := q) (s := x) hL wH (fun k hk => by simp only [if_neg (show ¬ k = L.length by omega)]) (fun k hk => zz_o (by omega))
  have h0 : zz σ L.length L.length = fun _ => 0 := by funext i; exact zz_at
  simp only [if_pos, h0] at happ
  rw [← happ] at hP1 hD1
  have hex : ∃ tys', va_K D vwCl tys' s ∧ ∀ (k tag n : Nat) (ts : List (Option Nat)), (L ++ [x])[k]? = some (.inl (tag, n, ts)) → ∃ t0 : Nat, tys'[t0]? = some ((fun j => if j = L.length then cA else cas j) k, zty tag) := by
    rcases wK1 with wK1 | ⟨hno, wK1⟩
    · exact ⟨_, wK1, zwT_app wT hxt⟩
    · refine ⟨tys, wK1, fun k tag n ts h => ?_⟩
      rw [List.getElem?_append] at h
      split at h
      · next hk =>
        obtain ⟨t0, ht0⟩ := wT k tag n ts h
        exact ⟨t0, by rw [ht0]; simp only [if_neg (show ¬ k = L.length by omega)]⟩
      · next hk =>
        rcases hd : k - L.length with _ | d
        · rw [hd] at h; simp at h; exact absurd h (hno _ _ _)
        · rw [hd] at h; simp at h
  obtain ⟨tys', wK2, wT2⟩ := hex
  have key := hk.2 (zup as L.length q) (fun j => if j = L.length then cA else cas j) tys' H1 locs lsA ⟨wK2, hP1, hD1, hS1, zHok_app wH hL hx, wT2⟩ (fun k hk => by rw [zup_lt (Nat.lt_of_lt_of_le hk hle.1)]; exact ha k hk) (by rw [hlen]; exact hl.up hL) (zv_cons (Or.inl (by rw [hlen]; omega)) (fun v hv => zvok_mono (by rw [hlen]; omega) (hst v hv))) (zle_tr hle (zle_app _ _))
  have e1 : (L ++ [x]).length - L0.length = L.length - L0.length + 1 := by have := hle.1; rw [hlen]; omega
  have e2 : zslots (L ++ [x]) - zslots L0 = zslots L - zslots L0 + zsz x := by have := hle.2; rw [zslots_app]; omega
  have e3 : zc (zad (zup as L.length q) ea) (.inl (some L.length)) = .ref q := by
    show Value.ref (zad (zup as L.length q) ea L.length) = _
    unfold zad
    rw [if_pos hL, zup_at]
  rw [e1, e2, List.map_cons, e3, zc_map_congr (fun t ht => zad_up hL ht) rest hst] at key
  exact key
theorem znwa_some {L : List zS} {σ : zF} {tag : Nat} {n : Int} {k : zH → Option zR} {r : zR} (h : znwa L σ tag n k = some r) : L.length < 1000 ∧ 0 ≤ n ∧ n ≤ 1000 ∧ k (L ++ [.inl (tag, n.toNat, bif Nat.beq tag 2 then List.replicate n.toNat none else [])], zz σ L.length) = some r := by
  unfold znwa at h
  obtain ⟨h1, h2⟩ := zbif_some h
  obtain ⟨h3, h4⟩ := zite_none h2
  rw [Nat.blt_eq] at h1
  exact ⟨h1, h3.1, h3.2, h4⟩
theorem zs_newarray (C0 : zCtx p s m args c cc nL own A ea X) (hK : zHyp p l e R s m args below meth c Q D as0 ea A nL L0 K r) (hR3 : r.2.1.length - L0.length ≤ R.cells) (hR4 : zslots r.2.1 - zslots L0 ≤ R.slots) {a : Nat} {t : ClassFile.ArrayType} (ht : (a = 0 ∧ t = .int) ∨ (a = 1 ∧ t = .long)) (hd : decode cc pc = .ok (.newarray t, 2)) (h : (zI1 st fun n q => bif Nat.blt a 2 then znwa L σ a n fun h => K (pc + 2) ls (.inl (some L.length) :: q) h else none) = some r) : zG p l e R s m args below meth c Q D as0 ea A nL L0 pc ls st (L, σ) := by
  obtain ⟨hx, hb, hml, hown, hts, hA, hE, hN⟩ := C0
  obtain ⟨n, q, rfl, h9⟩ := zI1_some h
  obtain ⟨-, h8⟩ := zbif_some h9
  obtain ⟨hL, n0, n1, hk⟩ := znwa_some h8
  intro as cas tys H locs lsA hw ha hl hst hle
  obtain ⟨wK, wP, wD, wS, wH, wT⟩ := id hw
  have hni : zin n := zv_hd hst
  have kk := hK _ _ _ _ hk
  have hc1 : L.length - L0.length + 1 ≤ R.cells := by have h1 := kk.1.1; have h2 := hle.1; simp at h1; dsimp only at h2; omega
  have hc2 : zslots L - zslots L0 + n.toNat ≤ R.slots := by
    have h1 := kk.1.2
    have h2 : zslots (L ++ [.inl (a, n.toNat, bif Nat.beq a 2 then List.replicate n.toNat none else [])]) = zslots L + n.toNat := zslots_app _ _
    have h3 := hle.2
    dsimp only at h1 h3
    omega
  show W _ _ _ _ _ _ _ _ _ _ _ _ _ _ _ (F0 m pc lsA (Value.int (Int32.ofInt n) :: q.map (zc (zad as ea))))
  rcases ht with ⟨rfl, rfl⟩ | ⟨rfl, rfl⟩
  · refine va_newa (D := D) (atype := .int) (ty := .int) (a0 := (n.toNat, .inl (fun _ => 0))) hx hb (hts _ zW_arri) rfl wK wP wD wS hA (fun cA => rfl) (zi_neg0 hni n0) (zi_clamp hni) (by show n.toNat * 4 ≤ _; omega) hc1 hc2 hd (fun q1 cA H1 hK1 hP1 hD1 hS1 => ?_)
    exact zmade (x := .inl (0, n.toNat, [])) (cA := cA) (ty := .int) kk hw ha hl (zv_tl hst) hle hL ⟨by omega, by omega, fun t ht => (by cases ht), fun q9 => by cases q9⟩ (fun _ _ _ q9 => by cases q9; rfl) (Or.inl hK1) hP1 hD1 hS1
  · refine va_newa (D := D) (atype := .long) (ty := .long) (a0 := (n.toNat, .inr (.inl (fun _ => 0)))) hx hb (hts _ zW_arrj) rfl wK wP wD wS hA (fun cA => rfl) (zi_neg0 hni n0) (zi_clamp hni) (by show n.toNat * 8 ≤ _; omega) hc1 hc2 hd (fun q1 cA H1 hK1 hP1 hD1 hS1 => ?_)
    exact zmade (x := .inl (1, n.toNat, [])) (cA := cA) (ty := .long) kk hw ha hl (zv_tl hst) hle hL ⟨by omega, by omega, fun t ht => (by cases ht), fun q9 => by cases q9⟩ (fun _ _ _ q9 => by cases q9; rfl) (Or.inl hK1) hP1 hD1 hS1
theorem zs_anewarray (C0 : zCtx p s m args c cc nL own A ea X) (hK : zHyp p l e R s m args below meth c Q D as0 ea A nL L0 K r) (hR3 : r.2.1.length - L0.length ≤ R.cells) (hR4 : zslots r.2.1 - zslots L0 ≤ R.slots) {k : Nat} (ht : Jvm.Cond.classLink own k RX7 ∈ lw_tbl) (hd : decode cc pc = .ok (.anewarray k, 3)) (h : (zI1 st fun n q => znwa L σ 2 n fun h => K (pc + 3) ls (.inl (some L.length) :: q) h) = some r) : zG p l e R s m args below meth c Q D as0 ea A nL L0 pc ls st (L, σ) := by
  obtain ⟨hx, hb, hml, hown, hts, hA, hE, hN⟩ := C0
  obtain ⟨n, q, rfl, h9⟩ := zI1_some h
  obtain ⟨hL, n0, n1, hk⟩ := znwa_some h9
  intro as cas tys H locs lsA hw ha hl hst hle
  obtain ⟨wK, wP, wD, wS, wH, wT⟩ := id hw
  have hni : zin n := zv_hd hst
  have hk : K (pc + 3) ls (.inl (some L.length) :: q) (L ++ [.inl (2, n.toNat, List.replicate n.toNat none)], zz σ L.length) = some r := hk
  have kk := hK _ _ _ _ hk
  have hc1 : L.length - L0.length + 1 ≤ R.cells := by have h1 := kk.1.1; have h2 := hle.1; simp at h1; dsimp only at h2; omega
  have hc2 : zslots L - zslots L0 + n.toNat ≤ R.slots := by
    have h1 := kk.1.2
    have h2 : zslots (L ++ [.inl (2, n.toNat, List.replicate n.toNat none)]) = zslots L + n.toNat := zslots_app _ _
    have h3 := hle.2
    dsimp only at h1 h3
    omega
  show W _ _ _ _ _ _ _ _ _ _ _ _ _ _ _ (F0 m pc lsA (Value.int (Int32.ofInt n) :: q.map (zc (zad as ea))))
  refine va_newq (D := D) (C := RX7) hx hb hown (hts _ (zTb_in ht rfl)) hN.2 wK wP wD wS hA (zi_neg0 hni n0) (zi_clamp hni) (by omega) hc1 hc2 hd (fun q1 cA H1 hK1 hP1 hD1 hS1 => ?_)
  have hcl : ∀ ad : Nat → Nat, zcell ad cA (fun _ => 0) (.inl (2, n.toNat, List.replicate n.toNat none)) = .inl (cA, n.toNat, .inr (.inr (.inr (.inr (fun _ => none))))) := by
    intro ad
    show (Sum.inl (cA, n.toNat, Sum.inr (Sum.inr (Sum.inr (Sum.inr _)))) : va_E) = Sum.inl (cA, n.toNat, Sum.inr (Sum.inr (Sum.inr (Sum.inr _))))
    congr 7
    funext j
    simp only [List.getD, List.getElem?_replicate]
    split <;> rfl
  exact zmade (x := .inl (2, n.toNat, List.replicate n.toNat none)) (cA := cA) (ty := .object RX7) kk hw ha hl (zv_tl hst) hle hL ⟨by omega, by omega, fun t ht => (by simp at ht), fun _ => by simp⟩ (fun _ _ _ q9 => by cases q9; rfl) (Or.inl hK1) (by rw [hcl]; exact hP1) (by rw [hcl]; exact hD1) hS1
theorem zs_new (C0 : zCtx p s m args c cc nL own A ea X) (hK : zHyp p l e R s m args below meth c Q D as0 ea A nL L0 K r) (hR3 : r.2.1.length - L0.length ≤ R.cells) (hR4 : zslots r.2.1 - zslots L0 ≤ R.slots) {k a : Nat} (hf : ∃ (C : String) (T : u_T) (N : Nat) (ty : Nat → FieldType), vwCl[a]? = some (C, T, N) ∧ zTys[a]? = some (ty, N) ∧ (∀ k, k < N → parseFieldDescriptor (T k).2.2.1 = some (ty k)) ∧ (∀ k, k < N → defaultValue (ty k) = .int 0 ∧ (ty k = .int ∨ ty k = .boolean) ∨ defaultValue (ty k) = .null ∧ (¬ ty k = .int ∧ ¬ ty k = .boolean)) ∧ Jvm.Cond.classLink own k C ∈ lw_tbl ∧ Jvm.Cond.instantiable C N ∈ lw_tbl ∧ Jvm.Cond.initialized C ∈ lw_tbl) (hd : decode cc pc = .ok (.new k, 3)) (h : (znew L σ a fun h => K (pc + 3) ls (.inl (some L.length) :: st) h) = some r) : zG p l e R s m args below meth c Q D as0 ea A nL L0 pc ls st (L, σ) := by
  obtain ⟨hx, hb, hml, hown, hts, hA, hE, hN⟩ := C0
  obtain ⟨C, T, N, ty, f1, f2, f3, f4, f5, f6, f7⟩ := hf
  unfold znew at h
  rw [f2] at h
  obtain ⟨hL, hk⟩ := zbif_some h
  rw [Nat.blt_eq] at hL
  intro as cas tys H locs lsA hw ha hl hst hle
  obtain ⟨wK, wP, wD, wS, wH, wT⟩ := id hw
  have kk := hK _ _ _ _ hk
  have hc1 : L.length - L0.length + 1 ≤ R.cells := by have h1 := kk.1.1; have h2 := hle.1; simp at h1; dsimp only at h2; omega
  have hc2 : zslots L - zslots L0 + N ≤ R.slots := by
    have h1 := kk.1.2
    have h2 : zslots (L ++ [.inr (a, zfkOf (ty, N))]) = zslots L + (zfkOf (ty, N)).length := zslots_app _ _
    rw [zfk_len] at h2
    have h3 := hle.2
    dsimp only at h1 h2 h3
    omega
  have hfs : ∀ ad : Nat → Nat, (zfkOf (ty, N)).mapIdx (zfv ad (fun _ => 0)) = (List.range N).map (fun k => defaultValue (ty k)) := by
    intro ad
    apply List.ext_getElem?
    intro j
    rw [List.getElem?_mapIdx, zfk_get, List.getElem?_map]
    by_cases hj : j < N
    · rw [if_pos hj, List.getElem?_range hj]
      rcases f4 j hj with ⟨q1, q2 | q2⟩ | ⟨q1, q2, q3⟩
      · simp only [q2, Option.map_some, zfv]; rfl
      · simp only [q2, Option.map_some, zfv]; rfl
      · simp only [Option.map_some, q1]
        congr 1
    · rw [if_neg hj, List.getElem?_eq_none (by simp; omega)]
      rfl
  refine va_new (D := D) (ci := a) (fs := (List.range N).map (fun k => defaultValue (ty k))) hx hb hts (zF_all a C T N f1) ty f3 hown (hts _ (zTb_in f5 rfl)) (hts _ (zTb_in f6 rfl)) (hts _ (zTb_in f7 rfl)) wK wP wD wS hA f1 (fun j hj => ?_) hc1 hc2 hd (fun q1 H1 hP1 hD1 hS1 => ?_)
  · unfold vp_V
    simp [List.getD, hj]
  · have key := zmade (x := .inr (a, zfkOf (ty, N))) (cA := cas 0) (ty := .int) kk hw ha hl hst hle hL ⟨fun t ht => ?_, (C, T, N), f1, by rw [zfk_len]⟩ (fun _ _ _ q9 => by cases q9) (Or.inr ⟨fun _ _ _ q9 => (by cases q9), wK⟩) (q := q1) (H1 := H1) (by show va_P D vwCl (_ ++ [(q1, Sum.inr (a, _))]) H1; rw [hfs]; exact hP1) (by show va_D A (_ ++ [(q1, Sum.inr (a, _))]); rw [hfs]; exact hD1) hS1
    · rw [show zsz (.inr (a, zfkOf (ty, N)) : zS) = N from zfk_len (ty, N)] at key
      exact key
    · unfold zfkOf at ht
      obtain ⟨j, -, hj⟩ := List.mem_map.mp ht
      revert hj
      split <;> intro hj <;> cases hj
theorem zs_init0 (C0 : zCtx p s m args c cc nL own A ea X) (hK : zHyp p l e R s m args below meth c Q D as0 ea A nL L0 K r) (hR1 : 1 ≤ R.frames) (hR2 : 40 ≤ R.locals) {k : Nat} (hf : Jvm.Cond.methodLink own k Lib.objectInit ∈ lw_tbl) (hd : decode cc pc = .ok (.invokespecial k, 3)) (h : (zR1 st fun _ q => bif Nat.ble (zwords q) 8 then K (pc + 3) ls q (L, σ) else none) = some r) : zG p l e R s m args below meth c Q D as0 ea A nL L0 pc ls st (L, σ) := by
  obtain ⟨hx, hb, hml, hown, hts, hA, hE, hN⟩ := C0
  obtain ⟨o, q, rfl, h9⟩ := zR1_some h
  obtain ⟨hw8, hk⟩ := zbif_some h9
  have hw8 := Nat.le_of_ble_eq_true hw8
  intro as cas tys H locs lsA hw ha hl hst hle
  show W _ _ _ _ _ _ _ _ _ _ _ _ _ _ _ (F0 m pc lsA (Value.ref (zad as ea o) :: q.map (zc (zad as ea))))
  refine W.objInit hx hb hown (hts _ (zTb_in hf rfl)) (hts _ zW_oini) (hts _ zW_oinc) rfl (by rw [hml]; exact hl.1) rfl hd hR1 ?_ ?_
  · have := lv_room (m := m) (pc := pc) (ls := lsA) (rest := []) (st := q.map (zc (zad as ea))) (by rw [zwords_eq]; exact hw8)
    have h0 : (F0 m pc lsA (Value.ref (zad as ea o) :: q.map (zc (zad as ea)))).monitorRoom = (F0 m pc lsA []).monitorRoom := rfl
    rw [h0]
    omega
  · exact (hK _ _ _ _ hk).2 as cas tys H locs lsA hw ha hl (zv_tl hst) hle
theorem zs_max (C0 : zCtx p s m args c cc nL own A ea X) (hK : zHyp p l e R s m args below meth c Q D as0 ea A nL L0 K r) (hR1 : 1 ≤ R.frames) (hR2 : 40 ≤ R.locals) (hR3 : r.2.1.length - L0.length ≤ R.cells) (hR4 : zslots r.2.1 - zslots L0 ≤ R.slots) {k : Nat} (hf : Jvm.Cond.methodLink own k Lib.Math.max.name ∈ lw_tbl) (hd : decode cc pc = .ok (.invokestatic k, 3)) (h : (zI2 st fun x y q => bif Nat.ble (zwords q) 8 then K (pc + 3) ls (.inr (.inl (zmax x y)) :: q) (L, σ) else none) = some r) : zG p l e R s m args below meth c Q D as0 ea A nL L0 pc ls st (L, σ) := by
  obtain ⟨hx, hb, hml, hown, hts, hA, hE, hN⟩ := C0
  obtain ⟨x, y, q, rfl, h9⟩ := zI2_some h
  obtain ⟨hw8, hk⟩ := zbif_some h9
  have hw8 := Nat.le_of_ble_eq_true hw8
  intro as cas tys H locs lsA hw ha hl hst hle
  have kk := hK _ _ _ _ hk
  have hxi : zin x := zv_hd (zv_tl hst)
  have hyi : zin y := zv_hd hst
  refine va_mmax hx hb (by rw [hml]; exact hl.1.symm) hown (hts _ (zTb_in hf rfl)) (hts _ zW_maxst) (hts _ zW_imath) (hts _ zW_maxc) hR1 (by rw [zwords_eq]; omega) (by have h1 := kk.1.1; dsimp only at h1 ⊢; omega) (by have h1 := kk.1.2; dsimp only at h1 ⊢; omega) hd ?_
  rw [zi_max hxi hyi]
  exact kk.2 as cas tys H locs lsA hw ha hl (zv_cons (zmax_in hxi hyi) (zv_tl (zv_tl hst))) hle
theorem zs_min (C0 : zCtx p s m args c cc nL own A ea X) (hK : zHyp p l e R s m args below meth c Q D as0 ea A nL L0 K r) (hR1 : 1 ≤ R.frames) (hR2 : 40 ≤ R.locals) (hR3 : r.2.1.length - L0.length ≤ R.cells) (hR4 : zslots r.2.1 - zslots L0 ≤ R.slots) {k : Nat} (hf : Jvm.Cond.methodLink own k Lib.Math.min.name ∈ lw_tbl) (hd : decode cc pc = .ok (.invokestatic k, 3)) (h : (zI2 st fun x y q => bif Nat.ble (zwords q) 8 then K (pc + 3) ls (.inr (.inl (zmin x y)) :: q) (L, σ) else none) = some r) : zG p l e R s m args below meth c Q D as0 ea A nL L0 pc ls st (L, σ) := by
  obtain ⟨hx, hb, hml, hown, hts, hA, hE, hN⟩ := C0
  obtain ⟨x, y, q, rfl, h9⟩ := zI2_some h
  obtain ⟨hw8, hk⟩ := zbif_some h9
  have hw8 := Nat.le_of_ble_eq_true hw8
  intro as cas tys H locs lsA hw ha hl hst hle
  have kk := hK _ _ _ _ hk
  have hxi : zin x := zv_hd (zv_tl hst)
  have hyi : zin y := zv_hd hst
  refine va_mmin hx hb (by rw [hml]; exact hl.1.symm) hown (hts _ (zTb_in hf rfl)) (hts _ zW_minst) (hts _ zW_imath) (hts _ zW_minc) hR1 (by rw [zwords_eq]; omega) (by have h1 := kk.1.1; dsimp only at h1 ⊢; omega) (by have h1 := kk.1.2; dsimp only at h1 ⊢; omega) hd ?_
  rw [zi_min hxi hyi]
  exact kk.2 as cas tys H locs lsA hw ha hl (zv_cons (zmin_in hxi hyi) (zv_tl (zv_tl hst))) hle
theorem zarc_some {L : List zS} {σ : zF} {st : List zV} {k : List zV → zF → Option zR} {r : zR} (h : zarc L σ st k = some r) : ∃ n dp o2 sp o1 q t n1 ts1 n2 ts2, st = .inr (.inl n) :: .inr (.inl dp) :: .inl (some o2) :: .inr (.inl sp) :: .inl (some o1) :: q ∧ L[o1]? = some (.inl (t, n1, ts1)) ∧ L[o2]? = some (.inl (t, n2, ts2)) ∧ t < 2 ∧ 0 ≤ n ∧ 0 ≤ sp ∧ 0 ≤ dp ∧ sp + n ≤ (n1 : Int) ∧ dp + n ≤ (n2 : Int) ∧ k q (zcpy σ o1 sp o2 dp n) = some r := by
  unfold zarc at h
  split at h
  · next n dp o2 sp o1 q =>
    unfold zarcK at h
    split at h
    · next t1 n1 ts1 t2 n2 ts2 e1 e2 =>
      obtain ⟨h1, h2⟩ := zbif_some h
      rw [Bool.and_eq_true, Nat.blt_eq] at h1
      have : t1 = t2 := Nat.eq_of_beq_eq_true h1.1
      subst this
      obtain ⟨h3, h4⟩ := zite_none h2
      exact ⟨n, dp, o2, sp, o1, q, t1, n1, ts1, n2, ts2, rfl, e1, e2, h1.2, h3.1, h3.2.1, h3.2.2.1, h3.2.2.2.1, h3.2.2.2.2, h4⟩
    · cases h
  · cases h
theorem zcpy_o {σ : zF} {o1 o2 j : Nat} {sp dp n : Int} (h : j ≠ o2) : zcpy σ o1 sp o2 dp n j = σ j := by
  funext i
  unfold zcpy
  rw [if_neg (fun q => h q.1)]
theorem zHok_cpy {L : List zS} {σ : zF} {o1 o2 t n1 n2 : Nat} {ts1 ts2 : List (Option Nat)} {sp dp n : Int} (h : zHok L σ) (h1 : L[o1]? = some (.inl (t, n1, ts1))) (h2 : L[o2]? = some (.inl (t, n2, ts2))) : zHok L (zcpy σ o1 sp o2 dp n) := by
  refine ⟨fun j x hx => ⟨(h.1 j x hx).1, ?_⟩, h.2⟩
  have hj := (h.1 j x hx).2
  by_cases e : j = o2
  · subst e
    rw [h2] at hx
    cases hx
    have ho := (h.1 o1 _ h1).2
    rcases t with _ | _ | t
    all_goals
      intro i
      unfold zcpy
      split
      · exact ho _
      · exact hj _
  · rw [zcpy_o e]
    exact hj
theorem zs_arc (C0 : zCtx p s m args c cc nL own A ea X) (hK : zHyp p l e R s m args below meth c Q D as0 ea A nL L0 K r) (hR1 : 1 ≤ R.frames) (hR2 : 40 ≤ R.locals) {k : Nat} (hf : Jvm.Cond.methodLink own k arraycopyName ∈ lw_tbl) (hd : decode cc pc = .ok (.invokestatic k, 3)) (h : (zarc L σ st fun q σ' => bif Nat.ble (zwords q) 8 then K (pc + 3) ls q (L, σ') else none) = some r) : zG p l e R s m args below meth c Q D as0 ea A nL L0 pc ls st (L, σ) := by
  obtain ⟨hx, hb, hml, hown, hts, hA, hE, hN⟩ := C0
  obtain ⟨n, dp, o2, sp, o1, q, t, n1, ts1, n2, ts2, rfl, hL1, hL2, ht2, c1, c2, c3, c4, c5, h9⟩ := zarc_some h
  obtain ⟨hw8, hk⟩ := zbif_some h9
  have hw8 := Nat.le_of_ble_eq_true hw8
  intro as cas tys H locs lsA hw ha hl hst hle
  obtain ⟨wK, wP, wD, wS, wH, wT⟩ := id hw
  have kk := hK _ _ _ _ hk
  have hni : zin n := zv_hd hst
  have hdi : zin dp := zv_hd (zv_tl hst)
  have hsi : zin sp := zv_hd (zv_tl (zv_tl (zv_tl hst)))
  have hz1 : zad as ea o1 = as o1 := zad_lt wH hL1
  have hz2 : zad as ea o2 = as o2 := zad_lt wH hL2
  have hg1 := zget_some (as := as) (ea := ea) (cas := cas) (σ := σ) hL1
  have hg2 := zget_some (as := as) (ea := ea) (cas := cas) (σ := σ) hL2
  obtain ⟨t1, ht1⟩ := wT o1 t n1 ts1 hL1
  obtain ⟨t2, ht2'⟩ := wT o2 t n2 ts2 hL2
  have hnw : nativeFrameWords "java/lang/System" "arraycopy" 5 + 11 = 18 := by decide +kernel
  show W _ _ _ _ _ _ _ _ _ _ _ _ _ _ _ (F0 m pc lsA (Value.int (Int32.ofInt n) :: Value.int (Int32.ofInt dp) :: Value.ref (zad as ea o2) :: Value.int (Int32.ofInt sp) :: Value.ref (zad as ea o1) :: q.map (zc (zad as ea))))
  rw [hz1, hz2]
  have hrest : ∀ (H1 : Heap) (locs1 : List Loc), va_P D vwCl (zws as ea cas L (zcpy σ o1 sp o2 dp n)) H1 → va_D A (zws as ea cas L (zcpy σ o1 sp o2 dp n)) → va_S A s.heap H1 locs1 → W p l e R s m args below meth c H1 locs1 (L.length - L0.length) (zslots L - zslots L0) Q (F0 m (pc + 3) lsA (q.map (zc (zad as ea)))) := fun H1 locs1 a1 a2 a3 =>
    kk.2 as cas tys H1 locs1 lsA ⟨wK, a1, a2, a3, zHok_cpy wH hL1 hL2, wT⟩ ha hl (zv_tl (zv_tl (zv_tl (zv_tl (zv_tl hst))))) hle
  have hself : L.set o2 (.inl (t, n2, ts2)) = L := zset_self hL2
  rcases t with _ | _ | t
  · refine va_copyi (D := D) (ty := .int) hx hb (by rw [hml]; exact hl.1.symm) hown (hts _ (zTb_in hf rfl)) (hts _ zW_nat) (hts _ zW_arcst) (hts _ zW_isys) wK wP wD wS o1 o2 t1 t2 hg1 hg2 ht1 ht2' rfl (zi_neg0 hsi c2) (zi_neg0 hdi c3) (zi_neg0 hni c1) (by rw [zi_clamp hsi, zi_clamp hni]; omega) (by rw [zi_clamp hdi, zi_clamp hni]; omega) (fun i _ => rfl) hR1 (by rw [zwords_eq, hnw]; omega) hd (fun H1 locs1 hP1 hD1 hS1 => ?_)
    have he : zcell (zad as ea) (cas o2) (zcpy σ o1 sp o2 dp n o2) (.inl (0, n2, ts2)) = .inl (cas o2, n2, .inl (va_cpy (fun j : Nat => Int32.ofInt (σ o1 j)) (fun j : Nat => Int32.ofInt (σ o2 j)) (Int32.ofInt sp).toNatClampNeg (Int32.ofInt dp).toNatClampNeg (Int32.ofInt n).toNatClampNeg)) := by
      show (Sum.inl (cas o2, n2, Sum.inl _) : va_E) = Sum.inl (cas o2, n2, Sum.inl _)
      congr 4
      funext j
      rw [zi_clamp hsi, zi_clamp hdi, zi_clamp hni]
      unfold va_cpy zcpy
      by_cases q9 : dp.toNat ≤ j ∧ j < dp.toNat + n.toNat
      · rw [if_pos q9, if_pos ⟨rfl, by omega, by omega⟩]
        congr 2
        omega
      · rw [if_neg q9, if_neg (fun q8 => q9 (by omega))]
    have hset := zws_set (as := as) (ea := ea) (cas := cas) (σ := σ) (σ' := zcpy σ o1 sp o2 dp n) (s' := .inl (0, n2, ts2)) hL2 (fun j hj => zcpy_o hj) he
    rw [hset, hself] at hP1 hD1
    exact hrest H1 locs1 hP1 hD1 hS1
  · refine va_copyl (D := D) (ty := .long) hx hb (by rw [hml]; exact hl.1.symm) hown (hts _ (zTb_in hf rfl)) (hts _ zW_nat) (hts _ zW_arcst) (hts _ zW_isys) wK wP wD wS o1 o2 t1 t2 hg1 hg2 ht1 ht2' rfl (zi_neg0 hsi c2) (zi_neg0 hdi c3) (zi_neg0 hni c1) (by rw [zi_clamp hsi, zi_clamp hni]; omega) (by rw [zi_clamp hdi, zi_clamp hni]; omega) (fun i _ => rfl) hR1 (by rw [zwords_eq, hnw]; omega) hd (fun H1 locs1 hP1 hD1 hS1 => ?_)
    have he : zcell (zad as ea) (cas o2) (zcpy σ o1 sp o2 dp n o2) (.inl (1, n2, ts2)) = .inl (cas o2, n2, .inr (.inl (va_cpy (fun j : Nat => Int64.ofInt (σ o1 j)) (fun j : Nat => Int64.ofInt (σ o2 j)) (Int32.ofInt sp).toNatClampNeg (Int32.ofInt dp).toNatClampNeg (Int32.ofInt n).toNatClampNeg))) := by
      show (Sum.inl (cas o2, n2, Sum.inr (Sum.inl _)) : va_E) = Sum.inl (cas o2, n2, Sum.inr (Sum.inl _))
      congr 5
      funext j
      rw [zi_clamp hsi, zi_clamp hdi, zi_clamp hni]
      unfold va_cpy zcpy
      by_cases q9 : dp.toNat ≤ j ∧ j < dp.toNat + n.toNat
      · rw [if_pos q9, if_pos ⟨rfl, by omega, by omega⟩]
        congr 2
        omega
      · rw [if_neg q9, if_neg (fun q8 => q9 (by omega))]
    have hset := zws_set (as := as) (ea := ea) (cas := cas) (σ := σ) (σ' := zcpy σ o1 sp o2 dp n) (s' := .inl (1, n2, ts2)) hL2 (fun j hj => zcpy_o hj) he
    rw [hset, hself] at hP1 hD1
    exact hrest H1 locs1 hP1 hD1 hS1
  · omega
end
