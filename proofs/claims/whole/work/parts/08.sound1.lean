/-! soundness of one step, calls apart -/
section
variable {p : Program} {l : Launch} {e : Env} {R : Room} {s : State} {m : MethodId} {args : Array Value} {below : List Frame} {meth : Method} {c : Code} {Q : State → Prop} {D : va_G} {as0 ea : Nat → Nat} {A : Nat → Prop} {nL : Nat} {L0 : List zS} {cc : ByteArray} {own nm : String} {X : zX} {r : zR} {K : zK} {pc : Nat} {ls : zL} {st : List zV} {L : List zS} {σ : zF} {ret : Option FieldType}
theorem zad_lt {as ea : Nat → Nat} {L : List zS} {σ : zF} {o : Nat} {x : zS} (hok : zHok L σ) (h : L[o]? = some x) : zad as ea o = as o := by
  have h1 := (List.getElem?_eq_some_iff.mp h).1
  have h2 := hok.2
  unfold zad
  rw [if_pos (by omega)]
theorem zad_ge {as ea : Nat → Nat} {o : Nat} (h : 1000 ≤ o) : zad as ea o = ea (o - 1000) := by
  unfold zad
  rw [if_neg (by omega)]
theorem zv_cons {n : Nat} {v : zV} {st : List zV} (h : zvok n v) (hs : ∀ w ∈ st, zvok n w) : ∀ w ∈ v :: st, zvok n w := fun w hw => (List.mem_cons.mp hw).elim (fun q => q ▸ h) (hs w)
theorem zv_hd {n : Nat} {v : zV} {st : List zV} (h : ∀ w ∈ v :: st, zvok n w) : zvok n v := h v List.mem_cons_self
theorem zv_tl {n : Nat} {v : zV} {st : List zV} (h : ∀ w ∈ v :: st, zvok n w) : ∀ w ∈ st, zvok n w := fun w hw => h w (List.mem_cons_of_mem _ hw)
theorem zget_some {as ea : Nat → Nat} {cas : Nat → ClassId} {L : List zS} {σ : zF} {k : Nat} {x : zS} (h : L[k]? = some x) : (zws as ea cas L σ)[k]? = some (as k, zcell (zad as ea) (cas k) (σ k) x) := by
  rw [zws_get, h]
  rfl
theorem znum_i {L : List zS} {σ : zF} {o n : Nat} {ts : List (Option Nat)} (hok : zHok L σ) (h : L[o]? = some (.inl (0, n, ts))) (i : Int) : zin (σ o i) := (hok.1 o _ h).2 i
theorem znum_j {L : List zS} {σ : zF} {o n : Nat} {ts : List (Option Nat)} (hok : zHok L σ) (h : L[o]? = some (.inl (1, n, ts))) (i : Int) : zinl (σ o i) := (hok.1 o _ h).2 i
theorem znum_f {L : List zS} {σ : zF} {o n : Nat} {fs : List (Option (Option Nat))} (hok : zHok L σ) (h : L[o]? = some (.inr (n, fs))) (i : Int) : zin (σ o i) := (hok.1 o _ h).2 i
abbrev zHyp (p : Program) (l : Launch) (e : Env) (R : Room) (s : State) (m : MethodId) (args : Array Value) (below : List Frame) (meth : Method) (c : Code) (Q : State → Prop) (D : va_G) (as0 ea : Nat → Nat) (A : Nat → Prop) (nL : Nat) (L0 : List zS) (K : zK) (r : zR) : Prop := ∀ (pc : Nat) (ls : zL) (st : List zV) (h : zH), K pc ls st h = some r → zle h.1 r.2.1 ∧ zG p l e R s m args below meth c Q D as0 ea A nL L0 pc ls st h
theorem zs_iload (C0 : zCtx p s m args c cc nL own A ea X) (hK : zHyp p l e R s m args below meth c Q D as0 ea A nL L0 K r) {a : Nat} (hd : decode cc pc = .ok (.iload a, 2)) (h : (zli ls a fun x => K (pc + 2) ls (.inr (.inl x) :: st) (L, σ)) = some r) : zG p l e R s m args below meth c Q D as0 ea A nL L0 pc ls st (L, σ) := by
  obtain ⟨hx, hb, hml, hown, hts, hA, hE, hN⟩ := C0
  obtain ⟨x, e, hk⟩ := zli_some h
  intro as cas tys H locs lsA hw ha hl hst hle
  exact lv_iload hx hb hd (hl.at e) ((hK _ _ _ _ hk).2 as cas tys H locs lsA hw ha hl (zv_cons (hl.2.2 _ _ e).2 hst) hle)
theorem zs_iload_n (C0 : zCtx p s m args c cc nL own A ea X) (hK : zHyp p l e R s m args below meth c Q D as0 ea A nL L0 K r) {a : Nat} {n : Fin 4} (hn : (n : Nat) = a) (hd : decode cc pc = .ok (.iload_n n, 1)) (h : (zli ls a fun x => K (pc + 1) ls (.inr (.inl x) :: st) (L, σ)) = some r) : zG p l e R s m args below meth c Q D as0 ea A nL L0 pc ls st (L, σ) := by
  obtain ⟨hx, hb, hml, hown, hts, hA, hE, hN⟩ := C0
  obtain ⟨x, e, hk⟩ := zli_some h
  intro as cas tys H locs lsA hw ha hl hst hle
  exact lv_iload_n hx hb hd hn (hl.at e) ((hK _ _ _ _ hk).2 as cas tys H locs lsA hw ha hl (zv_cons (hl.2.2 _ _ e).2 hst) hle)
theorem zs_lload (C0 : zCtx p s m args c cc nL own A ea X) (hK : zHyp p l e R s m args below meth c Q D as0 ea A nL L0 K r) {a : Nat} (hd : decode cc pc = .ok (.lload a, 2)) (h : (zll ls a fun x => K (pc + 2) ls (.inr (.inr x) :: st) (L, σ)) = some r) : zG p l e R s m args below meth c Q D as0 ea A nL L0 pc ls st (L, σ) := by
  obtain ⟨hx, hb, hml, hown, hts, hA, hE, hN⟩ := C0
  obtain ⟨x, e, hk⟩ := zll_some h
  intro as cas tys H locs lsA hw ha hl hst hle
  exact lv_lload hx hb hd (hl.at e) ((hK _ _ _ _ hk).2 as cas tys H locs lsA hw ha hl (zv_cons (hl.2.2 _ _ e).2 hst) hle)
theorem zs_lload_n (C0 : zCtx p s m args c cc nL own A ea X) (hK : zHyp p l e R s m args below meth c Q D as0 ea A nL L0 K r) {a : Nat} {n : Fin 4} (hn : (n : Nat) = a) (hd : decode cc pc = .ok (.lload_n n, 1)) (h : (zll ls a fun x => K (pc + 1) ls (.inr (.inr x) :: st) (L, σ)) = some r) : zG p l e R s m args below meth c Q D as0 ea A nL L0 pc ls st (L, σ) := by
  obtain ⟨hx, hb, hml, hown, hts, hA, hE, hN⟩ := C0
  obtain ⟨x, e, hk⟩ := zll_some h
  intro as cas tys H locs lsA hw ha hl hst hle
  exact lv_lload_n hx hb hd hn (hl.at e) ((hK _ _ _ _ hk).2 as cas tys H locs lsA hw ha hl (zv_cons (hl.2.2 _ _ e).2 hst) hle)
theorem zs_aload (C0 : zCtx p s m args c cc nL own A ea X) (hK : zHyp p l e R s m args below meth c Q D as0 ea A nL L0 K r) {a : Nat} (hd : decode cc pc = .ok (.aload a, 2)) (h : (zlr ls a fun x => K (pc + 2) ls (.inl (some x) :: st) (L, σ)) = some r) : zG p l e R s m args below meth c Q D as0 ea A nL L0 pc ls st (L, σ) := by
  obtain ⟨hx, hb, hml, hown, hts, hA, hE, hN⟩ := C0
  obtain ⟨x, e, hk⟩ := zlr_some h
  intro as cas tys H locs lsA hw ha hl hst hle
  exact lv_aload hx hb hd (hl.at e) ((hK _ _ _ _ hk).2 as cas tys H locs lsA hw ha hl (zv_cons (hl.2.2 _ _ e).2 hst) hle)
theorem zs_aload_n (C0 : zCtx p s m args c cc nL own A ea X) (hK : zHyp p l e R s m args below meth c Q D as0 ea A nL L0 K r) {a : Nat} {n : Fin 4} (hn : (n : Nat) = a) (hd : decode cc pc = .ok (.aload_n n, 1)) (h : (zlr ls a fun x => K (pc + 1) ls (.inl (some x) :: st) (L, σ)) = some r) : zG p l e R s m args below meth c Q D as0 ea A nL L0 pc ls st (L, σ) := by
  obtain ⟨hx, hb, hml, hown, hts, hA, hE, hN⟩ := C0
  obtain ⟨x, e, hk⟩ := zlr_some h
  intro as cas tys H locs lsA hw ha hl hst hle
  exact lv_aload_n hx hb hd hn (hl.at e) ((hK _ _ _ _ hk).2 as cas tys H locs lsA hw ha hl (zv_cons (hl.2.2 _ _ e).2 hst) hle)
theorem zs_istore (C0 : zCtx p s m args c cc nL own A ea X) (hK : zHyp p l e R s m args below meth c Q D as0 ea A nL L0 K r) {a : Nat} (hL : a < nL) (hd : decode cc pc = .ok (.istore a, 2)) (h : (zI1 st fun x q => K (pc + 2) (zst1 ls a (.inr (.inl x))) q (L, σ)) = some r) : zG p l e R s m args below meth c Q D as0 ea A nL L0 pc ls st (L, σ) := by
  obtain ⟨hx, hb, hml, hown, hts, hA, hE, hN⟩ := C0
  obtain ⟨x, q, e, hk⟩ := zI1_some h
  subst e
  intro as cas tys H locs lsA hw ha hl hst hle
  exact lv_istore hx hb hd hl.has hL rfl (fun ls' h' => (hK _ _ _ _ hk).2 as cas tys H locs ls' hw ha (zLc_st1 hl (zv_hd hst) h') (zv_tl hst) hle)
theorem zs_istore_n (C0 : zCtx p s m args c cc nL own A ea X) (hK : zHyp p l e R s m args below meth c Q D as0 ea A nL L0 K r) {a : Nat} {n : Fin 4} (hn : (n : Nat) = a) (hL : a < nL) (hd : decode cc pc = .ok (.istore_n n, 1)) (h : (zI1 st fun x q => K (pc + 1) (zst1 ls a (.inr (.inl x))) q (L, σ)) = some r) : zG p l e R s m args below meth c Q D as0 ea A nL L0 pc ls st (L, σ) := by
  obtain ⟨hx, hb, hml, hown, hts, hA, hE, hN⟩ := C0
  obtain ⟨x, q, e, hk⟩ := zI1_some h
  subst e
  intro as cas tys H locs lsA hw ha hl hst hle
  exact lv_istore_n hx hb hd hn hl.has hL rfl (fun ls' h' => (hK _ _ _ _ hk).2 as cas tys H locs ls' hw ha (zLc_st1 hl (zv_hd hst) h') (zv_tl hst) hle)
theorem zs_lstore (C0 : zCtx p s m args c cc nL own A ea X) (hK : zHyp p l e R s m args below meth c Q D as0 ea A nL L0 K r) {a : Nat} (hL : a + 1 < nL) (hd : decode cc pc = .ok (.lstore a, 2)) (h : (zJ1 st fun x q => K (pc + 2) (zst2 ls a (.inr (.inr x))) q (L, σ)) = some r) : zG p l e R s m args below meth c Q D as0 ea A nL L0 pc ls st (L, σ) := by
  obtain ⟨hx, hb, hml, hown, hts, hA, hE, hN⟩ := C0
  obtain ⟨x, q, e, hk⟩ := zJ1_some h
  subst e
  intro as cas tys H locs lsA hw ha hl hst hle
  exact lv_lstore hx hb hd hl.has hL rfl (fun ls' h' => (hK _ _ _ _ hk).2 as cas tys H locs ls' hw ha (zLc_st2 hl (zv_hd hst) h') (zv_tl hst) hle)
theorem zs_lstore_n (C0 : zCtx p s m args c cc nL own A ea X) (hK : zHyp p l e R s m args below meth c Q D as0 ea A nL L0 K r) {a : Nat} {n : Fin 4} (hn : (n : Nat) = a) (hL : a + 1 < nL) (hd : decode cc pc = .ok (.lstore_n n, 1)) (h : (zJ1 st fun x q => K (pc + 1) (zst2 ls a (.inr (.inr x))) q (L, σ)) = some r) : zG p l e R s m args below meth c Q D as0 ea A nL L0 pc ls st (L, σ) := by
  obtain ⟨hx, hb, hml, hown, hts, hA, hE, hN⟩ := C0
  obtain ⟨x, q, e, hk⟩ := zJ1_some h
  subst e
  intro as cas tys H locs lsA hw ha hl hst hle
  exact lv_lstore_n hx hb hd hn hl.has hL rfl (fun ls' h' => (hK _ _ _ _ hk).2 as cas tys H locs ls' hw ha (zLc_st2 hl (zv_hd hst) h') (zv_tl hst) hle)
theorem zs_astore (C0 : zCtx p s m args c cc nL own A ea X) (hK : zHyp p l e R s m args below meth c Q D as0 ea A nL L0 K r) {a : Nat} (hL : a < nL) (hd : decode cc pc = .ok (.astore a, 2)) (h : (zR1 st fun x q => K (pc + 2) (zst1 ls a (.inl (some x))) q (L, σ)) = some r) : zG p l e R s m args below meth c Q D as0 ea A nL L0 pc ls st (L, σ) := by
  obtain ⟨hx, hb, hml, hown, hts, hA, hE, hN⟩ := C0
  obtain ⟨x, q, e, hk⟩ := zR1_some h
  subst e
  intro as cas tys H locs lsA hw ha hl hst hle
  exact lv_astore hx hb hd hl.has hL rfl (fun ls' h' => (hK _ _ _ _ hk).2 as cas tys H locs ls' hw ha (zLc_st1 hl (zv_hd hst) h') (zv_tl hst) hle)
theorem zs_astore_n (C0 : zCtx p s m args c cc nL own A ea X) (hK : zHyp p l e R s m args below meth c Q D as0 ea A nL L0 K r) {a : Nat} {n : Fin 4} (hn : (n : Nat) = a) (hL : a < nL) (hd : decode cc pc = .ok (.astore_n n, 1)) (h : (zR1 st fun x q => K (pc + 1) (zst1 ls a (.inl (some x))) q (L, σ)) = some r) : zG p l e R s m args below meth c Q D as0 ea A nL L0 pc ls st (L, σ) := by
  obtain ⟨hx, hb, hml, hown, hts, hA, hE, hN⟩ := C0
  obtain ⟨x, q, e, hk⟩ := zR1_some h
  subst e
  intro as cas tys H locs lsA hw ha hl hst hle
  exact lv_astore_n hx hb hd hn hl.has hL rfl (fun ls' h' => (hK _ _ _ _ hk).2 as cas tys H locs ls' hw ha (zLc_st1 hl (zv_hd hst) h') (zv_tl hst) hle)
theorem zs_iinc (C0 : zCtx p s m args c cc nL own A ea X) (hK : zHyp p l e R s m args below meth c Q D as0 ea A nL L0 K r) {a : Nat} {tab : List (Int × Nat)} {n : Int} (hL : a < nL) (ht : zconOK (fun v => n = v) tab) (hd : decode cc pc = .ok (.iinc a n, 3)) (h : (zli ls a fun x => zcon tab fun v => K (pc + 3) (zst1 ls a (.inr (.inl (zw (x + v))))) st (L, σ)) = some r) : zG p l e R s m args below meth c Q D as0 ea A nL L0 pc ls st (L, σ) := by
  obtain ⟨hx, hb, hml, hown, hts, hA, hE, hN⟩ := C0
  obtain ⟨x, e, h⟩ := zli_some h
  obtain ⟨v, t, q, rfl, hk⟩ := zcon_some h
  have ht : n = v := ht
  subst ht
  intro as cas tys H locs lsA hw ha hl hst hle
  obtain ⟨k, hk2⟩ := List.getElem?_of_mem (zpairs_mem.mpr ⟨_, e, rfl⟩ : (a, zc (zad as ea) (.inr (.inl x))) ∈ zpairs (zad as ea) ls)
  refine lv_iinc (k := k) (x := Int32.ofInt x) (v := Int32.ofInt (zw (x + n))) hx hb hd hl.has hk2 (zi_add x n).symm hL rfl (fun ls' h' => ?_)
  exact (hK _ _ _ _ hk).2 as cas tys H locs ls' hw ha (zLc_st1 (v := .inr (.inl (zw (x + n)))) hl (zw_in _) h') hst hle
theorem zs_iconst (C0 : zCtx p s m args c cc nL own A ea X) (hK : zHyp p l e R s m args below meth c Q D as0 ea A nL L0 K r) {n : Int} {tab : List (Int × Nat)} (ht : zconOK (fun v => n = v ∧ zin v) tab) (hd : decode cc pc = .ok (.iconst n, 1)) (h : (zcon tab fun v => K (pc + 1) ls (.inr (.inl v) :: st) (L, σ)) = some r) : zG p l e R s m args below meth c Q D as0 ea A nL L0 pc ls st (L, σ) := by
  obtain ⟨hx, hb, hml, hown, hts, hA, hE, hN⟩ := C0
  obtain ⟨v, t, q, rfl, hk⟩ := zcon_some h
  have ht : n = v ∧ zin v := ht
  intro as cas tys H locs lsA hw ha hl hst hle
  exact lv_iconst hx hb hd (by rw [ht.1]) ((hK _ _ _ _ hk).2 as cas tys H locs lsA hw ha hl (zv_cons ht.2 hst) hle)
theorem zs_bipush (C0 : zCtx p s m args c cc nL own A ea X) (hK : zHyp p l e R s m args below meth c Q D as0 ea A nL L0 K r) {n : Int} {tab : List (Int × Nat)} (ht : zconOK (fun v => (Int8.ofInt n).toInt32 = Int32.ofInt v ∧ zin v) tab) (hd : decode cc pc = .ok (.bipush n, 2)) (h : (zcon tab fun v => K (pc + 2) ls (.inr (.inl v) :: st) (L, σ)) = some r) : zG p l e R s m args below meth c Q D as0 ea A nL L0 pc ls st (L, σ) := by
  obtain ⟨hx, hb, hml, hown, hts, hA, hE, hN⟩ := C0
  obtain ⟨v, t, q, rfl, hk⟩ := zcon_some h
  have ht : (Int8.ofInt n).toInt32 = Int32.ofInt v ∧ zin v := ht
  intro as cas tys H locs lsA hw ha hl hst hle
  exact lv_bipush hx hb hd ht.1 ((hK _ _ _ _ hk).2 as cas tys H locs lsA hw ha hl (zv_cons ht.2 hst) hle)
theorem zs_sipush (C0 : zCtx p s m args c cc nL own A ea X) (hK : zHyp p l e R s m args below meth c Q D as0 ea A nL L0 K r) {n : Int} {tab : List (Int × Nat)} (ht : zconOK (fun v => (Int16.ofInt n).toInt32 = Int32.ofInt v ∧ zin v) tab) (hd : decode cc pc = .ok (.sipush n, 3)) (h : (zcon tab fun v => K (pc + 3) ls (.inr (.inl v) :: st) (L, σ)) = some r) : zG p l e R s m args below meth c Q D as0 ea A nL L0 pc ls st (L, σ) := by
  obtain ⟨hx, hb, hml, hown, hts, hA, hE, hN⟩ := C0
  obtain ⟨v, t, q, rfl, hk⟩ := zcon_some h
  have ht : (Int16.ofInt n).toInt32 = Int32.ofInt v ∧ zin v := ht
  intro as cas tys H locs lsA hw ha hl hst hle
  exact lv_sipush hx hb hd ht.1 ((hK _ _ _ _ hk).2 as cas tys H locs lsA hw ha hl (zv_cons ht.2 hst) hle)
theorem zs_ldc (C0 : zCtx p s m args c cc nL own A ea X) (hK : zHyp p l e R s m args below meth c Q D as0 ea A nL L0 K r) {n : Nat} {tab : List (Int × Nat)} (ht : zconOK (fun v => Jvm.Cond.constant own n (Int32.ofInt v) ∈ lw_tbl ∧ zin v) tab) (hd : decode cc pc = .ok (.ldc n, 2)) (h : (zcon tab fun v => K (pc + 2) ls (.inr (.inl v) :: st) (L, σ)) = some r) : zG p l e R s m args below meth c Q D as0 ea A nL L0 pc ls st (L, σ) := by
  obtain ⟨hx, hb, hml, hown, hts, hA, hE, hN⟩ := C0
  obtain ⟨v, t, q, rfl, hk⟩ := zcon_some h
  have ht : Jvm.Cond.constant own n (Int32.ofInt v) ∈ lw_tbl ∧ zin v := ht
  intro as cas tys H locs lsA hw ha hl hst hle
  exact lv_ldc hx hb hown (hts _ (zTb_in ht.1 rfl)) hd ((hK _ _ _ _ hk).2 as cas tys H locs lsA hw ha hl (zv_cons ht.2 hst) hle)
theorem zs_ldc_w (C0 : zCtx p s m args c cc nL own A ea X) (hK : zHyp p l e R s m args below meth c Q D as0 ea A nL L0 K r) {n : Nat} {tab : List (Int × Nat)} (ht : zconOK (fun v => Jvm.Cond.constant own n (Int32.ofInt v) ∈ lw_tbl ∧ zin v) tab) (hd : decode cc pc = .ok (.ldc_w n, 3)) (h : (zcon tab fun v => K (pc + 3) ls (.inr (.inl v) :: st) (L, σ)) = some r) : zG p l e R s m args below meth c Q D as0 ea A nL L0 pc ls st (L, σ) := by
  obtain ⟨hx, hb, hml, hown, hts, hA, hE, hN⟩ := C0
  obtain ⟨v, t, q, rfl, hk⟩ := zcon_some h
  have ht : Jvm.Cond.constant own n (Int32.ofInt v) ∈ lw_tbl ∧ zin v := ht
  intro as cas tys H locs lsA hw ha hl hst hle
  exact lv_ldcw hx hb hown (hts _ (zTb_in ht.1 rfl)) hd ((hK _ _ _ _ hk).2 as cas tys H locs lsA hw ha hl (zv_cons ht.2 hst) hle)
theorem zs_ldc2_w (C0 : zCtx p s m args c cc nL own A ea X) (hK : zHyp p l e R s m args below meth c Q D as0 ea A nL L0 K r) {n : Nat} {tab : List (Int × Nat)} (ht : zconOK (fun v => Jvm.Cond.constantLong own n (Int64.ofInt v) ∈ lw_tbl ∧ zinl v) tab) (hd : decode cc pc = .ok (.ldc2_w n, 3)) (h : (zcon tab fun v => K (pc + 3) ls (.inr (.inr v) :: st) (L, σ)) = some r) : zG p l e R s m args below meth c Q D as0 ea A nL L0 pc ls st (L, σ) := by
  obtain ⟨hx, hb, hml, hown, hts, hA, hE, hN⟩ := C0
  obtain ⟨v, t, q, rfl, hk⟩ := zcon_some h
  have ht : Jvm.Cond.constantLong own n (Int64.ofInt v) ∈ lw_tbl ∧ zinl v := ht
  intro as cas tys H locs lsA hw ha hl hst hle
  exact lv_ldc2 hx hb hown (hts _ (zTb_in ht.1 rfl)) hd ((hK _ _ _ _ hk).2 as cas tys H locs lsA hw ha hl (zv_cons ht.2 hst) hle)
theorem zs_lconst (C0 : zCtx p s m args c cc nL own A ea X) (hK : zHyp p l e R s m args below meth c Q D as0 ea A nL L0 K r) {n : Fin 2} {tab : List (Int × Nat)} (ht : zconOK (fun v => Int64.ofNat (n : Nat) = Int64.ofInt v ∧ zinl v) tab) (hd : decode cc pc = .ok (.lconst n, 1)) (h : (zcon tab fun v => K (pc + 1) ls (.inr (.inr v) :: st) (L, σ)) = some r) : zG p l e R s m args below meth c Q D as0 ea A nL L0 pc ls st (L, σ) := by
  obtain ⟨hx, hb, hml, hown, hts, hA, hE, hN⟩ := C0
  obtain ⟨v, t, q, rfl, hk⟩ := zcon_some h
  have ht : Int64.ofNat (n : Nat) = Int64.ofInt v ∧ zinl v := ht
  intro as cas tys H locs lsA hw ha hl hst hle
  exact lv_lconst hx hb hd ht.1 ((hK _ _ _ _ hk).2 as cas tys H locs lsA hw ha hl (zv_cons ht.2 hst) hle)
theorem zs_iadd (C0 : zCtx p s m args c cc nL own A ea X) (hK : zHyp p l e R s m args below meth c Q D as0 ea A nL L0 K r) (hd : decode cc pc = .ok (.iadd, 1)) (h : (zI2 st fun x y q => K (pc + 1) ls (.inr (.inl (zw (x + y))) :: q) (L, σ)) = some r) : zG p l e R s m args below meth c Q D as0 ea A nL L0 pc ls st (L, σ) := by
  obtain ⟨hx, hb, hml, hown, hts, hA, hE, hN⟩ := C0
  obtain ⟨x, y, q, rfl, hk⟩ := zI2_some h
  intro as cas tys H locs lsA hw ha hl hst hle
  refine lv_iadd hx hb hd ?_
  rw [← zi_add]
  exact (hK _ _ _ _ hk).2 as cas tys H locs lsA hw ha hl (zv_cons (zw_in _) (zv_tl (zv_tl hst))) hle
theorem zs_isub (C0 : zCtx p s m args c cc nL own A ea X) (hK : zHyp p l e R s m args below meth c Q D as0 ea A nL L0 K r) (hd : decode cc pc = .ok (.isub, 1)) (h : (zI2 st fun x y q => K (pc + 1) ls (.inr (.inl (zw (x - y))) :: q) (L, σ)) = some r) : zG p l e R s m args below meth c Q D as0 ea A nL L0 pc ls st (L, σ) := by
  obtain ⟨hx, hb, hml, hown, hts, hA, hE, hN⟩ := C0
  obtain ⟨x, y, q, rfl, hk⟩ := zI2_some h
  intro as cas tys H locs lsA hw ha hl hst hle
  refine lv_isub hx hb hd ?_
  rw [← zi_sub]
  exact (hK _ _ _ _ hk).2 as cas tys H locs lsA hw ha hl (zv_cons (zw_in _) (zv_tl (zv_tl hst))) hle
theorem zs_imul (C0 : zCtx p s m args c cc nL own A ea X) (hK : zHyp p l e R s m args below meth c Q D as0 ea A nL L0 K r) (hd : decode cc pc = .ok (.imul, 1)) (h : (zI2 st fun x y q => K (pc + 1) ls (.inr (.inl (zw (x * y))) :: q) (L, σ)) = some r) : zG p l e R s m args below meth c Q D as0 ea A nL L0 pc ls st (L, σ) := by
  obtain ⟨hx, hb, hml, hown, hts, hA, hE, hN⟩ := C0
  obtain ⟨x, y, q, rfl, hk⟩ := zI2_some h
  intro as cas tys H locs lsA hw ha hl hst hle
  refine lv_imul hx hb hd ?_
  rw [← zi_mul]
  exact (hK _ _ _ _ hk).2 as cas tys H locs lsA hw ha hl (zv_cons (zw_in _) (zv_tl (zv_tl hst))) hle
theorem zs_iand (C0 : zCtx p s m args c cc nL own A ea X) (hK : zHyp p l e R s m args below meth c Q D as0 ea A nL L0 K r) (hd : decode cc pc = .ok (.iand, 1)) (h : (zI2 st fun x y q => K (pc + 1) ls (.inr (.inl (zand x y)) :: q) (L, σ)) = some r) : zG p l e R s m args below meth c Q D as0 ea A nL L0 pc ls st (L, σ) := by
  obtain ⟨hx, hb, hml, hown, hts, hA, hE, hN⟩ := C0
  obtain ⟨x, y, q, rfl, hk⟩ := zI2_some h
  intro as cas tys H locs lsA hw ha hl hst hle
  refine lv_iand hx hb hd ?_
  rw [← zi_and]
  exact (hK _ _ _ _ hk).2 as cas tys H locs lsA hw ha hl (zv_cons (zi_in _) (zv_tl (zv_tl hst))) hle
theorem zs_ior (C0 : zCtx p s m args c cc nL own A ea X) (hK : zHyp p l e R s m args below meth c Q D as0 ea A nL L0 K r) (hd : decode cc pc = .ok (.ior, 1)) (h : (zI2 st fun x y q => K (pc + 1) ls (.inr (.inl (zor x y)) :: q) (L, σ)) = some r) : zG p l e R s m args below meth c Q D as0 ea A nL L0 pc ls st (L, σ) := by
  obtain ⟨hx, hb, hml, hown, hts, hA, hE, hN⟩ := C0
  obtain ⟨x, y, q, rfl, hk⟩ := zI2_some h
  intro as cas tys H locs lsA hw ha hl hst hle
  refine lv_ior hx hb hd ?_
  rw [← zi_or]
  exact (hK _ _ _ _ hk).2 as cas tys H locs lsA hw ha hl (zv_cons (zi_in _) (zv_tl (zv_tl hst))) hle
theorem zs_ixor (C0 : zCtx p s m args c cc nL own A ea X) (hK : zHyp p l e R s m args below meth c Q D as0 ea A nL L0 K r) (hd : decode cc pc = .ok (.ixor, 1)) (h : (zI2 st fun x y q => K (pc + 1) ls (.inr (.inl (zxor x y)) :: q) (L, σ)) = some r) : zG p l e R s m args below meth c Q D as0 ea A nL L0 pc ls st (L, σ) := by
  obtain ⟨hx, hb, hml, hown, hts, hA, hE, hN⟩ := C0
  obtain ⟨x, y, q, rfl, hk⟩ := zI2_some h
  intro as cas tys H locs lsA hw ha hl hst hle
  refine lv_ixor hx hb hd ?_
  rw [← zi_xor]
  exact (hK _ _ _ _ hk).2 as cas tys H locs lsA hw ha hl (zv_cons (zi_in _) (zv_tl (zv_tl hst))) hle
theorem zs_ishl (C0 : zCtx p s m args c cc nL own A ea X) (hK : zHyp p l e R s m args below meth c Q D as0 ea A nL L0 K r) (hd : decode cc pc = .ok (.ishl, 1)) (h : (zI2 st fun x y q => K (pc + 1) ls (.inr (.inl (zshl x y)) :: q) (L, σ)) = some r) : zG p l e R s m args below meth c Q D as0 ea A nL L0 pc ls st (L, σ) := by
  obtain ⟨hx, hb, hml, hown, hts, hA, hE, hN⟩ := C0
  obtain ⟨x, y, q, rfl, hk⟩ := zI2_some h
  intro as cas tys H locs lsA hw ha hl hst hle
  refine lv_ishl hx hb hd ?_
  rw [← zi_shl]
  exact (hK _ _ _ _ hk).2 as cas tys H locs lsA hw ha hl (zv_cons (zi_in _) (zv_tl (zv_tl hst))) hle
theorem zs_ishr (C0 : zCtx p s m args c cc nL own A ea X) (hK : zHyp p l e R s m args below meth c Q D as0 ea A nL L0 K r) (hd : decode cc pc = .ok (.ishr, 1)) (h : (zI2 st fun x y q => K (pc + 1) ls (.inr (.inl (zshr x y)) :: q) (L, σ)) = some r) : zG p l e R s m args below meth c Q D as0 ea A nL L0 pc ls st (L, σ) := by
  obtain ⟨hx, hb, hml, hown, hts, hA, hE, hN⟩ := C0
  obtain ⟨x, y, q, rfl, hk⟩ := zI2_some h
  intro as cas tys H locs lsA hw ha hl hst hle
  refine lv_ishr hx hb hd ?_
  rw [← zi_shr]
  exact (hK _ _ _ _ hk).2 as cas tys H locs lsA hw ha hl (zv_cons (zi_in _) (zv_tl (zv_tl hst))) hle
theorem zs_iushr (C0 : zCtx p s m args c cc nL own A ea X) (hK : zHyp p l e R s m args below meth c Q D as0 ea A nL L0 K r) (hd : decode cc pc = .ok (.iushr, 1)) (h : (zI2 st fun x y q => K (pc + 1) ls (.inr (.inl (zushr x y)) :: q) (L, σ)) = some r) : zG p l e R s m args below meth c Q D as0 ea A nL L0 pc ls st (L, σ) := by
  obtain ⟨hx, hb, hml, hown, hts, hA, hE, hN⟩ := C0
  obtain ⟨x, y, q, rfl, hk⟩ := zI2_some h
  intro as cas tys H locs lsA hw ha hl hst hle
  exact lv_iushr hx hb hd (zi_ushr x y) ((hK _ _ _ _ hk).2 as cas tys H locs lsA hw ha hl (zv_cons (zi_in _) (zv_tl (zv_tl hst))) hle)
theorem zs_idiv (C0 : zCtx p s m args c cc nL own A ea X) (hK : zHyp p l e R s m args below meth c Q D as0 ea A nL L0 K r) (hd : decode cc pc = .ok (.idiv, 1)) (h : (zI2 st fun x y q => if y = 0 then none else K (pc + 1) ls (.inr (.inl (zdiv x y)) :: q) (L, σ)) = some r) : zG p l e R s m args below meth c Q D as0 ea A nL L0 pc ls st (L, σ) := by
  obtain ⟨hx, hb, hml, hown, hts, hA, hE, hN⟩ := C0
  obtain ⟨x, y, q, rfl, hk⟩ := zI2_some h
  intro as cas tys H locs lsA hw ha hl hst hle
  split at hk
  · cases hk
  next h0 =>
  have hxi : zin x := zv_hd (zv_tl hst)
  have hyi : zin y := zv_hd hst
  refine lv_idiv hx hb hd (fun q0 => h0 ((zi_eq hyi (by unfold zin; omega)).mp q0)) ?_
  rw [← zi_div hxi hyi]
  exact (hK _ _ _ _ hk).2 as cas tys H locs lsA hw ha hl (zv_cons (zw_in _) (zv_tl (zv_tl hst))) hle
theorem zs_irem (C0 : zCtx p s m args c cc nL own A ea X) (hK : zHyp p l e R s m args below meth c Q D as0 ea A nL L0 K r) (hd : decode cc pc = .ok (.irem, 1)) (h : (zI2 st fun x y q => if y = 0 then none else K (pc + 1) ls (.inr (.inl (zrem x y)) :: q) (L, σ)) = some r) : zG p l e R s m args below meth c Q D as0 ea A nL L0 pc ls st (L, σ) := by
  obtain ⟨hx, hb, hml, hown, hts, hA, hE, hN⟩ := C0
  obtain ⟨x, y, q, rfl, hk⟩ := zI2_some h
  intro as cas tys H locs lsA hw ha hl hst hle
  split at hk
  · cases hk
  next h0 =>
  have hxi : zin x := zv_hd (zv_tl hst)
  have hyi : zin y := zv_hd hst
  refine lv_irem hx hb hd (fun q0 => h0 ((zi_eq hyi (by unfold zin; omega)).mp q0)) ?_
  rw [← zi_rem hxi hyi h0]
  exact (hK _ _ _ _ hk).2 as cas tys H locs lsA hw ha hl (zv_cons (zrem_in (zv_hd (zv_tl hst)) h0) (zv_tl (zv_tl hst))) hle
theorem zs_ineg (C0 : zCtx p s m args c cc nL own A ea X) (hK : zHyp p l e R s m args below meth c Q D as0 ea A nL L0 K r) (hd : decode cc pc = .ok (.ineg, 1)) (h : (zI1 st fun x q => K (pc + 1) ls (.inr (.inl (zw (-x))) :: q) (L, σ)) = some r) : zG p l e R s m args below meth c Q D as0 ea A nL L0 pc ls st (L, σ) := by
  obtain ⟨hx, hb, hml, hown, hts, hA, hE, hN⟩ := C0
  obtain ⟨x, q, rfl, hk⟩ := zI1_some h
  intro as cas tys H locs lsA hw ha hl hst hle
  refine lv_ineg hx hb hd ?_
  rw [← zi_neg]
  exact (hK _ _ _ _ hk).2 as cas tys H locs lsA hw ha hl (zv_cons (zw_in _) (zv_tl hst)) hle
theorem zs_ladd (C0 : zCtx p s m args c cc nL own A ea X) (hK : zHyp p l e R s m args below meth c Q D as0 ea A nL L0 K r) (hd : decode cc pc = .ok (.ladd, 1)) (h : (zJ2 st fun x y q => K (pc + 1) ls (.inr (.inr (zwl (x + y))) :: q) (L, σ)) = some r) : zG p l e R s m args below meth c Q D as0 ea A nL L0 pc ls st (L, σ) := by
  obtain ⟨hx, hb, hml, hown, hts, hA, hE, hN⟩ := C0
  obtain ⟨x, y, q, rfl, hk⟩ := zJ2_some h
  intro as cas tys H locs lsA hw ha hl hst hle
  refine lv_ladd hx hb hd ?_
  rw [← zj_add]
  exact (hK _ _ _ _ hk).2 as cas tys H locs lsA hw ha hl (zv_cons (zwl_in _) (zv_tl (zv_tl hst))) hle
theorem zs_lmul (C0 : zCtx p s m args c cc nL own A ea X) (hK : zHyp p l e R s m args below meth c Q D as0 ea A nL L0 K r) (hd : decode cc pc = .ok (.lmul, 1)) (h : (zJ2 st fun x y q => K (pc + 1) ls (.inr (.inr (zwl (x * y))) :: q) (L, σ)) = some r) : zG p l e R s m args below meth c Q D as0 ea A nL L0 pc ls st (L, σ) := by
  obtain ⟨hx, hb, hml, hown, hts, hA, hE, hN⟩ := C0
  obtain ⟨x, y, q, rfl, hk⟩ := zJ2_some h
  intro as cas tys H locs lsA hw ha hl hst hle
  refine lv_lmul hx hb hd ?_
  rw [← zj_mul]
  exact (hK _ _ _ _ hk).2 as cas tys H locs lsA hw ha hl (zv_cons (zwl_in _) (zv_tl (zv_tl hst))) hle
theorem zs_land (C0 : zCtx p s m args c cc nL own A ea X) (hK : zHyp p l e R s m args below meth c Q D as0 ea A nL L0 K r) (hd : decode cc pc = .ok (.land, 1)) (h : (zJ2 st fun x y q => K (pc + 1) ls (.inr (.inr (zandl x y)) :: q) (L, σ)) = some r) : zG p l e R s m args below meth c Q D as0 ea A nL L0 pc ls st (L, σ) := by
  obtain ⟨hx, hb, hml, hown, hts, hA, hE, hN⟩ := C0
  obtain ⟨x, y, q, rfl, hk⟩ := zJ2_some h
  intro as cas tys H locs lsA hw ha hl hst hle
  refine lv_land hx hb hd ?_
  rw [← zj_and]
  exact (hK _ _ _ _ hk).2 as cas tys H locs lsA hw ha hl (zv_cons (zj_in _) (zv_tl (zv_tl hst))) hle
theorem zs_lor (C0 : zCtx p s m args c cc nL own A ea X) (hK : zHyp p l e R s m args below meth c Q D as0 ea A nL L0 K r) (hd : decode cc pc = .ok (.lor, 1)) (h : (zJ2 st fun x y q => K (pc + 1) ls (.inr (.inr (zorl x y)) :: q) (L, σ)) = some r) : zG p l e R s m args below meth c Q D as0 ea A nL L0 pc ls st (L, σ) := by
  obtain ⟨hx, hb, hml, hown, hts, hA, hE, hN⟩ := C0
  obtain ⟨x, y, q, rfl, hk⟩ := zJ2_some h
  intro as cas tys H locs lsA hw ha hl hst hle
  refine lv_lor hx hb hd ?_
  rw [← zj_or]
  exact (hK _ _ _ _ hk).2 as cas tys H locs lsA hw ha hl (zv_cons (zj_in _) (zv_tl (zv_tl hst))) hle
theorem zs_lshl (C0 : zCtx p s m args c cc nL own A ea X) (hK : zHyp p l e R s m args below meth c Q D as0 ea A nL L0 K r) (hd : decode cc pc = .ok (.lshl, 1)) (h : (zJI st fun x y q => K (pc + 1) ls (.inr (.inr (zshll x y)) :: q) (L, σ)) = some r) : zG p l e R s m args below meth c Q D as0 ea A nL L0 pc ls st (L, σ) := by
  obtain ⟨hx, hb, hml, hown, hts, hA, hE, hN⟩ := C0
  obtain ⟨x, y, q, rfl, hk⟩ := zJI_some h
  intro as cas tys H locs lsA hw ha hl hst hle
  exact lv_lshl hx hb hd (zj_shl x y) ((hK _ _ _ _ hk).2 as cas tys H locs lsA hw ha hl (zv_cons (zj_in _) (zv_tl (zv_tl hst))) hle)
theorem zs_lcmp (C0 : zCtx p s m args c cc nL own A ea X) (hK : zHyp p l e R s m args below meth c Q D as0 ea A nL L0 K r) (hd : decode cc pc = .ok (.lcmp, 1)) (h : (zJ2 st fun x y q => K (pc + 1) ls (.inr (.inl (zcmpl x y)) :: q) (L, σ)) = some r) : zG p l e R s m args below meth c Q D as0 ea A nL L0 pc ls st (L, σ) := by
  obtain ⟨hx, hb, hml, hown, hts, hA, hE, hN⟩ := C0
  obtain ⟨x, y, q, rfl, hk⟩ := zJ2_some h
  intro as cas tys H locs lsA hw ha hl hst hle
  refine W.lcmp hx hb hd ?_
  rw [zj_cmp (zv_hd (zv_tl hst)) (zv_hd hst)]
  exact (hK _ _ _ _ hk).2 as cas tys H locs lsA hw ha hl (zv_cons (zcmpl_in x y) (zv_tl (zv_tl hst))) hle
theorem zs_i2l (C0 : zCtx p s m args c cc nL own A ea X) (hK : zHyp p l e R s m args below meth c Q D as0 ea A nL L0 K r) (hd : decode cc pc = .ok (.i2l, 1)) (h : (zI1 st fun x q => K (pc + 1) ls (.inr (.inr x) :: q) (L, σ)) = some r) : zG p l e R s m args below meth c Q D as0 ea A nL L0 pc ls st (L, σ) := by
  obtain ⟨hx, hb, hml, hown, hts, hA, hE, hN⟩ := C0
  obtain ⟨x, q, rfl, hk⟩ := zI1_some h
  intro as cas tys H locs lsA hw ha hl hst hle
  have hxi : zin x := zv_hd hst
  exact lv_i2l hx hb hd (zi_2l hxi) ((hK _ _ _ _ hk).2 as cas tys H locs lsA hw ha hl (zv_cons (show zinl x by unfold zin at hxi; unfold zinl; omega) (zv_tl hst)) hle)
theorem zs_l2i (C0 : zCtx p s m args c cc nL own A ea X) (hK : zHyp p l e R s m args below meth c Q D as0 ea A nL L0 K r) (hd : decode cc pc = .ok (.l2i, 1)) (h : (zJ1 st fun x q => K (pc + 1) ls (.inr (.inl (zw x)) :: q) (L, σ)) = some r) : zG p l e R s m args below meth c Q D as0 ea A nL L0 pc ls st (L, σ) := by
  obtain ⟨hx, hb, hml, hown, hts, hA, hE, hN⟩ := C0
  obtain ⟨x, q, rfl, hk⟩ := zJ1_some h
  intro as cas tys H locs lsA hw ha hl hst hle
  exact lv_l2i hx hb hd (zj_2i (zv_hd hst)) ((hK _ _ _ _ hk).2 as cas tys H locs lsA hw ha hl (zv_cons (zw_in _) (zv_tl hst)) hle)
theorem zs_i2b (C0 : zCtx p s m args c cc nL own A ea X) (hK : zHyp p l e R s m args below meth c Q D as0 ea A nL L0 K r) (hd : decode cc pc = .ok (.i2b, 1)) (h : (zI1 st fun x q => K (pc + 1) ls (.inr (.inl (zi2b x)) :: q) (L, σ)) = some r) : zG p l e R s m args below meth c Q D as0 ea A nL L0 pc ls st (L, σ) := by
  obtain ⟨hx, hb, hml, hown, hts, hA, hE, hN⟩ := C0
  obtain ⟨x, q, rfl, hk⟩ := zI1_some h
  intro as cas tys H locs lsA hw ha hl hst hle
  exact lv_i2b hx hb hd (zi_2b x) ((hK _ _ _ _ hk).2 as cas tys H locs lsA hw ha hl (zv_cons (zi_in _) (zv_tl hst)) hle)
theorem zs_i2s (C0 : zCtx p s m args c cc nL own A ea X) (hK : zHyp p l e R s m args below meth c Q D as0 ea A nL L0 K r) (hd : decode cc pc = .ok (.i2s, 1)) (h : (zI1 st fun x q => K (pc + 1) ls (.inr (.inl (zi2s x)) :: q) (L, σ)) = some r) : zG p l e R s m args below meth c Q D as0 ea A nL L0 pc ls st (L, σ) := by
  obtain ⟨hx, hb, hml, hown, hts, hA, hE, hN⟩ := C0
  obtain ⟨x, q, rfl, hk⟩ := zI1_some h
  intro as cas tys H locs lsA hw ha hl hst hle
  exact lv_i2s hx hb hd (zi_2s x) ((hK _ _ _ _ hk).2 as cas tys H locs lsA hw ha hl (zv_cons (zi_in _) (zv_tl hst)) hle)
theorem zs_dup (C0 : zCtx p s m args c cc nL own A ea X) (hK : zHyp p l e R s m args below meth c Q D as0 ea A nL L0 K r) (hd : decode cc pc = .ok (.dup, 1)) (h : (zV1 st fun v q => K (pc + 1) ls (v :: v :: q) (L, σ)) = some r) : zG p l e R s m args below meth c Q D as0 ea A nL L0 pc ls st (L, σ) := by
  obtain ⟨hx, hb, hml, hown, hts, hA, hE, hN⟩ := C0
  obtain ⟨v, q, rfl, hc, hk⟩ := zV1_some h
  intro as cas tys H locs lsA hw ha hl hst hle
  exact lv_dup hx hb hd ((zc_cat _ v).trans hc) ((hK _ _ _ _ hk).2 as cas tys H locs lsA hw ha hl (zv_cons (zv_hd hst) hst) hle)
theorem zs_pop (C0 : zCtx p s m args c cc nL own A ea X) (hK : zHyp p l e R s m args below meth c Q D as0 ea A nL L0 K r) (hd : decode cc pc = .ok (.pop, 1)) (h : (zV1 st fun v q => K (pc + 1) ls q (L, σ)) = some r) : zG p l e R s m args below meth c Q D as0 ea A nL L0 pc ls st (L, σ) := by
  obtain ⟨hx, hb, hml, hown, hts, hA, hE, hN⟩ := C0
  obtain ⟨v, q, rfl, hc, hk⟩ := zV1_some h
  intro as cas tys H locs lsA hw ha hl hst hle
  exact lv_pop hx hb hd ((zc_cat _ v).trans hc) ((hK _ _ _ _ hk).2 as cas tys H locs lsA hw ha hl (zv_tl hst) hle)
theorem zs_dup_x1 (C0 : zCtx p s m args c cc nL own A ea X) (hK : zHyp p l e R s m args below meth c Q D as0 ea A nL L0 K r) (hd : decode cc pc = .ok (.dup_x1, 1)) (h : (zV2 st fun v w q => K (pc + 1) ls (v :: w :: v :: q) (L, σ)) = some r) : zG p l e R s m args below meth c Q D as0 ea A nL L0 pc ls st (L, σ) := by
  obtain ⟨hx, hb, hml, hown, hts, hA, hE, hN⟩ := C0
  obtain ⟨v, w, q, rfl, hc, hc2, hk⟩ := zV2_some h
  intro as cas tys H locs lsA hw ha hl hst hle
  exact lv_dup_x1 hx hb hd ((zc_cat _ v).trans hc) ((zc_cat _ w).trans hc2) ((hK _ _ _ _ hk).2 as cas tys H locs lsA hw ha hl (zv_cons (zv_hd hst) (zv_cons (zv_hd (zv_tl hst)) (zv_cons (zv_hd hst) (zv_tl (zv_tl hst))))) hle)
theorem zs_dup2 (C0 : zCtx p s m args c cc nL own A ea X) (hK : zHyp p l e R s m args below meth c Q D as0 ea A nL L0 K r) (hd : decode cc pc = .ok (.dup2, 1)) (h : (zV2 st fun v w q => K (pc + 1) ls (v :: w :: v :: w :: q) (L, σ)) = some r) : zG p l e R s m args below meth c Q D as0 ea A nL L0 pc ls st (L, σ) := by
  obtain ⟨hx, hb, hml, hown, hts, hA, hE, hN⟩ := C0
  obtain ⟨v, w, q, rfl, hc, hc2, hk⟩ := zV2_some h
  intro as cas tys H locs lsA hw ha hl hst hle
  exact lv_dup2_11 hx hb hd ((zc_cat _ v).trans hc) ((zc_cat _ w).trans hc2) ((hK _ _ _ _ hk).2 as cas tys H locs lsA hw ha hl (zv_cons (zv_hd hst) (zv_cons (zv_hd (zv_tl hst)) hst)) hle)
theorem zs_goto (C0 : zCtx p s m args c cc nL own A ea X) (hK : zHyp p l e R s m args below meth c Q D as0 ea A nL L0 K r) {a : Nat} {o : Int} (ht : (pc : Int) + o = a) (hd : decode cc pc = .ok (.goto o, 3)) (h : K a ls st (L, σ) = some r) : zG p l e R s m args below meth c Q D as0 ea A nL L0 pc ls st (L, σ) := by
  obtain ⟨hx, hb, hml, hown, hts, hA, hE, hN⟩ := C0
  intro as cas tys H locs lsA hw ha hl hst hle
  exact lv_goto hx hb hd ht ((hK _ _ _ _ h).2 as cas tys H locs lsA hw ha hl hst hle)
theorem zs_icmp (C0 : zCtx p s m args c cc nL own A ea X) (hK : zHyp p l e R s m args below meth c Q D as0 ea A nL L0 K r) {a : Nat} {q : ClassFile.Cond} {o : Int} (ht : (pc : Int) + o = a) (hd : decode cc pc = .ok (.if_icmp q o, 3)) (h : (zI2 st fun x y k => zbr q x y (K a ls k (L, σ)) (K (pc + 3) ls k (L, σ))) = some r) : zG p l e R s m args below meth c Q D as0 ea A nL L0 pc ls st (L, σ) := by
  obtain ⟨hx, hb, hml, hown, hts, hA, hE, hN⟩ := C0
  obtain ⟨x, y, k, rfl, h9⟩ := zI2_some h
  intro as cas tys H locs lsA hw ha hl hst hle
  have hxi : zin x := zv_hd (zv_tl hst)
  have hyi : zin y := zv_hd hst
  have kT : ∀ hk : K a ls k (L, σ) = some r, _ := fun hk => (hK _ _ _ _ hk).2 as cas tys H locs lsA hw ha hl (zv_tl (zv_tl hst)) hle
  have kF : ∀ hk : K (pc + 3) ls k (L, σ) = some r, _ := fun hk => (hK _ _ _ _ hk).2 as cas tys H locs lsA hw ha hl (zv_tl (zv_tl hst)) hle
  cases q
  · refine lv_icmp_eq hx hb hd ht (fun g => kT ?_) (fun g => kF ?_)
    · rw [zi_eq hxi hyi] at g; simp only [zbr, if_pos g] at h9; exact h9
    · rw [zi_eq hxi hyi] at g; simp only [zbr, if_neg g] at h9; exact h9
  · refine lv_icmp_ne hx hb hd ht (fun g => kT ?_) (fun g => kF ?_)
    · have g : ¬ Int32.ofInt x = Int32.ofInt y := g
      rw [zi_eq hxi hyi] at g; simp only [zbr, if_neg g] at h9; exact h9
    · have g : Int32.ofInt x = Int32.ofInt y := g
      rw [zi_eq hxi hyi] at g; simp only [zbr, if_pos g] at h9; exact h9
  · refine lv_icmp_lt hx hb hd ht (fun g => kT ?_) (fun g => kF ?_)
    · rw [zi_lt hxi hyi] at g; simp only [zbr, if_pos g] at h9; exact h9
    · rw [zi_lt hxi hyi] at g; simp only [zbr, if_neg g] at h9; exact h9
  · refine lv_icmp_ge hx hb hd ht (fun g => kT ?_) (fun g => kF ?_)
    · rw [zi_le hyi hxi] at g; simp only [zbr, if_neg (show ¬ x < y by omega)] at h9; exact h9
    · rw [zi_le hyi hxi] at g; simp only [zbr, if_pos (show x < y by omega)] at h9; exact h9
  · refine lv_icmp_gt hx hb hd ht (fun g => kT ?_) (fun g => kF ?_)
    · have g : Int32.ofInt y < Int32.ofInt x := g
      rw [zi_lt hyi hxi] at g; simp only [zbr, if_pos g] at h9; exact h9
    · have g : ¬ Int32.ofInt y < Int32.ofInt x := g
      rw [zi_lt hyi hxi] at g; simp only [zbr, if_neg g] at h9; exact h9
  · refine lv_icmp_le hx hb hd ht (fun g => kT ?_) (fun g => kF ?_)
    · rw [zi_le hxi hyi] at g; simp only [zbr, if_neg (show ¬ y < x by omega)] at h9; exact h9
    · rw [zi_le hxi hyi] at g; simp only [zbr, if_pos (show y < x by omega)] at h9; exact h9
theorem zs_ifc (C0 : zCtx p s m args c cc nL own A ea X) (hK : zHyp p l e R s m args below meth c Q D as0 ea A nL L0 K r) {a : Nat} {q : ClassFile.Cond} {o : Int} (ht : (pc : Int) + o = a) (hd : decode cc pc = .ok (.ifCond q o, 3)) (h : (zI1 st fun x k => zbr q x 0 (K a ls k (L, σ)) (K (pc + 3) ls k (L, σ))) = some r) : zG p l e R s m args below meth c Q D as0 ea A nL L0 pc ls st (L, σ) := by
  obtain ⟨hx, hb, hml, hown, hts, hA, hE, hN⟩ := C0
  obtain ⟨x, k, rfl, h9⟩ := zI1_some h
  intro as cas tys H locs lsA hw ha hl hst hle
  have hxi : zin x := zv_hd hst
  have hyi : zin 0 := by unfold zin; omega
  have e0 : (0 : Int32) = Int32.ofInt 0 := rfl
  have kT : ∀ hk : K a ls k (L, σ) = some r, _ := fun hk => (hK _ _ _ _ hk).2 as cas tys H locs lsA hw ha hl (zv_tl hst) hle
  have kF : ∀ hk : K (pc + 3) ls k (L, σ) = some r, _ := fun hk => (hK _ _ _ _ hk).2 as cas tys H locs lsA hw ha hl (zv_tl hst) hle
  cases q
  · refine lv_if_eq hx hb hd ht (fun g => kT ?_) (fun g => kF ?_)
    · rw [e0, zi_eq hxi hyi] at g; simp only [zbr, if_pos g] at h9; exact h9
    · rw [e0, zi_eq hxi hyi] at g; simp only [zbr, if_neg g] at h9; exact h9
  · refine lv_if_ne hx hb hd ht (fun g => kT ?_) (fun g => kF ?_)
    · have g : ¬ Int32.ofInt x = Int32.ofInt 0 := g
      rw [zi_eq hxi hyi] at g; simp only [zbr, if_neg g] at h9; exact h9
    · have g : Int32.ofInt x = Int32.ofInt 0 := g
      rw [zi_eq hxi hyi] at g; simp only [zbr, if_pos g] at h9; exact h9
  · refine lv_if_lt hx hb hd ht (fun g => kT ?_) (fun g => kF ?_)
    · rw [e0, zi_lt hxi hyi] at g; simp only [zbr, if_pos g] at h9; exact h9
    · rw [e0, zi_lt hxi hyi] at g; simp only [zbr, if_neg g] at h9; exact h9
  · refine lv_if_ge hx hb hd ht (fun g => kT ?_) (fun g => kF ?_)
    · rw [e0, zi_le hyi hxi] at g; simp only [zbr, if_neg (show ¬ x < 0 by omega)] at h9; exact h9
    · rw [e0, zi_le hyi hxi] at g; simp only [zbr, if_pos (show x < 0 by omega)] at h9; exact h9
  · refine lv_if_gt hx hb hd ht (fun g => kT ?_) (fun g => kF ?_)
    · have g : Int32.ofInt 0 < Int32.ofInt x := g
      rw [zi_lt hyi hxi] at g; simp only [zbr, if_pos g] at h9; exact h9
    · have g : ¬ Int32.ofInt 0 < Int32.ofInt x := g
      rw [zi_lt hyi hxi] at g; simp only [zbr, if_neg g] at h9; exact h9
  · refine lv_if_le hx hb hd ht (fun g => kT ?_) (fun g => kF ?_)
    · rw [e0, zi_le hxi hyi] at g; simp only [zbr, if_neg (show ¬ 0 < x by omega)] at h9; exact h9
    · rw [e0, zi_le hxi hyi] at g; simp only [zbr, if_pos (show 0 < x by omega)] at h9; exact h9
theorem ztab_in {pc d : Nat} {x : Int} {k : Nat → Option zR} : ∀ {lo : Int} {os : List Int} {tab : List (Int × Nat)}, ztabOK pc lo os tab → zsw k d tab x = some r → (x < lo ∨ lo + os.length ≤ x) ∧ k d = some r ∨ (lo ≤ x ∧ x < lo + os.length ∧ ∃ (o : Int) (t : Nat), os[(x - lo).toNat]? = some o ∧ (pc : Int) + o = t ∧ k t = some r)
  | lo, [], [], _, h => Or.inl ⟨by simp; omega, h⟩
  | lo, o :: os, (v, t) :: tab, ⟨h1, h2, h3⟩, h => by
    subst h1
    unfold zsw at h
    split at h
    · next e =>
      subst e
      refine Or.inr ⟨by omega, by simp; omega, o, t, by simp, h2, h⟩
    · next e =>
      rcases ztab_in h3 h with ⟨q1, q2⟩ | ⟨q1, q2, o', t', q3, q4, q5⟩
      · exact Or.inl ⟨by simp at *; omega, q2⟩
      · refine Or.inr ⟨by omega, by simp at *; omega, o', t', ?_, q4, q5⟩
        have : (x - v).toNat = (x - (v + 1)).toNat + 1 := by omega
        rw [this]
        simpa using q3
  | _, [], _ :: _, hh, _ => hh.elim
  | _, _ :: _, [], hh, _ => hh.elim
theorem zlkp_in {pc d : Nat} {x dflt : Int} {k : Nat → Option zR} (hd : (pc : Int) + dflt = d) : ∀ {ps : List (Int × Int)} {tab : List (Int × Nat)}, zlkpOK pc ps tab → zsw k d tab x = some r → ∃ (o : Int) (t : Nat), Op.lookupswitch.offset ps dflt x = o ∧ (pc : Int) + o = t ∧ k t = some r
  | [], [], _, h => ⟨dflt, d, rfl, hd, h⟩
  | (a, o) :: ps, (v, t) :: tab, ⟨h1, h2, h3⟩, h => by
    subst h1
    unfold zsw at h
    split at h
    · next e =>
      refine ⟨o, t, ?_, h2, h⟩
      rw [Op.lookupswitch.offset_cons, if_pos e.symm]
    · next e =>
      obtain ⟨o', t', q1, q2, q3⟩ := zlkp_in hd h3 h
      refine ⟨o', t', ?_, q2, q3⟩
      rw [Op.lookupswitch.offset_cons, if_neg (fun q => e q.symm), q1]
  | [], _ :: _, hh, _ => hh.elim
  | _ :: _, [], hh, _ => hh.elim
theorem zs_table (C0 : zCtx p s m args c cc nL own A ea X) (hK : zHyp p l e R s m args below meth c Q D as0 ea A nL L0 K r) {d len : Nat} {tab : List (Int × Nat)} {dflt lo hi : Int} {offs : Array Int} (h1 : (pc : Int) + dflt = d) (h2 : ztabOK pc lo offs.toList tab) (h3 : hi + 1 = lo + offs.size) (hd : decode cc pc = .ok (.tableswitch dflt lo hi offs, len)) (h : (zI1 st fun x q => zsw (fun t => K t ls q (L, σ)) d tab x) = some r) : zG p l e R s m args below meth c Q D as0 ea A nL L0 pc ls st (L, σ) := by
  obtain ⟨hx, hb, hml, hown, hts, hA, hE, hN⟩ := C0
  obtain ⟨x, q, rfl, h9⟩ := zI1_some h
  intro as cas tys H locs lsA hw ha hl hst hle
  have hxi : zin x := zv_hd hst
  have hlen : offs.toList.length = offs.size := Array.length_toList
  rcases ztab_in h2 h9 with ⟨q1, q2⟩ | ⟨q1, q2, o, t, q3, q4, q5⟩
  · exact lv_tableOut hx hb hd (by rw [zi_toInt hxi]; omega) h1 ((hK _ _ _ _ q2).2 as cas tys H locs lsA hw ha hl (zv_tl hst) hle)
  · exact lv_tableIn hx hb hd (by rw [zi_toInt hxi]; omega) (by rw [zi_toInt hxi]; omega) (by rw [zi_toInt hxi, ← Array.getElem?_toList]; exact q3) q4 ((hK _ _ _ _ q5).2 as cas tys H locs lsA hw ha hl (zv_tl hst) hle)
theorem zs_lookup (C0 : zCtx p s m args c cc nL own A ea X) (hK : zHyp p l e R s m args below meth c Q D as0 ea A nL L0 K r) {d len : Nat} {tab : List (Int × Nat)} {dflt : Int} {ps : Array (Int × Int)} (h1 : (pc : Int) + dflt = d) (h2 : zlkpOK pc ps.toList tab) (h3 : (ps.toList.zip (ps.toList.drop 1)).all (fun (a, next) => a.1 < next.1) = true) (hd : decode cc pc = .ok (.lookupswitch dflt ps, len)) (h : (zI1 st fun x q => zsw (fun t => K t ls q (L, σ)) d tab x) = some r) : zG p l e R s m args below meth c Q D as0 ea A nL L0 pc ls st (L, σ) := by
  obtain ⟨hx, hb, hml, hown, hts, hA, hE, hN⟩ := C0
  obtain ⟨x, q, rfl, h9⟩ := zI1_some h
  intro as cas tys H locs lsA hw ha hl hst hle
  have hxi : zin x := zv_hd hst
  obtain ⟨o, t, q1, q2, q3⟩ := zlkp_in h1 h2 h9
  exact lv_lookup hx hb hd h3 (by rw [zi_toInt hxi]; exact q1) q2 ((hK _ _ _ _ q3).2 as cas tys H locs lsA hw ha hl (zv_tl hst) hle)
end
