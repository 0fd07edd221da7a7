/-! soundness of one step: the heap -/
section
variable {p : Program} {l : Launch} {e : Env} {R : Room} {s : State} {m : MethodId} {args : Array Value} {below : List Frame} {meth : Method} {c : Code} {Q : State → Prop} {D : va_G} {as0 ea : Nat → Nat} {A : Nat → Prop} {nL : Nat} {L0 : List zS} {cc : ByteArray} {own nm : String} {X : zX} {r : zR} {K : zK} {pc : Nat} {ls : zL} {st : List zV} {L : List zS} {σ : zF} {ret : Option FieldType}
theorem zs_getfield (C0 : zCtx p s m args c cc nL own A ea X) (hK : zHyp p l e R s m args below meth c Q D as0 ea A nL L0 K r) {k a b : Nat} (hf : zfldOK own k a b) (hd : decode cc pc = .ok (.getfield k, 3)) (h : (zR1 st fun o q => zfld L o a b (K (pc + 3) ls (.inr (.inl (σ o b)) :: q) (L, σ)) (fun t => K (pc + 3) ls (.inl (some t) :: q) (L, σ))) = some r) : zG p l e R s m args below meth c Q D as0 ea A nL L0 pc ls st (L, σ) := by
  obtain ⟨hx, hb, hml, hown, hts, hA, hE, hN⟩ := C0
  obtain ⟨o, q, rfl, h9⟩ := zR1_some h
  obtain ⟨fs, hL, h9⟩ := zfld_some h9
  obtain ⟨C, T, N, f1, f2, f3, f4⟩ := hf
  intro as cas tys H locs lsA hw ha hl hst hle
  obtain ⟨wK, wP, wD, wS, wH, wT⟩ := id hw
  have hz : zad as ea o = as o := zad_lt wH hL
  have hg := zget_some (as := as) (ea := ea) (cas := cas) (σ := σ) hL
  show W _ _ _ _ _ _ _ _ _ _ _ _ _ _ _ (F0 m pc lsA (Value.ref (zad as ea o) :: q.map (zc (zad as ea))))
  rw [hz]
  rcases h9 with ⟨e1, hk⟩ | ⟨t, e1, hk⟩
  · refine va_get (D := D) (v := .int (Int32.ofInt (σ o b))) hx hb hts (zF_all a C T N f1) hown wK wP o hg f1 b f2 (hts _ (zTb_in f4 rfl)) (fun x h9 => by rw [f3] at h9; exact h9) ?_ hd ?_
    · rw [List.getElem?_mapIdx, e1]
      rfl
    · exact (hK _ _ _ _ hk).2 as cas tys H locs lsA hw ha hl (zv_cons (znum_f wH hL b) (zv_tl hst)) hle
  · refine va_get (D := D) (v := .ref (zad as ea t)) hx hb hts (zF_all a C T N f1) hown wK wP o hg f1 b f2 (hts _ (zTb_in f4 rfl)) (fun x h9 => by rw [f3] at h9; exact h9) ?_ hd ?_
    · rw [List.getElem?_mapIdx, e1]
      rfl
    · exact (hK _ _ _ _ hk).2 as cas tys H locs lsA hw ha hl (zv_cons (Or.inl ((wH.1 o _ hL).1.1 t (List.mem_of_getElem? e1))) (zv_tl hst)) hle
theorem zset_self {L : List zS} {o : Nat} {x : zS} (h : L[o]? = some x) : L.set o x = L := by
  apply List.ext_getElem?
  intro j
  rw [List.getElem?_set]
  split
  · next e =>
    subst e
    rw [if_pos (List.getElem?_eq_some_iff.mp h).1, h]
  · rfl
theorem zput_some {L : List zS} {σ : zF} {st : List zV} {a b c : Nat} {k : List zV → zH → Option zR} {r : zR} (h : zput L σ st a b c k = some r) : (∃ x o q fs, st = .inr (.inl x) :: .inl (some o) :: q ∧ L[o]? = some (.inr (a, fs)) ∧ fs[b]? = some none ∧ (c = 0 ∨ (c = 1 ∧ (x = 0 ∨ x = 1))) ∧ k q (L, zset σ o b x) = some r) ∨ ∃ t o q fs y, st = .inl (some t) :: .inl (some o) :: q ∧ L[o]? = some (.inr (a, fs)) ∧ fs[b]? = some (some y) ∧ c = 2 ∧ t < L.length ∧ k q (L.set o (.inr (a, fs.set b (some (some t)))), σ) = some r := by
  unfold zput at h
  split at h
  · next x o q =>
    left
    unfold zputK at h
    split at h
    · next ci fs e =>
      obtain ⟨h1, h2⟩ := zbif_some h
      rw [Bool.and_eq_true] at h1
      have : ci = a := Nat.eq_of_beq_eq_true h1.1
      subst this
      split at h2
      · next e2 =>
        have hc : c < 2 := by have := h1.2; rwa [Nat.blt_eq] at this
        rcases c with _ | _ | c
        · exact ⟨x, o, q, fs, rfl, e, e2, Or.inl rfl, h2⟩
        · obtain ⟨h3, h4⟩ := zite_none h2
          exact ⟨x, o, q, fs, rfl, e, e2, Or.inr ⟨rfl, h3⟩, h4⟩
        · omega
      · cases h2
    · cases h
  · next t o q =>
    right
    split at h
    · next ci fs e =>
      obtain ⟨h1, h2⟩ := zbif_some h
      rw [Bool.and_eq_true, Bool.and_eq_true] at h1
      have : ci = a := Nat.eq_of_beq_eq_true h1.1
      subst this
      split at h2
      · next y e2 =>
        have hc : t < L.length := by have := h1.2.2; rwa [Nat.blt_eq] at this
        exact ⟨t, o, q, fs, y, rfl, e, e2, Nat.eq_of_beq_eq_true h1.2.1, hc, h2⟩
      · cases h2
    · cases h
  · cases h
theorem zHok_setr {L : List zS} {σ : zF} {o a b t : Nat} {fs : List (Option (Option Nat))} (h : zHok L σ) (hL : L[o]? = some (.inr (a, fs))) (ht : t < L.length) : zHok (L.set o (.inr (a, fs.set b (some (some t))))) σ := by
  refine ⟨fun j x hx => ?_, by rw [List.length_set]; exact h.2⟩
  rw [List.length_set]
  rw [List.getElem?_set] at hx
  split at hx
  · next e =>
    subst e
    split at hx
    · cases hx
      obtain ⟨⟨h1, q, h2, h3⟩, h4⟩ := h.1 o _ hL
      refine ⟨⟨fun t' ht' => ?_, q, h2, by rw [List.length_set]; exact h3⟩, h4⟩
      rcases List.mem_or_eq_of_mem_set ht' with q9 | q9
      · exact h1 t' q9
      · cases q9; exact ht
    · cases hx
  · exact h.1 j x hx
theorem zHok_seta {L : List zS} {σ : zF} {o n i t : Nat} {ts : List (Option Nat)} (h : zHok L σ) (hL : L[o]? = some (.inl (2, n, ts))) (ht : t < L.length) : zHok (L.set o (.inl (2, n, ts.set i (some t)))) σ := by
  refine ⟨fun j x hx => ?_, by rw [List.length_set]; exact h.2⟩
  rw [List.length_set]
  rw [List.getElem?_set] at hx
  split at hx
  · next e =>
    subst e
    split at hx
    · cases hx
      obtain ⟨⟨h1, h2, h3, h5⟩, h4⟩ := h.1 o _ hL
      refine ⟨⟨h1, h2, fun t' ht' => ?_, fun _ => by rw [List.length_set]; exact h5 rfl⟩, h4⟩
      rcases List.mem_or_eq_of_mem_set ht' with q9 | q9
      · exact h3 t' q9
      · cases q9; exact ht
    · cases hx
  · exact h.1 j x hx
theorem zwT_set {L : List zS} {cas : Nat → ClassId} {tys : List (ClassId × FieldType)} {o : Nat} {x y : zS} (wT : ∀ (k tag n : Nat) (ts : List (Option Nat)), L[k]? = some (.inl (tag, n, ts)) → ∃ t0 : Nat, tys[t0]? = some (cas k, zty tag)) (hL : L[o]? = some x) (hxy : ∀ tag n ts, y = .inl (tag, n, ts) → ∃ n' ts', x = .inl (tag, n', ts')) : ∀ (k tag n : Nat) (ts : List (Option Nat)), (L.set o y)[k]? = some (.inl (tag, n, ts)) → ∃ t0 : Nat, tys[t0]? = some (cas k, zty tag) := by
  intro k tag n ts h
  rw [List.getElem?_set] at h
  split at h
  · next e =>
    subst e
    split at h
    · cases h
      obtain ⟨n', ts', rfl⟩ := hxy tag n ts rfl
      exact wT _ _ _ _ hL
    · cases h
  · exact wT _ _ _ _ h
theorem zs_putfield (C0 : zCtx p s m args c cc nL own A ea X) (hK : zHyp p l e R s m args below meth c Q D as0 ea A nL L0 K r) {k a b c1 : Nat} (hin : nm = "<init>" → meth.name = "<init>") (hf : zputOK own nm k a b c1) (hd : decode cc pc = .ok (.putfield k, 3)) (h : (zput L σ st a b c1 fun q h => K (pc + 3) ls q h) = some r) : zG p l e R s m args below meth c Q D as0 ea A nL L0 pc ls st (L, σ) := by
  obtain ⟨hx, hb, hml, hown, hts, hA, hE, hN⟩ := C0
  obtain ⟨C, T, N, ty, f1, f2, f3, f4, f5, f6⟩ := hf
  obtain ⟨ty0, -, g2, g3⟩ := zTy_all a C T N f1
  rcases zput_some h with ⟨x, o, q, fs, rfl, hL, e1, hc, hk⟩ | ⟨t, o, q, fs, y, rfl, hL, e1, hc, htl, hk⟩
  · intro as cas tys H locs lsA hw ha hl hst hle
    obtain ⟨wK, wP, wD, wS, wH, wT⟩ := id hw
    have hz : zad as ea o = as o := zad_lt wH hL
    have hg := zget_some (as := as) (ea := ea) (cas := cas) (σ := σ) hL
    have hxi : zin x := zv_hd hst
    show W _ _ _ _ _ _ _ _ _ _ _ _ _ _ _ (F0 m pc lsA (Value.int (Int32.ofInt x) :: Value.ref (zad as ea o) :: q.map (zc (zad as ea))))
    rw [hz]
    have hty : (T b).2.2.2 = false ∧ narrow ty (.int (Int32.ofInt x)) = .int (Int32.ofInt x) ∧ fits ty (.int (Int32.ofInt x)) = true := by
      rcases f6 with ⟨c0, t0, fi⟩ | ⟨c0, t0, fi⟩ | ⟨c0, -⟩
      · subst t0
        exact ⟨fi, rfl, rfl⟩
      · subst t0
        rcases hc with hc | ⟨-, rfl | rfl⟩
        · omega
        · exact ⟨fi, by decide, by decide⟩
        · exact ⟨fi, by decide, by decide⟩
      · omega
    refine va_put (D := D) (ty := ty) hx hb hts (zF_all a C T N f1) ty0 g2 g3 hown wK wP wD wS o hg f1 b f2 (hts _ (zTb_in f4 rfl)) (fun x h9 => by rw [f3] at h9; exact h9) hty.1 f5 hty.2.1 hty.2.2 (by rw [List.length_mapIdx]; exact (List.getElem?_eq_some_iff.mp e1).1) hd (fun H1 locs1 hP1 hD1 hS1 => ?_)
    have hset : (zws as ea cas L σ).set o (as o, .inr (a, (fs.mapIdx (zfv (zad as ea) (σ o))).set b (.int (Int32.ofInt x)))) = zws as ea cas L (zset σ o b x) := by
      have := zws_set (as := as) (ea := ea) (cas := cas) (σ := σ) (σ' := zset σ o b x) (s' := .inr (a, fs)) hL (fun j hj => zset_o hj) (zcell_setf e1)
      rw [this]
      congr 1
      exact zset_self hL
    rw [hset] at hP1 hD1
    exact (hK _ _ _ _ hk).2 as cas tys H1 locs1 lsA ⟨wK, hP1, hD1, hS1, zHok_set wH (fun s9 h9 => by rw [hL] at h9; cases h9; exact fun _ => hxi), wT⟩ ha hl (zv_tl (zv_tl hst)) hle
  · intro as cas tys H locs lsA hw ha hl hst hle
    obtain ⟨wK, wP, wD, wS, wH, wT⟩ := id hw
    have hz : zad as ea o = as o := zad_lt wH hL
    have hg := zget_some (as := as) (ea := ea) (cas := cas) (σ := σ) hL
    show W _ _ _ _ _ _ _ _ _ _ _ _ _ _ _ (F0 m pc lsA (Value.ref (zad as ea t) :: Value.ref (zad as ea o) :: q.map (zc (zad as ea))))
    rw [hz]
    rcases f6 with ⟨c0, -⟩ | ⟨c0, -⟩ | ⟨-, t0, fi, hnm, hdecl⟩
    · omega
    · omega
    have hty : narrow ty (.ref (zad as ea t)) = .ref (zad as ea t) ∧ fits ty (.ref (zad as ea t)) = true := by
      rcases t0 with ⟨n, rfl⟩ | ⟨n, rfl⟩
      · exact ⟨rfl, rfl⟩
      · exact ⟨rfl, rfl⟩
    have hbl : b < fs.length := (List.getElem?_eq_some_iff.mp e1).1
    refine va_putF (D := D) (ty := ty) hx hb hts (zF_all a C T N f1) ty0 g2 g3 hown wK wP wD wS o hg f1 b f2 (hts _ (zTb_in f4 rfl)) (fun x h9 => by rw [f3] at h9; exact h9) fi (hin hnm) hdecl f5 hty.1 hty.2 (by rw [List.length_mapIdx]; exact hbl) hd (fun H1 locs1 hP1 hD1 hS1 => ?_)
    have hset := zws_set (as := as) (ea := ea) (cas := cas) (σ := σ) (σ' := σ) (s' := .inr (a, fs.set b (some (some t)))) hL (fun j hj => rfl) (zcell_setr hbl)
    rw [hset] at hP1 hD1
    have hlen : (L.set o (.inr (a, fs.set b (some (some t))))).length = L.length := List.length_set
    have hsl : zslots (L.set o (.inr (a, fs.set b (some (some t))))) = zslots L := zslots_set L o _ _ hL (by simp [zsz])
    have key := (hK _ _ _ _ hk).2 as cas tys H1 locs1 lsA ⟨wK, hP1, hD1, hS1, zHok_setr wH hL htl, zwT_set wT hL (fun _ _ _ q9 => by cases q9)⟩ ha (by rw [hlen]; exact hl) (by rw [hlen]; exact zv_tl (zv_tl hst)) ⟨by rw [hlen]; exact hle.1, by rw [hsl]; exact hle.2⟩
    rw [hlen, hsl] at key
    exact key
theorem zs_getstatic (C0 : zCtx p s m args c cc nL own A ea X) (hK : zHyp p l e R s m args below meth c Q D as0 ea A nL L0 K r) {k a b : Nat} (hb1 : b = 1000 + a) (hf : ∃ nm', zstat[a]? = some nm' ∧ Jvm.Cond.fieldLink own k RX8 nm' "[I" ∈ lw_tbl) (hd : decode cc pc = .ok (.getstatic k, 3)) (h : K (pc + 3) ls (.inl (some b) :: st) (L, σ) = some r) : zG p l e R s m args below meth c Q D as0 ea A nL L0 pc ls st (L, σ) := by
  obtain ⟨hx, hb, hml, hown, hts, hA, hE, hN⟩ := C0
  obtain ⟨nm', f1, f2⟩ := hf
  intro as cas tys H locs lsA hw ha hl hst hle
  obtain ⟨wK, wP, wD, wS, wH, wT⟩ := id hw
  refine va_gets (v := .ref (ea a)) hx hb (hE.1 a nm' f1) wS hown (hts _ (zTb_in f2 rfl)) (fun x h9 => h9) hd ?_
  have key := (hK _ _ _ _ h).2 as cas tys H locs lsA hw ha hl (zv_cons (Or.inr (by omega)) hst) hle
  have hz : zc (zad as ea) (.inl (some b)) = .ref (ea a) := by
    show Value.ref (zad as ea b) = _
    rw [zad_ge (by omega), show b - 1000 = a by omega]
  rw [List.map_cons, hz] at key
  exact key
theorem zs_iaload (C0 : zCtx p s m args c cc nL own A ea X) (hK : zHyp p l e R s m args below meth c Q D as0 ea A nL L0 K r) (hd : decode cc pc = .ok (.iaload, 1)) (h : (zI1 st fun i q => zR1 q fun o q => zia X L σ o i fun v => K (pc + 1) ls (.inr (.inl v) :: q) (L, σ)) = some r) : zG p l e R s m args below meth c Q D as0 ea A nL L0 pc ls st (L, σ) := by
  obtain ⟨hx, hb, hml, hown, hts, hA, hE, hN⟩ := C0
  obtain ⟨i, q1, rfl, h8⟩ := zI1_some h
  obtain ⟨o, q, rfl, h9⟩ := zR1_some h8
  intro as cas tys H locs lsA hw ha hl hst hle
  obtain ⟨wK, wP, wD, wS, wH, wT⟩ := id hw
  have hii : zin i := zv_hd hst
  show W _ _ _ _ _ _ _ _ _ _ _ _ _ _ _ (F0 m pc lsA (Value.int (Int32.ofInt i) :: Value.ref (zad as ea o) :: q.map (zc (zad as ea))))
  have h9 := h9
  rcases zia_some h9 with ⟨n, ts, hL, i0, i1, hk⟩ | ⟨n, f, ho, hX, i0, i1, hk⟩
  · have hz : zad as ea o = as o := zad_lt wH hL
    have hg := zget_some (as := as) (ea := ea) (cas := cas) (σ := σ) hL
    obtain ⟨t0, ht0⟩ := wT o 0 n ts hL
    rw [hz]
    refine va_iald (D := D) hx hb wK wP o t0 hg ht0 (zi_vin hii i0 i1) hd ?_
    rw [zi_clamp hii, show ((i.toNat : Nat) : Int) = i by omega]
    exact (hK _ _ _ _ hk).2 as cas tys H locs lsA hw ha hl (zv_cons (znum_i wH hL i) (zv_tl (zv_tl hst))) hle
  · obtain ⟨hT, hn, hf⟩ := hE.2 _ n f hX
    rw [zad_ge ho]
    refine va_ti hx hb hT wS (zi_vin hii i0 i1) rfl hd ?_
    rw [zi_clamp hii]
    exact (hK _ _ _ _ hk).2 as cas tys H locs lsA hw ha hl (zv_cons (hf _) (zv_tl (zv_tl hst))) hle
theorem zs_arraylength (C0 : zCtx p s m args c cc nL own A ea X) (hK : zHyp p l e R s m args below meth c Q D as0 ea A nL L0 K r) (hd : decode cc pc = .ok (.arraylength, 1)) (h : (zR1 st fun o q => zlen X L o fun n => K (pc + 1) ls (.inr (.inl n) :: q) (L, σ)) = some r) : zG p l e R s m args below meth c Q D as0 ea A nL L0 pc ls st (L, σ) := by
  obtain ⟨hx, hb, hml, hown, hts, hA, hE, hN⟩ := C0
  obtain ⟨o, q, rfl, h9⟩ := zR1_some h
  intro as cas tys H locs lsA hw ha hl hst hle
  obtain ⟨wK, wP, wD, wS, wH, wT⟩ := id hw
  show W _ _ _ _ _ _ _ _ _ _ _ _ _ _ _ (F0 m pc lsA (Value.ref (zad as ea o) :: q.map (zc (zad as ea))))
  rcases zlen_some h9 with ⟨t, n, ts, hL, hk⟩ | ⟨n, f, ho, hX, hk⟩
  · have hz : zad as ea o = as o := zad_lt wH hL
    have hg := zget_some (as := as) (ea := ea) (cas := cas) (σ := σ) hL
    obtain ⟨t0, ht0⟩ := wT o t n ts hL
    obtain ⟨hn1, hn2, -⟩ := (wH.1 o _ hL).1
    rw [hz]
    have key := (hK _ _ _ _ hk).2 as cas tys H locs lsA hw ha hl (zv_cons (show zin (n : Int) by unfold zin; omega) (zv_tl hst)) hle
    rcases t with _ | _ | t
    · exact va_alen (D := D) hx hb wK wP o t0 hg ht0 rfl hd key
    · exact va_alen (D := D) hx hb wK wP o t0 hg ht0 rfl hd key
    · exact va_alen (D := D) hx hb wK wP o t0 hg ht0 rfl hd key
  · obtain ⟨hT, hn, hf⟩ := hE.2 _ n f hX
    rw [zad_ge ho]
    exact va_tlen hx hb hT wS rfl hd ((hK _ _ _ _ hk).2 as cas tys H locs lsA hw ha hl (zv_cons (show zin (n : Int) by unfold zin; omega) (zv_tl hst)) hle)
theorem zs_laload (C0 : zCtx p s m args c cc nL own A ea X) (hK : zHyp p l e R s m args below meth c Q D as0 ea A nL L0 K r) (hd : decode cc pc = .ok (.laload, 1)) (h : (zI1 st fun i q => zR1 q fun o q => zar L 1 o i (K (pc + 1) ls (.inr (.inr (σ o i)) :: q) (L, σ))) = some r) : zG p l e R s m args below meth c Q D as0 ea A nL L0 pc ls st (L, σ) := by
  obtain ⟨hx, hb, hml, hown, hts, hA, hE, hN⟩ := C0
  obtain ⟨i, q1, rfl, h8⟩ := zI1_some h
  obtain ⟨o, q, rfl, h9⟩ := zR1_some h8
  intro as cas tys H locs lsA hw ha hl hst hle
  obtain ⟨wK, wP, wD, wS, wH, wT⟩ := id hw
  have hii : zin i := zv_hd hst
  obtain ⟨n, ts, hL, i0, i1, hk⟩ := zar_some h9
  show W _ _ _ _ _ _ _ _ _ _ _ _ _ _ _ (F0 m pc lsA (Value.int (Int32.ofInt i) :: Value.ref (zad as ea o) :: q.map (zc (zad as ea))))
  have hz : zad as ea o = as o := zad_lt wH hL
  have hg := zget_some (as := as) (ea := ea) (cas := cas) (σ := σ) hL
  obtain ⟨t0, ht0⟩ := wT o 1 n ts hL
  rw [hz]
  refine va_lald (D := D) hx hb wK wP o t0 hg ht0 (zi_vin hii i0 i1) hd ?_
  rw [zi_clamp hii, show ((i.toNat : Nat) : Int) = i by omega]
  exact (hK _ _ _ _ hk).2 as cas tys H locs lsA hw ha hl (zv_cons (znum_j wH hL i) (zv_tl (zv_tl hst))) hle
theorem zws_same {as ea : Nat → Nat} {cas : Nat → ClassId} {L : List zS} {σ : zF} {o : Nat} {x : zS} {i v : Int} {e : va_E} (hL : L[o]? = some x) (he : zcell (zad as ea) (cas o) (zset σ o i v o) x = e) : (zws as ea cas L σ).set o (as o, e) = zws as ea cas L (zset σ o i v) := by
  have := zws_set (as := as) (ea := ea) (cas := cas) (σ := σ) (σ' := zset σ o i v) (s' := x) hL (fun j hj => zset_o hj) he
  rw [this]
  congr 1
  exact zset_self hL
theorem zs_iastore (C0 : zCtx p s m args c cc nL own A ea X) (hK : zHyp p l e R s m args below meth c Q D as0 ea A nL L0 K r) (hd : decode cc pc = .ok (.iastore, 1)) (h : (zI1 st fun x q => zI1 q fun i q => zR1 q fun o q => zar L 0 o i (K (pc + 1) ls q (L, zset σ o i x))) = some r) : zG p l e R s m args below meth c Q D as0 ea A nL L0 pc ls st (L, σ) := by
  obtain ⟨hx, hb, hml, hown, hts, hA, hE, hN⟩ := C0
  obtain ⟨x, q1, rfl, h7⟩ := zI1_some h
  obtain ⟨i, q2, rfl, h8⟩ := zI1_some h7
  obtain ⟨o, q, rfl, h9⟩ := zR1_some h8
  intro as cas tys H locs lsA hw ha hl hst hle
  obtain ⟨wK, wP, wD, wS, wH, wT⟩ := id hw
  have hii : zin i := zv_hd (zv_tl hst)
  obtain ⟨n, ts, hL, i0, i1, hk⟩ := zar_some h9
  show W _ _ _ _ _ _ _ _ _ _ _ _ _ _ _ (F0 m pc lsA (Value.int (Int32.ofInt x) :: Value.int (Int32.ofInt i) :: Value.ref (zad as ea o) :: q.map (zc (zad as ea))))
  have hz : zad as ea o = as o := zad_lt wH hL
  have hg := zget_some (as := as) (ea := ea) (cas := cas) (σ := σ) hL
  obtain ⟨t0, ht0⟩ := wT o 0 n ts hL
  rw [hz]
  refine va_iast (D := D) hx hb wK wP wD wS o t0 hg ht0 (zi_vin hii i0 i1) hd (fun H1 locs1 hP1 hD1 hS1 => ?_)
  rw [zi_clamp hii, zws_same hL (zcell_seti (ts := ts) i0)] at hP1 hD1
  exact (hK _ _ _ _ hk).2 as cas tys H1 locs1 lsA ⟨wK, hP1, hD1, hS1, zHok_set wH (fun s9 h9 => by rw [hL] at h9; cases h9; exact fun _ => zv_hd hst), wT⟩ ha hl (zv_tl (zv_tl (zv_tl hst))) hle
theorem zs_lastore (C0 : zCtx p s m args c cc nL own A ea X) (hK : zHyp p l e R s m args below meth c Q D as0 ea A nL L0 K r) (hd : decode cc pc = .ok (.lastore, 1)) (h : (zJ1 st fun x q => zI1 q fun i q => zR1 q fun o q => zar L 1 o i (K (pc + 1) ls q (L, zset σ o i x))) = some r) : zG p l e R s m args below meth c Q D as0 ea A nL L0 pc ls st (L, σ) := by
  obtain ⟨hx, hb, hml, hown, hts, hA, hE, hN⟩ := C0
  obtain ⟨x, q1, rfl, h7⟩ := zJ1_some h
  obtain ⟨i, q2, rfl, h8⟩ := zI1_some h7
  obtain ⟨o, q, rfl, h9⟩ := zR1_some h8
  intro as cas tys H locs lsA hw ha hl hst hle
  obtain ⟨wK, wP, wD, wS, wH, wT⟩ := id hw
  have hii : zin i := zv_hd (zv_tl hst)
  obtain ⟨n, ts, hL, i0, i1, hk⟩ := zar_some h9
  show W _ _ _ _ _ _ _ _ _ _ _ _ _ _ _ (F0 m pc lsA (Value.long (Int64.ofInt x) :: Value.int (Int32.ofInt i) :: Value.ref (zad as ea o) :: q.map (zc (zad as ea))))
  have hz : zad as ea o = as o := zad_lt wH hL
  have hg := zget_some (as := as) (ea := ea) (cas := cas) (σ := σ) hL
  obtain ⟨t0, ht0⟩ := wT o 1 n ts hL
  rw [hz]
  refine va_last (D := D) hx hb wK wP wD wS o t0 hg ht0 (zi_vin hii i0 i1) hd (fun H1 locs1 hP1 hD1 hS1 => ?_)
  rw [zi_clamp hii, zws_same hL (zcell_setj (ts := ts) i0)] at hP1 hD1
  exact (hK _ _ _ _ hk).2 as cas tys H1 locs1 lsA ⟨wK, hP1, hD1, hS1, zHok_set wH (fun s9 h9 => by rw [hL] at h9; cases h9; exact fun _ => zv_hd hst), wT⟩ ha hl (zv_tl (zv_tl (zv_tl hst))) hle
theorem zs_aaload (C0 : zCtx p s m args c cc nL own A ea X) (hK : zHyp p l e R s m args below meth c Q D as0 ea A nL L0 K r) (hd : decode cc pc = .ok (.aaload, 1)) (h : (zI1 st fun i q => zR1 q fun o q => zaa L o i fun t => K (pc + 1) ls (.inl (some t) :: q) (L, σ)) = some r) : zG p l e R s m args below meth c Q D as0 ea A nL L0 pc ls st (L, σ) := by
  obtain ⟨hx, hb, hml, hown, hts, hA, hE, hN⟩ := C0
  obtain ⟨i, q1, rfl, h8⟩ := zI1_some h
  obtain ⟨o, q, rfl, h9⟩ := zR1_some h8
  intro as cas tys H locs lsA hw ha hl hst hle
  obtain ⟨wK, wP, wD, wS, wH, wT⟩ := id hw
  have hii : zin i := zv_hd hst
  obtain ⟨n, ts, t, hL, i0, i1, hts2, hk⟩ := zaa_some h9
  show W _ _ _ _ _ _ _ _ _ _ _ _ _ _ _ (F0 m pc lsA (Value.int (Int32.ofInt i) :: Value.ref (zad as ea o) :: q.map (zc (zad as ea))))
  have hz : zad as ea o = as o := zad_lt wH hL
  have hg := zget_some (as := as) (ea := ea) (cas := cas) (σ := σ) hL
  obtain ⟨t0, ht0⟩ := wT o 2 n ts hL
  rw [hz]
  refine va_aldq (D := D) (C := RX7) hx hb wK wP o t0 hg ht0 (zi_vin hii i0 i1) hd ?_
  rw [zi_clamp hii, show ts.getD i.toNat none = some t by simp [List.getD, hts2]]
  exact (hK _ _ _ _ hk).2 as cas tys H locs lsA hw ha hl (zv_cons (Or.inl ((wH.1 o _ hL).1.2.2.1 t (List.mem_of_getElem? hts2))) (zv_tl (zv_tl hst))) hle
theorem zast_some {L : List zS} {σ : zF} {st : List zV} {k : List zV → zH → Option zR} {r : zR} (h : zast L σ st k = some r) : ∃ t i o q n ts fs, st = .inl (some t) :: .inr (.inl i) :: .inl (some o) :: q ∧ L[o]? = some (.inl (2, n, ts)) ∧ L[t]? = some (.inr (7, fs)) ∧ 0 ≤ i ∧ i < (n : Int) ∧ k q (L.set o (.inl (2, n, ts.set i.toNat (some t))), σ) = some r := by
  unfold zast at h
  split at h
  · next t i o q =>
    split at h
    · next n ts fs e1 e2 =>
      obtain ⟨h3, h4⟩ := zite_none h
      exact ⟨t, i, o, q, n, ts, fs, rfl, e1, e2, h3.1, h3.2, h4⟩
    · cases h
  · cases h
theorem zs_aastore (C0 : zCtx p s m args c cc nL own A ea X) (hK : zHyp p l e R s m args below meth c Q D as0 ea A nL L0 K r) (hd : decode cc pc = .ok (.aastore, 1)) (h : (zast L σ st fun q h => K (pc + 1) ls q h) = some r) : zG p l e R s m args below meth c Q D as0 ea A nL L0 pc ls st (L, σ) := by
  obtain ⟨hx, hb, hml, hown, hts, hA, hE, hN⟩ := C0
  obtain ⟨t, i, o, q, n, ts, fs, rfl, hL, hLt, i0, i1, hk⟩ := zast_some h
  intro as cas tys H locs lsA hw ha hl hst hle
  obtain ⟨wK, wP, wD, wS, wH, wT⟩ := id hw
  have hii : zin i := zv_hd (zv_tl hst)
  show W _ _ _ _ _ _ _ _ _ _ _ _ _ _ _ (F0 m pc lsA (Value.ref (zad as ea t) :: Value.int (Int32.ofInt i) :: Value.ref (zad as ea o) :: q.map (zc (zad as ea))))
  have hz : zad as ea o = as o := zad_lt wH hL
  have hzt : zad as ea t = as t := zad_lt wH hLt
  have hg := zget_some (as := as) (ea := ea) (cas := cas) (σ := σ) hL
  have hgt := zget_some (as := as) (ea := ea) (cas := cas) (σ := σ) hLt
  obtain ⟨t0, ht0⟩ := wT o 2 n ts hL
  have hln : i.toNat < ts.length := by
    have := (wH.1 o _ hL).1.2.2.2 rfl
    omega
  have hset := zws_set (as := as) (ea := ea) (cas := cas) (σ := σ) (σ' := σ) (s' := .inl (2, n, ts.set i.toNat (some t))) hL (fun j hj => rfl) (zcell_seta (ad := zad as ea) (ca := cas o) (f := σ o) (n := n) (t := t) hln)
  rw [hz, hzt]
  refine va_astq (D := D) (r := (RX7, TX7, 4)) hx hb wK wP wD wS o t0 t 7 hg ht0 hgt rfl (zi_vin hii i0 i1) hd (fun H1 locs1 hP1 hD1 hS1 => ?_)
  rw [← hzt, zi_clamp hii, hset] at hP1 hD1
  have hlen : (L.set o (.inl (2, n, ts.set i.toNat (some t)))).length = L.length := List.length_set
  have hsl : zslots (L.set o (.inl (2, n, ts.set i.toNat (some t)))) = zslots L := zslots_set L o _ _ hL rfl
  have htl : t < L.length := (List.getElem?_eq_some_iff.mp hLt).1
  have key := (hK _ _ _ _ hk).2 as cas tys H1 locs1 lsA ⟨wK, hP1, hD1, hS1, zHok_seta wH hL htl, zwT_set wT hL (fun _ _ _ q9 => by cases q9; exact ⟨_, _, rfl⟩)⟩ ha (by rw [hlen]; exact hl) (by rw [hlen]; exact zv_tl (zv_tl (zv_tl hst))) ⟨by rw [hlen]; exact hle.1, by rw [hsl]; exact hle.2⟩
  rw [hlen, hsl] at key
  exact key
end
