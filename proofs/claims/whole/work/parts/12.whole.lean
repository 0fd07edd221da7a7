/-! every run of the small machine is a run of the Java machine -/
section
variable {p : Program} {l : Launch} {e : Env} {R : Room} {s : State} {m : MethodId} {args : Array Value} {below : List Frame} {meth : Method} {c : Code} {Q : State → Prop} {D : va_G} {as0 ea : Nat → Nat} {A : Nat → Prop} {nL : Nat} {L0 : List zS} {cc : ByteArray} {own nm : String} {X Xc : zX} {r : zR} {K : zK} {pc : Nat} {ls : zL} {st : List zV} {L : List zS} {σ : zF} {ret : Option FieldType} {MT : List zMt} {d : Nat} {calls : zCalls}
theorem zpay {y : MethodName} {cy : ByteArray} {n : Nat} {rt : Option FieldType} (hts : ∀ w ∈ zTb, w.before args s = true) (hc : Cond.code y cy n rt ∈ lw_tbl) : ∀ w ∈ (Cond.code y cy n rt :: zTb), ∀ (a' : Array Value) (U : State), s.WarmedH U.vm → w.before a' U = true := by
  refine pay_in hts (fun w hw => ?_)
  rcases List.mem_cons.mp hw with rfl | h
  · exact ⟨zTb_in hc rfl, good_of_word rfl⟩
  · exact ⟨h, good_of_word (List.mem_filter.mp h).2⟩
theorem zarity {y : MethodName} {b : Nat} (h : zparOK y b) : ∀ sig, parseMethodDescriptor y.desc = some sig → b = sig.parameters.length := by
  intro sig hs
  have h2 := h.2.2
  rw [hs] at h2
  exact (Option.some.inj h2).symm
theorem zstk {vs q : List zV} {b : Nat} {ad : Nat → Nat} (h : ztk b [] st = some (vs, q)) : st.map (zc ad) = (vs.map (zc ad)).reverse ++ q.map (zc ad) ∧ (vs.map (zc ad)).length = b := by
  obtain ⟨h1, h2⟩ := ztk_some b [] st vs q h
  rw [List.reverse_nil, List.nil_append] at h1
  rw [← h1, List.map_append, List.map_reverse]
  exact ⟨rfl, by rw [List.length_map, h2]; simp⟩
theorem zstk_ok {vs q : List zV} {b n : Nat} (h : ztk b [] st = some (vs, q)) (hst : ∀ v ∈ st, zvok n v) : (∀ v ∈ vs, zvok n v) ∧ ∀ v ∈ q, zvok n v := by
  obtain ⟨h1, h2⟩ := ztk_some b [] st vs q h
  rw [List.reverse_nil, List.nil_append] at h1
  rw [← h1] at hst
  exact ⟨fun v hv => hst v (List.mem_append_left _ (List.mem_reverse.mpr hv)), fun v hv => hst v (List.mem_append_right _ hv)⟩
theorem zs_virtual (C0 : zCtx p s m args c cc nL own A ea X) (hX : ∀ (j : Nat) (q : Nat × (Nat → Int)), Xc[j]? = some q → X[j]? = some q) (hK : zHyp p l e R s m args below meth c Q D as0 ea A nL L0 K r) (hC : zCallOK l D ea Xc MT d calls) (hm : zCm calls) (hR1 : d + 1 ≤ R.frames) (hR2 : 40 * (d + 1) ≤ R.locals) (hR3 : r.2.1.length - L0.length ≤ R.cells) (hR4 : zslots r.2.1 - zslots L0 ≤ R.slots) {k a b c1 d1 : Nat} (hf : zvirOK MT own k a b d1) (hd : decode cc pc = .ok (.invokevirtual k, 3))
    (h : (match ztk b [] st with
      | some (vs, r) => zR1 r fun o r => bif zcls L o d1 && Nat.ble (zwords r) 8 then zC c1 L (calls a (.inl (some o) :: vs) (L, σ)) fun v σ' => K (pc + 3) ls (v ++ r) (L, σ') else none
      | none => none) = some r) : zG p l e R s m args below meth c Q D as0 ea A nL L0 pc ls st (L, σ) := by
  obtain ⟨y, cy, n, rt, Cd, cuts, T, N, f1, f2, f3, f4, f5, f6, f7⟩ := hf
  obtain ⟨hn21, hcode, hC2⟩ := hC a y cy n rt Cd cuts f1
  obtain ⟨hx, hb, hml, hown, hts, hA, hE, hN⟩ := id C0
  rcases htk : ztk b [] st with _ | ⟨vs, q0⟩
  · rw [htk] at h; cases h
  rw [htk] at h
  obtain ⟨o, q, rfl, h9⟩ := zR1_some h
  obtain ⟨h8, h7⟩ := zbif_some h9
  rw [Bool.and_eq_true] at h8
  obtain ⟨fs, hLo⟩ := zcls_some h8.1
  have hw8 := Nat.le_of_ble_eq_true h8.2
  obtain ⟨v, σ', hcall, hk, hnn⟩ := zC_some h7
  intro as cas tys H locs lsA hw ha hl hst hle
  obtain ⟨hvs, hq0⟩ := zstk_ok htk hst
  obtain ⟨hs1, hs2⟩ := zstk (ad := zad as ea) htk
  obtain ⟨wK, wP, wD, wS, wH, wT⟩ := id hw
  have hz : zad as ea o = as o := zad_lt wH hLo
  have hg := zget_some (as := as) (ea := ea) (cas := cas) (σ := σ) hLo
  have hM := hC2 (.inl (some o) :: vs) L σ v L σ' hcall wH (zv_cons (zv_hd hq0) hvs) as cas tys H.size wT
  have kk := hK _ _ _ _ hk
  have hfit : (L.length - L0.length + (L.length - L.length) ≤ R.cells) ∧ (zslots L - zslots L0 + (zslots L - zslots L) ≤ R.slots) := by
    have h1 := kk.1.1
    have h2 := kk.1.2
    dsimp only at h1 h2
    exact ⟨by omega, by omega⟩
  have hpre : PreV s H y.cls (zad as ea o) (zPc D as ea cas tys L σ Xc (.inl (some o) :: vs) H.size) (vs.map (zc (zad as ea))) :=
    ⟨zPc_blind, by rw [hz]; exact va_recv (q := (y.cls, T, N)) wK wP f2 hg, fun U hU hW => zgive C0 hX hw (.inl (some o) :: vs) U hU hW⟩
  have hroom := lv_room (m := m) (pc := pc) (ls := lsA) (rest := []) (st := q.map (zc (zad as ea))) (by rw [zwords_eq]; exact hw8)
  have hrm : (zroom d (L.length - L.length) (zslots L - zslots L)).frames + 1 ≤ R.frames ∧ 8 + (n + 11) + (zroom d (L.length - L.length) (zslots L - zslots L)).locals ≤ R.locals := ⟨hR1, by show 8 + (n + 11) + 40 * d ≤ _; omega⟩
  have hrun : va_Run p l e R s m args below meth c H locs (L.length - L0.length) (zslots L - zslots L0) (L.length - L.length) (zslots L - zslots L) (F0 m pc lsA (st.map (zc (zad as ea)))) (q.map (zc (zad as ea))) (zQ D as ea L L σ' v (va_A (zws as ea cas L σ) H.size) ((.inl (some o) :: vs).map (zc (zad as ea))).toArray) (va_A (zws as ea cas L σ) H.size) := by
    rcases f4 with f4 | ⟨host, f4⟩
    · exact va_runV (C := y.cls) (bytes := cy) (maxL := n) (ret := rt) ⟨hx, hb, hml, hown, hts⟩ hM ⟨⟨rfl, rfl, hrm.1, hrm.2, zpay hts hcode, List.mem_cons_self, hts _ (zTb_in hcode rfl), hts _ (zTb_in f7 rfl), ⟨f3.1, f3.2.1⟩, zarity f3, hts _ (zTb_in f4 rfl)⟩, hts _ (zTb_in f5 rfl), hts _ (zTb_in f6 rfl)⟩ hpre rfl hs2 hl.1 hs1 hroom hd hfit
    · exact va_runVN (C := y.cls) (bytes := cy) (maxL := n) (ret := rt) ⟨hx, hb, hml, hown, hts⟩ hM ⟨⟨⟨rfl, rfl, hrm.1, hrm.2, zpay hts hcode, List.mem_cons_self⟩, hts _ (zTb_in hcode rfl), hts _ (zTb_in f7 rfl), ⟨f3.1, f3.2.1⟩, zarity f3, va_Nw.use rfl (hN.1 _ f4)⟩, hts _ (zTb_in f5 rfl), hts _ (zTb_in f6 rfl)⟩ hpre rfl hs2 hl.1 hs1 hroom hd hfit
  exact zback C0 hw ha hl (zv_tl hq0) hle (zle_rf L) hrun kk.2
theorem zs_static (C0 : zCtx p s m args c cc nL own A ea X) (hX : ∀ (j : Nat) (q : Nat × (Nat → Int)), Xc[j]? = some q → X[j]? = some q) (hK : zHyp p l e R s m args below meth c Q D as0 ea A nL L0 K r) (hC : zCallOK l D ea Xc MT d calls) (hm : zCm calls) (hR1 : d + 1 ≤ R.frames) (hR2 : 40 * (d + 1) ≤ R.locals) (hR3 : r.2.1.length - L0.length ≤ R.cells) (hR4 : zslots r.2.1 - zslots L0 ≤ R.slots) {k a b c1 : Nat} (hf : zsttOK MT own k a b) (hd : decode cc pc = .ok (.invokestatic k, 3))
    (h : (match ztk b [] st with
      | some (vs, r) => bif Nat.ble (zwords r) 8 then zC c1 L (calls a vs (L, σ)) fun v σ' => K (pc + 3) ls (v ++ r) (L, σ') else none
      | none => none) = some r) : zG p l e R s m args below meth c Q D as0 ea A nL L0 pc ls st (L, σ) := by
  obtain ⟨y, cy, n, rt, Cd, cuts, f1, f3, f4, f5, f7⟩ := hf
  obtain ⟨hn21, hcode, hC2⟩ := hC a y cy n rt Cd cuts f1
  obtain ⟨hx, hb, hml, hown, hts, hA, hE, hN⟩ := id C0
  rcases htk : ztk b [] st with _ | ⟨vs, q⟩
  · rw [htk] at h; cases h
  rw [htk] at h
  obtain ⟨h8, h7⟩ := zbif_some h
  have hw8 := Nat.le_of_ble_eq_true h8
  obtain ⟨v, σ', hcall, hk, hnn⟩ := zC_some h7
  intro as cas tys H locs lsA hw ha hl hst hle
  obtain ⟨hvs, hq0⟩ := zstk_ok htk hst
  obtain ⟨hs1, hs2⟩ := zstk (ad := zad as ea) htk
  obtain ⟨wK, wP, wD, wS, wH, wT⟩ := id hw
  have hM := hC2 vs L σ v L σ' hcall wH hvs as cas tys H.size wT
  have kk := hK _ _ _ _ hk
  have hfit : (L.length - L0.length + (L.length - L.length) ≤ R.cells) ∧ (zslots L - zslots L0 + (zslots L - zslots L) ≤ R.slots) := by
    have h1 := kk.1.1
    have h2 := kk.1.2
    dsimp only at h1 h2
    exact ⟨by omega, by omega⟩
  have hpre : PreS s H (zPc D as ea cas tys L σ Xc vs H.size) (vs.map (zc (zad as ea))) :=
    ⟨zPc_blind, fun U hU hW => zgive C0 hX hw vs U hU hW⟩
  have hroom := lv_room (m := m) (pc := pc) (ls := lsA) (rest := []) (st := q.map (zc (zad as ea))) (by rw [zwords_eq]; exact hw8)
  have hrm : (zroom d (L.length - L.length) (zslots L - zslots L)).frames + 1 ≤ R.frames ∧ 8 + (n + 11) + (zroom d (L.length - L.length) (zslots L - zslots L)).locals ≤ R.locals := ⟨hR1, by show 8 + (n + 11) + 40 * d ≤ _; omega⟩
  have hrun : va_Run p l e R s m args below meth c H locs (L.length - L0.length) (zslots L - zslots L0) (L.length - L.length) (zslots L - zslots L) (F0 m pc lsA (st.map (zc (zad as ea)))) (q.map (zc (zad as ea))) (zQ D as ea L L σ' v (va_A (zws as ea cas L σ) H.size) (vs.map (zc (zad as ea))).toArray) (va_A (zws as ea cas L σ) H.size) := by
    rcases f4 with f4 | ⟨host, f4⟩
    · exact va_runS (bytes := cy) (maxL := n) (ret := rt) ⟨hx, hb, hml, hown, hts⟩ hM ⟨⟨rfl, rfl, hrm.1, hrm.2, zpay hts hcode, List.mem_cons_self, hts _ (zTb_in hcode rfl), hts _ (zTb_in f7 rfl), ⟨f3.1, f3.2.1⟩, zarity f3, hts _ (zTb_in f4 rfl)⟩, hts _ (zTb_in f5 rfl)⟩ hpre rfl hs2 hl.1 hs1 hroom hd hfit
    · exact va_runSN (bytes := cy) (maxL := n) (ret := rt) ⟨hx, hb, hml, hown, hts⟩ hM ⟨⟨⟨rfl, rfl, hrm.1, hrm.2, zpay hts hcode, List.mem_cons_self⟩, hts _ (zTb_in hcode rfl), hts _ (zTb_in f7 rfl), ⟨f3.1, f3.2.1⟩, zarity f3, va_Nw.use rfl (hN.1 _ f4)⟩, hts _ (zTb_in f5 rfl), trivial⟩ hpre rfl hs2 hl.1 hs1 hroom hd hfit
  exact zback C0 hw ha hl hq0 hle (zle_rf L) hrun kk.2
theorem zs_special (C0 : zCtx p s m args c cc nL own A ea X) (hX : ∀ (j : Nat) (q : Nat × (Nat → Int)), Xc[j]? = some q → X[j]? = some q) (hK : zHyp p l e R s m args below meth c Q D as0 ea A nL L0 K r) (hC : zCallOK l D ea Xc MT d calls) (hm : zCm calls) (hR1 : d + 1 ≤ R.frames) (hR2 : 40 * (d + 1) ≤ R.locals) (hR3 : r.2.1.length - L0.length ≤ R.cells) (hR4 : zslots r.2.1 - zslots L0 ≤ R.slots) {k a b d1 : Nat} (hf : ziniOK MT own k a b d1) (hd : decode cc pc = .ok (.invokespecial k, 3))
    (h : (match ztk b [] st with
      | some (vs, r) => zR1 r fun o r => bif zcls L o d1 && Nat.ble (zwords r) 8 then zCN (calls a (.inl (some o) :: vs) (L, σ)) fun h => K (pc + 3) ls r h else none
      | none => none) = some r) : zG p l e R s m args below meth c Q D as0 ea A nL L0 pc ls st (L, σ) := by
  obtain ⟨y, cy, n, Cd, cuts, T, N, f1, f2, f3, f4, f5, f7, f8⟩ := hf
  obtain ⟨hn21, hcode, hC2⟩ := hC a y cy n none Cd cuts f1
  obtain ⟨hx, hb, hml, hown, hts, hA, hE, hN⟩ := id C0
  rcases htk : ztk b [] st with _ | ⟨vs, q0⟩
  · rw [htk] at h; cases h
  rw [htk] at h
  obtain ⟨o, q, rfl, h9⟩ := zR1_some h
  obtain ⟨h8, h7⟩ := zbif_some h9
  rw [Bool.and_eq_true] at h8
  have hw8 := Nat.le_of_ble_eq_true h8.2
  obtain ⟨⟨L', σ'⟩, hcall, hk⟩ := zCN_some h7
  intro as cas tys H locs lsA hw ha hl hst hle
  obtain ⟨hvs, hq0⟩ := zstk_ok htk hst
  obtain ⟨hs1, hs2⟩ := zstk (ad := zad as ea) htk
  obtain ⟨wK, wP, wD, wS, wH, wT⟩ := id hw
  have hM := hC2 (.inl (some o) :: vs) L σ none L' σ' hcall wH (zv_cons (zv_hd hq0) hvs) as cas tys H.size wT
  have kk := hK _ _ _ _ hk
  have hle2 : zle L L' := hm _ _ _ _ hcall
  have hfit : (L.length - L0.length + (L'.length - L.length) ≤ R.cells) ∧ (zslots L - zslots L0 + (zslots L' - zslots L) ≤ R.slots) := by
    have h1 := kk.1.1
    have h2 := kk.1.2
    have h3 := hle.1
    have h4 := hle.2
    have h5 := hle2.1
    have h6 := hle2.2
    dsimp only at h1 h2 h3 h4
    exact ⟨by omega, by omega⟩
  have hpre : PreS s H (zPc D as ea cas tys L σ Xc (.inl (some o) :: vs) H.size) (.ref (zad as ea o) :: vs.map (zc (zad as ea))) :=
    ⟨zPc_blind, fun U hU hW => zgive C0 hX hw (.inl (some o) :: vs) U hU hW⟩
  have hroom := lv_room (m := m) (pc := pc) (ls := lsA) (rest := []) (st := q.map (zc (zad as ea))) (by rw [zwords_eq]; exact hw8)
  have hrm : (zroom d (L'.length - L.length) (zslots L' - zslots L)).frames + 1 ≤ R.frames ∧ 8 + (n + 11) + (zroom d (L'.length - L.length) (zslots L' - zslots L)).locals ≤ R.locals := ⟨hR1, by show 8 + (n + 11) + 40 * d ≤ _; omega⟩
  have hrun : va_Run p l e R s m args below meth c H locs (L.length - L0.length) (zslots L - zslots L0) (L'.length - L.length) (zslots L' - zslots L) (F0 m pc lsA (st.map (zc (zad as ea)))) (q.map (zc (zad as ea))) (zQ D as ea L L' σ' none (va_A (zws as ea cas L σ) H.size) ((.inl (some o) :: vs).map (zc (zad as ea))).toArray) (va_A (zws as ea cas L σ) H.size) := by
    rcases f4 with f4 | ⟨host, f4⟩
    · exact va_runI (bytes := cy) (maxL := n) ⟨hx, hb, hml, hown, hts⟩ hM ⟨⟨rfl, rfl, hrm.1, hrm.2, zpay hts hcode, List.mem_cons_self, hts _ (zTb_in hcode rfl), hts _ (zTb_in f7 rfl), ⟨f3.1, f3.2.1⟩, zarity f3, hts _ (zTb_in f4 rfl)⟩, f8, hts _ (zTb_in f5 rfl)⟩ hpre rfl hs2 hl.1 hs1 hroom hd hfit
    · exact va_runIN (bytes := cy) (maxL := n) ⟨hx, hb, hml, hown, hts⟩ hM ⟨⟨⟨rfl, rfl, hrm.1, hrm.2, zpay hts hcode, List.mem_cons_self⟩, hts _ (zTb_in hcode rfl), hts _ (zTb_in f7 rfl), ⟨f3.1, f3.2.1⟩, zarity f3, va_Nw.use rfl (hN.1 _ f4)⟩, f8, hts _ (zTb_in f5 rfl)⟩ hpre rfl hs2 hl.1 hs1 hroom hd hfit
  exact zback C0 hw ha hl (zv_tl hq0) hle hle2 hrun kk.2
set_option maxHeartbeats 4000000 in
theorem zgo_sound (C0 : zCtx p s m args c cc nL own A ea X) (hin : nm = "<init>" → meth.name = "<init>") (hX : ∀ (j : Nat) (q : Nat × (Nat → Int)), Xc[j]? = some q → X[j]? = some q) (hK : zHyp p l e R s m args below meth c Q D as0 ea A nL L0 K r) (hret : zRet p l e R s m args below meth c Q D as0 ea A cc ret L0 r) (hC : zCallOK l D ea Xc MT d calls) (hm : zCm calls) (hR1 : d + 1 ≤ R.frames) (hR2 : 40 * (d + 1) ≤ R.locals) (hR3 : r.2.1.length - L0.length ≤ R.cells) (hR4 : zslots r.2.1 - zslots L0 ≤ R.slots)
    (i : Instr) (len a b c1 d1 : Nat) (tab : List (Int × Nat)) (hd : decode cc pc = .ok (i, len)) (hlk : zlk MT own nm nL ret pc (i, len, a, b, c1, d1, tab)) (h : zgo X calls K i len a b c1 d1 tab pc ls st L σ = some r) : zG p l e R s m args below meth c Q D as0 ea A nL L0 pc ls st (L, σ) := by
  have g1 : 1 ≤ R.frames := by omega
  have g2 : 40 ≤ R.locals := by omega
  cases i
  case iload => obtain ⟨rfl, rfl⟩ := hlk; exact zs_iload C0 hK hd h
  case iload_n => obtain ⟨q, rfl⟩ := hlk; exact zs_iload_n C0 hK q hd h
  case lload => obtain ⟨rfl, rfl⟩ := hlk; exact zs_lload C0 hK hd h
  case lload_n => obtain ⟨q, rfl⟩ := hlk; exact zs_lload_n C0 hK q hd h
  case aload => obtain ⟨rfl, rfl⟩ := hlk; exact zs_aload C0 hK hd h
  case aload_n => obtain ⟨q, rfl⟩ := hlk; exact zs_aload_n C0 hK q hd h
  case istore => obtain ⟨rfl, rfl, q⟩ := hlk; exact zs_istore C0 hK q hd h
  case istore_n => obtain ⟨q, rfl, q2⟩ := hlk; exact zs_istore_n C0 hK q q2 hd h
  case lstore => obtain ⟨rfl, rfl, q⟩ := hlk; exact zs_lstore C0 hK q hd h
  case lstore_n => obtain ⟨q, rfl, q2⟩ := hlk; exact zs_lstore_n C0 hK q q2 hd h
  case astore => obtain ⟨rfl, rfl, q⟩ := hlk; exact zs_astore C0 hK q hd h
  case astore_n => obtain ⟨q, rfl, q2⟩ := hlk; exact zs_astore_n C0 hK q q2 hd h
  case iinc => obtain ⟨rfl, rfl, q, q2⟩ := hlk; exact zs_iinc C0 hK q q2 hd h
  case iconst => obtain ⟨rfl, q⟩ := hlk; exact zs_iconst C0 hK q hd h
  case bipush => obtain ⟨rfl, q⟩ := hlk; exact zs_bipush C0 hK q hd h
  case sipush => obtain ⟨rfl, q⟩ := hlk; exact zs_sipush C0 hK q hd h
  case ldc => obtain ⟨rfl, q⟩ := hlk; exact zs_ldc C0 hK q hd h
  case ldc_w => obtain ⟨rfl, q⟩ := hlk; exact zs_ldc_w C0 hK q hd h
  case lconst => obtain ⟨rfl, q⟩ := hlk; exact zs_lconst C0 hK q hd h
  case ldc2_w => obtain ⟨rfl, q⟩ := hlk; exact zs_ldc2_w C0 hK q hd h
  case iadd => cases hlk; exact zs_iadd C0 hK hd h
  case isub => cases hlk; exact zs_isub C0 hK hd h
  case imul => cases hlk; exact zs_imul C0 hK hd h
  case idiv => cases hlk; exact zs_idiv C0 hK hd h
  case irem => cases hlk; exact zs_irem C0 hK hd h
  case ineg => cases hlk; exact zs_ineg C0 hK hd h
  case iand => cases hlk; exact zs_iand C0 hK hd h
  case ior => cases hlk; exact zs_ior C0 hK hd h
  case ixor => cases hlk; exact zs_ixor C0 hK hd h
  case ishl => cases hlk; exact zs_ishl C0 hK hd h
  case ishr => cases hlk; exact zs_ishr C0 hK hd h
  case iushr => cases hlk; exact zs_iushr C0 hK hd h
  case ladd => cases hlk; exact zs_ladd C0 hK hd h
  case lmul => cases hlk; exact zs_lmul C0 hK hd h
  case land => cases hlk; exact zs_land C0 hK hd h
  case lor => cases hlk; exact zs_lor C0 hK hd h
  case lshl => cases hlk; exact zs_lshl C0 hK hd h
  case i2l => cases hlk; exact zs_i2l C0 hK hd h
  case l2i => cases hlk; exact zs_l2i C0 hK hd h
  case i2b => cases hlk; exact zs_i2b C0 hK hd h
  case i2s => cases hlk; exact zs_i2s C0 hK hd h
  case lcmp => cases hlk; exact zs_lcmp C0 hK hd h
  case dup => cases hlk; exact zs_dup C0 hK hd h
  case pop => cases hlk; exact zs_pop C0 hK hd h
  case dup_x1 => cases hlk; exact zs_dup_x1 C0 hK hd h
  case dup2 => cases hlk; exact zs_dup2 C0 hK hd h
  case goto => obtain ⟨rfl, q⟩ := hlk; exact zs_goto C0 hK q hd h
  case if_icmp => obtain ⟨rfl, q⟩ := hlk; exact zs_icmp C0 hK q hd h
  case ifCond => obtain ⟨rfl, q⟩ := hlk; exact zs_ifc C0 hK q hd h
  case tableswitch => obtain ⟨q1, q2, q3⟩ := hlk; exact zs_table C0 hK q1 q2 q3 hd h
  case lookupswitch => obtain ⟨q1, q2, q3⟩ := hlk; exact zs_lookup C0 hK q1 q2 q3 hd h
  case getfield => obtain ⟨rfl, q⟩ := hlk; exact zs_getfield C0 hK q hd h
  case putfield => obtain ⟨rfl, q⟩ := hlk; exact zs_putfield C0 hK hin q hd h
  case getstatic => obtain ⟨rfl, q, q2⟩ := hlk; exact zs_getstatic C0 hK q q2 hd h
  case iaload => cases hlk; exact zs_iaload C0 hK hd h
  case iastore => cases hlk; exact zs_iastore C0 hK hd h
  case laload => cases hlk; exact zs_laload C0 hK hd h
  case lastore => cases hlk; exact zs_lastore C0 hK hd h
  case aaload => cases hlk; exact zs_aaload C0 hK hd h
  case aastore => cases hlk; exact zs_aastore C0 hK hd h
  case arraylength => cases hlk; exact zs_arraylength C0 hK hd h
  case newarray => obtain ⟨rfl, q⟩ := hlk; exact zs_newarray C0 hK hR3 hR4 q hd h
  case anewarray => obtain ⟨rfl, q⟩ := hlk; exact zs_anewarray C0 hK hR3 hR4 q hd h
  case new => obtain ⟨rfl, q⟩ := hlk; exact zs_new C0 hK hR3 hR4 q hd h
  case invokevirtual => obtain ⟨rfl, q⟩ := hlk; exact zs_virtual C0 hX hK hC hm hR1 hR2 hR3 hR4 q hd h
  case invokestatic =>
    obtain ⟨rfl, q⟩ := hlk
    unfold zgo at h
    dsimp only at h
    split at h
    · exact zs_max C0 hK g1 g2 hR3 hR4 q hd h
    · exact zs_min C0 hK g1 g2 hR3 hR4 q hd h
    · exact zs_arc C0 hK g1 g2 q hd h
    · next n1 n2 n3 =>
      refine zs_static C0 hX hK hC hm hR1 hR2 hR3 hR4 (a := a) (b := b) (c1 := c1) ?_ hd h
      split at q
      · exact absurd rfl n1
      · exact absurd rfl n2
      · exact absurd rfl n3
      · exact q
  case invokespecial =>
    obtain ⟨rfl, q⟩ := hlk
    unfold zgo at h
    dsimp only at h
    split at h
    · exact zs_init0 C0 hK g1 g2 q hd h
    · next n1 =>
      refine zs_special C0 hX hK hC hm hR1 hR2 hR3 hR4 (a := a) (b := b) (d1 := d1) ?_ hd h
      split at q
      · exact absurd rfl n1
      · exact q
  case ireturn =>
    obtain ⟨rfl, q⟩ := hlk
    unfold zgo at h
    dsimp only at h
    split at h
    · next x =>
      have hr : r = (some (.inr (.inl x)), (L, σ)) ∧ zrt ret .ireturn (some (.inr (.inl x))) := by
        rcases q with ⟨rfl, q⟩ | ⟨rfl, q⟩
        · exact ⟨(Option.some.inj h).symm, rfl, Or.inl q⟩
        · obtain ⟨h1, h2⟩ := zite_none (show (if x = 0 ∨ x = 1 then some (some (.inr (.inl x)), (L, σ)) else none) = some r from h)
          exact ⟨(Option.some.inj h2).symm, rfl, Or.inr ⟨q, h1⟩⟩
      obtain ⟨rfl, hz⟩ := hr
      intro as cas tys H locs lsA hw ha hl hst hle
      exact hret as cas tys H locs lsA pc .ireturn hw ha (fun v hv => by cases hv; exact zv_hd hst) hle hd hz
    · cases h
  case lreturn =>
    obtain ⟨rfl, q⟩ := hlk
    unfold zgo at h
    dsimp only at h
    split at h
    · next x =>
      cases h
      intro as cas tys H locs lsA hw ha hl hst hle
      exact hret as cas tys H locs lsA pc .lreturn hw ha (fun v hv => by cases hv; exact zv_hd hst) hle hd ⟨rfl, q⟩
    · cases h
  case areturn =>
    obtain ⟨rfl, q⟩ := hlk
    unfold zgo at h
    dsimp only at h
    split at h
    · next x =>
      cases h
      intro as cas tys H locs lsA hw ha hl hst hle
      exact hret as cas tys H locs lsA pc .areturn hw ha (fun v hv => by cases hv; exact zv_hd hst) hle hd ⟨rfl, q⟩
    · cases h
  case return_ =>
    obtain ⟨rfl, q⟩ := hlk
    unfold zgo at h
    dsimp only at h
    split at h
    · cases h
      intro as cas tys H locs lsA hw ha hl hst hle
      exact hret as cas tys H locs lsA pc .return_ hw ha (fun v hv => by cases hv) hle hd ⟨rfl, q⟩
    · cases h
  all_goals cases h
end
