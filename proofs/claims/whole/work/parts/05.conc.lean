/-! what the small machine's state is in the heap -/
def zad (as ea : Nat → Nat) (k : Nat) : Nat := if k < 1000 then as k else ea (k - 1000)
def zc (ad : Nat → Nat) : zV → Value
  | .inl none => .null
  | .inl (some k) => .ref (ad k)
  | .inr (.inl i) => .int (Int32.ofInt i)
  | .inr (.inr l) => .long (Int64.ofInt l)
def zfv (ad : Nat → Nat) (f : Int → Int) (j : Nat) (o : Option (Option Nat)) : Value := match o with
  | none => .int (Int32.ofInt (f j))
  | some r => va_rf (r.map ad)
def zcell (ad : Nat → Nat) (ca : ClassId) (f : Int → Int) (s : zS) : va_E := match s with
  | .inl (0, n, _) => .inl (ca, n, .inl (fun j => Int32.ofInt (f j)))
  | .inl (1, n, _) => .inl (ca, n, .inr (.inl (fun j => Int64.ofInt (f j))))
  | .inl (_ + 2, n, ts) => .inl (ca, n, .inr (.inr (.inr (.inr (fun j => (ts.getD j none).map ad)))))
  | .inr (c, fs) => .inr (c, fs.mapIdx (zfv ad f))
def zws (as ea : Nat → Nat) (cas : Nat → ClassId) (L : List zS) (σ : zF) : va_W := L.mapIdx (fun k s => (as k, zcell (zad as ea) (cas k) (σ k) s))
def zty : Nat → FieldType
  | 0 => .int
  | 1 => .long
  | _ => .object RX7
def zsok (n : Nat) (s : zS) : Prop := match s with
  | .inl (tag, len, ts) => tag < 3 ∧ len ≤ 1000 ∧ (∀ t, some t ∈ ts → t < n) ∧ (tag = 2 → ts.length = len)
  | .inr (c, fs) => (∀ t, some (some t) ∈ fs → t < n) ∧ ∃ q, vwCl[c]? = some q ∧ q.2.2 = fs.length
def znum (s : zS) (f : Int → Int) : Prop := match s with
  | .inl (1, _, _) => ∀ i, zinl (f i)
  | _ => ∀ i, zin (f i)
def zHok (L : List zS) (σ : zF) : Prop := (∀ k s, L[k]? = some s → zsok L.length s ∧ znum s (σ k)) ∧ L.length ≤ 1000
def zvok (n : Nat) : zV → Prop
  | .inl none => False
  | .inl (some k) => k < n ∨ 1000 ≤ k
  | .inr (.inl i) => zin i
  | .inr (.inr i) => zinl i
def zWd (D : va_G) (as ea : Nat → Nat) (cas : Nat → ClassId) (tys : List (ClassId × FieldType)) (A : Nat → Prop) (s : State) (H : Heap) (locs : List Loc) (L : List zS) (σ : zF) : Prop :=
  va_K D vwCl tys s ∧ va_P D vwCl (zws as ea cas L σ) H ∧ va_D A (zws as ea cas L σ) ∧ va_S A s.heap H locs ∧ zHok L σ ∧ ∀ (k tag n : Nat) (ts : List (Option Nat)), L[k]? = some (.inl (tag, n, ts)) → ∃ t0 : Nat, tys[t0]? = some (cas k, zty tag)
def zLc (ad : Nat → Nat) (n : Nat) (lsA : Array Slot) (nL : Nat) (ls : zL) : Prop := lsA.size = nL ∧ lv_wf lsA ∧ ∀ (j : Nat) (v : zV), ls[j]? = some (some v) → lsA[j]? = some (Slot.val (zc ad v)) ∧ zvok n v
theorem zws_get (as ea : Nat → Nat) (cas : Nat → ClassId) (L : List zS) (σ : zF) (k : Nat) : (zws as ea cas L σ)[k]? = (L[k]?).map (fun s => (as k, zcell (zad as ea) (cas k) (σ k) s)) := List.getElem?_mapIdx
theorem zws_len (as ea : Nat → Nat) (cas : Nat → ClassId) (L : List zS) (σ : zF) : (zws as ea cas L σ).length = L.length := List.length_mapIdx
theorem zws_set {as ea : Nat → Nat} {cas : Nat → ClassId} {L : List zS} {σ σ' : zF} {k : Nat} {s s' : zS} {e : va_E} (h : L[k]? = some s) (ho : ∀ j, j ≠ k → σ' j = σ j) (he : zcell (zad as ea) (cas k) (σ' k) s' = e) : (zws as ea cas L σ).set k (as k, e) = zws as ea cas (L.set k s') σ' := by
  apply List.ext_getElem?
  intro j
  rw [zws_get, List.getElem?_set, List.getElem?_set, zws_len, zws_get]
  have hk : k < L.length := (List.getElem?_eq_some_iff.mp h).1
  by_cases hj : k = j
  · subst hj
    simp [hk, he]
  · rw [if_neg hj, if_neg hj, ho j (fun q => hj q.symm)]
theorem zvok_mono {n n' : Nat} {v : zV} (hn : n ≤ n') (h : zvok n v) : zvok n' v := by
  rcases v with (_ | k) | i | i
  · exact h
  · rcases h with h | h
    · exact Or.inl (Nat.lt_of_lt_of_le h hn)
    · exact Or.inr h
  · exact h
  · exact h
theorem zsok_mono {n n' : Nat} {s : zS} (hn : n ≤ n') (h : zsok n s) : zsok n' s := by
  rcases s with ⟨tag, len, ts⟩ | ⟨c, fs⟩
  · exact ⟨h.1, h.2.1, fun t ht => Nat.lt_of_lt_of_le (h.2.2.1 t ht) hn, h.2.2.2⟩
  · exact ⟨fun t ht => Nat.lt_of_lt_of_le (h.1 t ht) hn, h.2⟩
theorem zcell_congr {ad ad' : Nat → Nat} {n : Nat} {s : zS} (hs : zsok n s) (h : ∀ t, t < n → ad t = ad' t) (ca : ClassId) (f : Int → Int) : zcell ad ca f s = zcell ad' ca f s := by
  rcases s with ⟨tag, len, ts⟩ | ⟨c, fs⟩
  · rcases tag with _ | _ | tag
    · rfl
    · rfl
    · show (Sum.inl (ca, len, Sum.inr (Sum.inr (Sum.inr (Sum.inr _)))) : va_E) = Sum.inl (ca, len, Sum.inr (Sum.inr (Sum.inr (Sum.inr _))))
      congr 7
      funext j
      rcases hj : ts[j]? with _ | _ | t
      · simp [List.getD, hj]
      · simp [List.getD, hj]
      · have := h t (hs.2.2.1 t (List.mem_of_getElem? hj))
        simp [List.getD, hj, this]
  · show (Sum.inr (c, _) : va_E) = Sum.inr (c, _)
    congr 2
    apply List.ext_getElem?
    intro j
    rw [List.getElem?_mapIdx, List.getElem?_mapIdx]
    rcases hj : fs[j]? with _ | _ | _ | t
    · rfl
    · rfl
    · rfl
    · have := h t (hs.1 t (List.mem_of_getElem? hj))
      simp [zfv, this]
theorem zc_congr {ad ad' : Nat → Nat} {n : Nat} {v : zV} (hs : zvok n v) (h : ∀ t, t < n ∨ 1000 ≤ t → ad t = ad' t) : zc ad v = zc ad' v := by
  rcases v with (_ | k) | i | i
  · rfl
  · show Value.ref (ad k) = Value.ref (ad' k)
    rw [h k hs]
  · rfl
  · rfl
def zup (as : Nat → Nat) (n q : Nat) : Nat → Nat := fun k => if k = n then q else as k
theorem zup_lt {as : Nat → Nat} {n q k : Nat} (h : k < n) : zup as n q k = as k := by unfold zup; rw [if_neg (by omega)]
theorem zup_at {as : Nat → Nat} {n q : Nat} : zup as n q n = q := by unfold zup; rw [if_pos rfl]
theorem zad_up {as ea : Nat → Nat} {n q t : Nat} (hn : n < 1000) (h : t < n ∨ 1000 ≤ t) : zad (zup as n q) ea t = zad as ea t := by
  unfold zad
  split
  · exact zup_lt (by omega)
  · rfl
theorem zws_app {as ea : Nat → Nat} {cas cas' : Nat → ClassId} {L : List zS} {σ σ' : zF} {q : Nat} {s : zS} (hL : L.length < 1000) (hok : zHok L σ) (hc : ∀ k, k < L.length → cas' k = cas k) (hσ : ∀ k, k < L.length → σ' k = σ k) :
    zws (zup as L.length q) ea cas' (L ++ [s]) σ' = zws as ea cas L σ ++ [(q, zcell (zad (zup as L.length q) ea) (cas' L.length) (σ' L.length) s)] := by
  apply List.ext_getElem?
  intro j
  rw [zws_get, List.getElem?_append, List.getElem?_append, zws_len, zws_get]
  by_cases hj : j < L.length
  · rw [if_pos hj, if_pos hj]
    rcases hs : L[j]? with _ | x
    · rfl
    · show some _ = some _
      dsimp only
      rw [zup_lt hj, hc j hj, hσ j hj, zcell_congr (ad := zad (zup as L.length q) ea) (ad' := zad as ea) (hok.1 j x hs).1 (fun t ht => zad_up hL (Or.inl ht))]
  · rw [if_neg hj, if_neg hj]
    rcases hd : j - L.length with _ | d
    · have : j = L.length := by omega
      subst this
      simp [zup_at]
    · simp
def zpairs (ad : Nat → Nat) (ls : zL) : List (Nat × Value) := (List.range ls.length).filterMap (fun j => match ls[j]? with
  | some (some v) => some (j, zc ad v)
  | _ => none)
theorem zpairs_mem {ad : Nat → Nat} {ls : zL} {q : Nat × Value} : q ∈ zpairs ad ls ↔ ∃ v, ls[q.1]? = some (some v) ∧ q.2 = zc ad v := by
  unfold zpairs
  rw [List.mem_filterMap]
  constructor
  · rintro ⟨j, hj, e⟩
    rcases hl : ls[j]? with _ | _ | v
    · rw [hl] at e; cases e
    · rw [hl] at e; cases e
    · rw [hl] at e
      cases e
      exact ⟨v, hl, rfl⟩
  · rintro ⟨v, h1, h2⟩
    refine ⟨q.1, List.mem_range.mpr (List.getElem?_eq_some_iff.mp h1).1, ?_⟩
    rw [h1]
    show some (q.1, zc ad v) = some q
    rw [← h2]
theorem zLc.has {ad : Nat → Nat} {n : Nat} {lsA : Array Slot} {nL : Nat} {ls : zL} (h : zLc ad n lsA nL ls) : lv_has lsA nL (zpairs ad ls) := by
  refine ⟨h.1, h.2.1, fun q hq => ?_⟩
  obtain ⟨v, h1, h2⟩ := zpairs_mem.mp hq
  rw [h2]
  exact (h.2.2 _ _ h1).1
theorem zLc.at {ad : Nat → Nat} {n : Nat} {lsA : Array Slot} {nL : Nat} {ls : zL} (h : zLc ad n lsA nL ls) {j : Nat} {v : zV} (e : ls[j]? = some (some v)) : lsA[j]? = some (.val (zc ad v)) := (h.2.2 j v e).1
theorem zc_cat (ad : Nat → Nat) (v : zV) : (zc ad v).category = zcat v := by
  rcases v with (_ | k) | i | i <;> rfl
theorem zunl_get {ls : zL} {a j : Nat} {v : zV} (h : (zunl ls a)[j]? = some (some v)) : ls[j]? = some (some v) ∧ ¬ (j + 1 = a ∧ zcat v = 2) := by
  rcases a with _ | a
  · exact ⟨h, by omega⟩
  · unfold zunl at h
    dsimp only at h
    split at h
    · next x hx =>
      rw [List.getElem?_set] at h
      split at h
      · split at h <;> cases h
      · next hne => exact ⟨h, by omega⟩
    · next hx =>
      refine ⟨h, ?_⟩
      rintro ⟨e1, e2⟩
      have e3 : j = a := by omega
      subst e3
      rcases v with (_ | k) | i | i
      · exact absurd e2 (by decide)
      · cases e2
      · cases e2
      · exact hx i h
theorem zLc_st1 {ad : Nat → Nat} {n : Nat} {lsA ls' : Array Slot} {nL : Nat} {ls : zL} {a : Nat} {v : zV} (h : zLc ad n lsA nL ls) (hv : zvok n v) (h' : lv_has ls' nL ((a, zc ad v) :: (zpairs ad ls).filter (fun q => !(q.1 == a) && !(q.1 + 1 == a && q.2.category == 2)))) : zLc ad n ls' nL (zst1 ls a v) := by
  refine ⟨h'.1, h'.2.1, fun j w hj => ?_⟩
  unfold zst1 at hj
  rw [List.getElem?_set] at hj
  split at hj
  · next e =>
    split at hj
    · cases hj
      subst e
      exact ⟨h'.2.2 _ List.mem_cons_self, hv⟩
    · cases hj
  · next e =>
    obtain ⟨h1, h2⟩ := zunl_get hj
    refine ⟨h'.2.2 (j, zc ad w) (List.mem_cons_of_mem _ (List.mem_filter.mpr ⟨zpairs_mem.mpr ⟨w, h1, rfl⟩, ?_⟩)), (h.2.2 _ _ h1).2⟩
    have hne : ¬ j = a := fun q => e q.symm
    simp only [zc_cat, Bool.and_eq_true, Bool.not_eq_true', beq_eq_false_iff_ne, ne_eq, hne, not_false_eq_true, true_and]
    simp only [Bool.and_eq_false_iff, beq_eq_false_iff_ne, ne_eq]
    by_cases q : j + 1 = a
    · exact Or.inr (fun q2 => h2 ⟨q, q2⟩)
    · exact Or.inl q
theorem zLc_st2 {ad : Nat → Nat} {n : Nat} {lsA ls' : Array Slot} {nL : Nat} {ls : zL} {a : Nat} {v : zV} (h : zLc ad n lsA nL ls) (hv : zvok n v) (h' : lv_has ls' nL ((a, zc ad v) :: (zpairs ad ls).filter (fun q => !(q.1 == a) && (!(q.1 == a + 1) && !(q.1 + 1 == a && q.2.category == 2))))) : zLc ad n ls' nL (zst2 ls a v) := by
  refine ⟨h'.1, h'.2.1, fun j w hj => ?_⟩
  unfold zst2 at hj
  rw [List.getElem?_set] at hj
  split at hj
  · split at hj <;> cases hj
  · next e2 =>
    rw [List.getElem?_set] at hj
    split at hj
    · next e =>
      split at hj
      · cases hj
        subst e
        exact ⟨h'.2.2 _ List.mem_cons_self, hv⟩
      · cases hj
    · next e =>
      obtain ⟨h1, h2⟩ := zunl_get hj
      refine ⟨h'.2.2 (j, zc ad w) (List.mem_cons_of_mem _ (List.mem_filter.mpr ⟨zpairs_mem.mpr ⟨w, h1, rfl⟩, ?_⟩)), (h.2.2 _ _ h1).2⟩
      have hne : ¬ j = a := fun q => e q.symm
      have hne2 : ¬ j = a + 1 := fun q => e2 q.symm
      simp only [zc_cat, Bool.and_eq_true, Bool.not_eq_true', beq_eq_false_iff_ne, ne_eq, hne, hne2, not_false_eq_true, true_and]
      simp only [Bool.and_eq_false_iff, beq_eq_false_iff_ne, ne_eq]
      by_cases q : j + 1 = a
      · exact Or.inr (fun q2 => h2 ⟨q, q2⟩)
      · exact Or.inl q
theorem zmask_get : ∀ (m : List Bool) (ls : zL) (j : Nat) (v : zV), (zmask m ls)[j]? = some (some v) → ls[j]? = some (some v)
  | [], _, _, _, h => by simp [zmask] at h
  | _ :: _, [], _, _, h => by simp [zmask] at h
  | b :: m, x :: ls, 0, v, h => by
    cases b
    · simp [zmask] at h
    · simpa [zmask] using h
  | b :: m, x :: ls, j + 1, v, h => by
    have := zmask_get m ls j v (by simpa [zmask] using h)
    simpa using this
theorem zLc.cut {ad : Nat → Nat} {n : Nat} {lsA : Array Slot} {nL : Nat} {ls : zL} (h : zLc ad n lsA nL ls) (cuts : zCut) (pc : Nat) : zLc ad n lsA nL (zcm cuts pc ls) := by
  refine ⟨h.1, h.2.1, fun j v e => ?_⟩
  unfold zcm at e
  split at e
  · exact h.2.2 j v e
  · exact h.2.2 j v (zmask_get _ _ _ _ e)
theorem zLc.up {as ea : Nat → Nat} {n q : Nat} {lsA : Array Slot} {nL : Nat} {ls : zL} (hn : n < 1000) (h : zLc (zad as ea) n lsA nL ls) : zLc (zad (zup as n q) ea) (n + 1) lsA nL ls := by
  refine ⟨h.1, h.2.1, fun j v e => ?_⟩
  obtain ⟨h1, h2⟩ := h.2.2 j v e
  refine ⟨?_, zvok_mono (Nat.le_succ _) h2⟩
  rw [h1, zc_congr h2 (fun t ht => (zad_up hn ht).symm)]
theorem zc_map_congr {ad ad' : Nat → Nat} {n : Nat} (h : ∀ t, t < n ∨ 1000 ≤ t → ad t = ad' t) : ∀ (st : List zV), (∀ v ∈ st, zvok n v) → st.map (zc ad) = st.map (zc ad')
  | [], _ => rfl
  | v :: r, hv => by
    rw [List.map_cons, List.map_cons, zc_congr (hv v List.mem_cons_self) h, zc_map_congr h r (fun w hw => hv w (List.mem_cons_of_mem _ hw))]
theorem zwords_eq (ad : Nat → Nat) : ∀ (st : List zV), ((st.map (zc ad)).map fun v => v.category).sum = zwords st
  | [] => rfl
  | v :: r => by
    simp only [List.map_cons, List.sum_cons, zwords, zc_cat]
    rw [← zwords_eq ad r]
theorem ztk_some : ∀ (n : Nat) (acc st vs r : List zV), ztk n acc st = some (vs, r) → vs.reverse ++ r = acc.reverse ++ st ∧ vs.length = acc.length + n
  | 0, acc, st, vs, r, h => by
    simp only [ztk, Option.some.injEq, Prod.mk.injEq] at h
    obtain ⟨rfl, rfl⟩ := h
    exact ⟨rfl, rfl⟩
  | n + 1, acc, [], vs, r, h => by simp [ztk] at h
  | n + 1, acc, v :: st, vs, r, h => by
    obtain ⟨h1, h2⟩ := ztk_some n (v :: acc) st vs r h
    refine ⟨by rw [h1]; simp, by rw [h2]; simp; omega⟩
theorem zset_o {σ : zF} {k j : Nat} {i v : Int} (h : j ≠ k) : zset σ k i v j = σ j := by
  funext i'
  unfold zset
  rw [if_neg (fun q => h q.1)]
theorem zset_at {σ : zF} {k : Nat} {i v i' : Int} : zset σ k i v k i' = if i' = i then v else σ k i' := by
  unfold zset
  by_cases h : i' = i
  · rw [if_pos h, if_pos ⟨rfl, h⟩]
  · rw [if_neg h, if_neg (fun q => h q.2)]
theorem zHok_set {L : List zS} {σ : zF} {k : Nat} {i v : Int} (h : zHok L σ) (hv : ∀ s, L[k]? = some s → znum s (fun _ => v)) : zHok L (zset σ k i v) := by
  refine ⟨fun j s hs => ⟨(h.1 j s hs).1, ?_⟩, h.2⟩
  have h1 := (h.1 j s hs).2
  by_cases hj : j = k
  · subst hj
    have h2 := hv s hs
    rcases s with ⟨_ | _ | tag, n, ts⟩ | ⟨c, fs⟩
    all_goals
      intro i'
      rw [zset_at]
      split
      · exact h2 0
      · exact h1 i'
  · rw [zset_o hj]
    exact h1
theorem zcell_seti {ad : Nat → Nat} {ca : ClassId} {σ : zF} {k n : Nat} {ts : List (Option Nat)} {i v : Int} (h0 : 0 ≤ i) : zcell ad ca (zset σ k i v k) (.inl (0, n, ts)) = .inl (ca, n, .inl (upd (fun j : Nat => Int32.ofInt (σ k j)) i.toNat (Int32.ofInt v))) := by
  show (Sum.inl (ca, n, Sum.inl _) : va_E) = Sum.inl (ca, n, Sum.inl _)
  congr 4
  funext j
  rw [zset_at]
  unfold upd
  by_cases h : j = i.toNat
  · rw [if_pos h, if_pos (by omega)]
  · rw [if_neg h, if_neg (by omega)]
theorem zcell_setj {ad : Nat → Nat} {ca : ClassId} {σ : zF} {k n : Nat} {ts : List (Option Nat)} {i v : Int} (h0 : 0 ≤ i) : zcell ad ca (zset σ k i v k) (.inl (1, n, ts)) = .inl (ca, n, .inr (.inl (vp_updL (fun j : Nat => Int64.ofInt (σ k j)) i.toNat (Int64.ofInt v)))) := by
  show (Sum.inl (ca, n, Sum.inr (Sum.inl _)) : va_E) = Sum.inl (ca, n, Sum.inr (Sum.inl _))
  congr 5
  funext j
  rw [zset_at]
  unfold vp_updL
  by_cases h : j = i.toNat
  · rw [if_pos h, if_pos (by omega)]
  · rw [if_neg h, if_neg (by omega)]
theorem zcell_setf {ad : Nat → Nat} {ca : ClassId} {σ : zF} {k c b : Nat} {fs : List (Option (Option Nat))} {v : Int} (hb : fs[b]? = some none) : zcell ad ca (zset σ k b v k) (.inr (c, fs)) = .inr (c, (fs.mapIdx (zfv ad (σ k))).set b (.int (Int32.ofInt v))) := by
  show (Sum.inr (c, _) : va_E) = Sum.inr (c, _)
  congr 2
  apply List.ext_getElem?
  intro j
  rw [List.getElem?_mapIdx, List.getElem?_set, List.getElem?_mapIdx, List.length_mapIdx]
  have hl := (List.getElem?_eq_some_iff.mp hb).1
  by_cases h : b = j
  · subst h
    rw [if_pos rfl, if_pos hl, hb]
    show some (Value.int _) = _
    rw [zset_at, if_pos rfl]
  · rw [if_neg h]
    rcases fs[j]? with _ | _ | o
    · rfl
    · show some (Value.int _) = some (Value.int _)
      rw [zset_at, if_neg (by omega)]
    · rfl
theorem zcell_setr {ad : Nat → Nat} {ca : ClassId} {f : Int → Int} {c b t : Nat} {fs : List (Option (Option Nat))} (hl : b < fs.length) : zcell ad ca f (.inr (c, fs.set b (some (some t)))) = .inr (c, (fs.mapIdx (zfv ad f)).set b (.ref (ad t))) := by
  show (Sum.inr (c, _) : va_E) = Sum.inr (c, _)
  congr 2
  apply List.ext_getElem?
  intro j
  rw [List.getElem?_mapIdx, List.getElem?_set, List.getElem?_set, List.getElem?_mapIdx, List.length_mapIdx]
  by_cases h : b = j
  · subst h
    rw [if_pos rfl, if_pos hl, if_pos rfl, if_pos hl]
    rfl
  · rw [if_neg h, if_neg h]
theorem zcell_seta {ad : Nat → Nat} {ca : ClassId} {f : Int → Int} {n t i : Nat} {ts : List (Option Nat)} (hl : i < ts.length) : zcell ad ca f (.inl (2, n, ts.set i (some t))) = .inl (ca, n, .inr (.inr (.inr (.inr (va_up (fun j => (ts.getD j none).map ad) i (some (ad t))))))) := by
  show (Sum.inl (ca, n, Sum.inr (Sum.inr (Sum.inr (Sum.inr _)))) : va_E) = Sum.inl (ca, n, Sum.inr (Sum.inr (Sum.inr (Sum.inr _))))
  congr 7
  funext j
  unfold va_up
  by_cases h : j = i
  · subst h
    rw [if_pos rfl]
    simp [List.getD, hl]
  · rw [if_neg h]
    simp only [List.getD, List.getElem?_set]
    rw [if_neg (fun q => h q.symm)]
