/-! one step of a run, as an equation -/
section
variable {X : zX} {calls : zCalls} {C : List (Nat × zI)} {cuts : zCut} {pc pc' len a b c d : Nat} {tab : List (Int × Nat)} {ls ls' : zL} {st : List zV} {L : List zS} {σ : zF} {i : Instr}
theorem zq0 (hm : zCm calls) (hk : zlook C pc = some (i, len, a, b, c, d, tab)) : zrunL X calls C cuts pc ls st (L, σ) = zgo X calls (zcutK cuts (zrunL X calls C cuts)) i len a b c d tab pc ls st L σ := by
  rw [zrunL_eq X calls hm]
  unfold zstp
  rw [hk]
theorem zq_K (hc : zlook cuts pc' = none) (st : List zV) (h : zH) : zcutK cuts (zrunL X calls C cuts) pc' ls st h = zrunL X calls C cuts pc' ls st h := by
  unfold zcutK zcm
  rw [hc]
theorem zq_C {m : List Bool} (hc : zlook cuts pc' = some m) (st : List zV) (h : zH) : zcutK cuts (zrunL X calls C cuts) pc' ls st h = zrunL X calls C cuts pc' (zmask m ls) st h := by
  unfold zcutK zcm
  rw [hc]
theorem zite {p : Prop} [Decidable p] {A A' B B' : Option zR} (h1 : A = A') (h2 : B = B') : (if p then A else B) = (if p then A' else B') := by rw [h1, h2]
theorem zif1 {p : Prop} [Decidable p] {A B : Option zR} (h : p) : (if p then A else B) = A := if_pos h
theorem zsn {σ : zF} {k k' : Nat} {i i' v : Int} (h : Nat.beq k' k = false) : zset σ k i v k' i' = σ k' i' := by
  unfold zset
  rw [if_neg]
  rintro ⟨rfl, -⟩
  rw [Nat.beq_refl] at h
  cases h
theorem zsi {σ : zF} {k : Nat} {i i' v : Int} (h : decide (i' = i) = false) : zset σ k i v k i' = σ k i' := by
  unfold zset
  rw [if_neg]
  rintro ⟨-, q⟩
  exact of_decide_eq_false h q
theorem zsh {σ : zF} {k : Nat} {i v : Int} : zset σ k i v k i = v := by
  unfold zset
  rw [if_pos ⟨rfl, rfl⟩]
theorem zscn {σ : zF} {k k2 k' : Nat} {sp dp n i' : Int} (h : Nat.beq k' k2 = false) : zcpy σ k sp k2 dp n k' i' = σ k' i' := by
  unfold zcpy
  rw [if_neg]
  rintro ⟨rfl, -⟩
  rw [Nat.beq_refl] at h
  cases h
theorem zq_iln {n : Fin 4} {x : Int} (hm : zCm calls) (hk : zlook C pc = some (.iload_n n, len, a, b, c, d, tab)) (hl : ls[a]? = some (some (.inr (.inl x)))) (hp : pc + len = pc') (hc : zlook cuts pc' = none) : zrunL X calls C cuts pc ls (st) (L, σ) = zrunL X calls C cuts pc' ls (.inr (.inl x) :: st) (L, σ) := by
  subst hp
  rw [zq0 hm hk]
  simp only [zgo, zli, hl]
  exact zq_K hc _ _
theorem zc_iln {m : List Bool} {n : Fin 4} {x : Int} (hm : zCm calls) (hk : zlook C pc = some (.iload_n n, len, a, b, c, d, tab)) (hl : ls[a]? = some (some (.inr (.inl x)))) (hp : pc + len = pc') (hc : zlook cuts pc' = some m) : zrunL X calls C cuts pc ls (st) (L, σ) = zrunL X calls C cuts pc' (zmask m ls) (.inr (.inl x) :: st) (L, σ) := by
  subst hp
  rw [zq0 hm hk]
  simp only [zgo, zli, hl]
  exact zq_C hc _ _
theorem zq_il {n : Nat} {x : Int} (hm : zCm calls) (hk : zlook C pc = some (.iload n, len, a, b, c, d, tab)) (hl : ls[a]? = some (some (.inr (.inl x)))) (hp : pc + len = pc') (hc : zlook cuts pc' = none) : zrunL X calls C cuts pc ls (st) (L, σ) = zrunL X calls C cuts pc' ls (.inr (.inl x) :: st) (L, σ) := by
  subst hp
  rw [zq0 hm hk]
  simp only [zgo, zli, hl]
  exact zq_K hc _ _
theorem zc_il {m : List Bool} {n : Nat} {x : Int} (hm : zCm calls) (hk : zlook C pc = some (.iload n, len, a, b, c, d, tab)) (hl : ls[a]? = some (some (.inr (.inl x)))) (hp : pc + len = pc') (hc : zlook cuts pc' = some m) : zrunL X calls C cuts pc ls (st) (L, σ) = zrunL X calls C cuts pc' (zmask m ls) (.inr (.inl x) :: st) (L, σ) := by
  subst hp
  rw [zq0 hm hk]
  simp only [zgo, zli, hl]
  exact zq_C hc _ _
theorem zq_lln {n : Fin 4} {x : Int} (hm : zCm calls) (hk : zlook C pc = some (.lload_n n, len, a, b, c, d, tab)) (hl : ls[a]? = some (some (.inr (.inr x)))) (hp : pc + len = pc') (hc : zlook cuts pc' = none) : zrunL X calls C cuts pc ls (st) (L, σ) = zrunL X calls C cuts pc' ls (.inr (.inr x) :: st) (L, σ) := by
  subst hp
  rw [zq0 hm hk]
  simp only [zgo, zll, hl]
  exact zq_K hc _ _
theorem zc_lln {m : List Bool} {n : Fin 4} {x : Int} (hm : zCm calls) (hk : zlook C pc = some (.lload_n n, len, a, b, c, d, tab)) (hl : ls[a]? = some (some (.inr (.inr x)))) (hp : pc + len = pc') (hc : zlook cuts pc' = some m) : zrunL X calls C cuts pc ls (st) (L, σ) = zrunL X calls C cuts pc' (zmask m ls) (.inr (.inr x) :: st) (L, σ) := by
  subst hp
  rw [zq0 hm hk]
  simp only [zgo, zll, hl]
  exact zq_C hc _ _
theorem zq_ll {n : Nat} {x : Int} (hm : zCm calls) (hk : zlook C pc = some (.lload n, len, a, b, c, d, tab)) (hl : ls[a]? = some (some (.inr (.inr x)))) (hp : pc + len = pc') (hc : zlook cuts pc' = none) : zrunL X calls C cuts pc ls (st) (L, σ) = zrunL X calls C cuts pc' ls (.inr (.inr x) :: st) (L, σ) := by
  subst hp
  rw [zq0 hm hk]
  simp only [zgo, zll, hl]
  exact zq_K hc _ _
theorem zc_ll {m : List Bool} {n : Nat} {x : Int} (hm : zCm calls) (hk : zlook C pc = some (.lload n, len, a, b, c, d, tab)) (hl : ls[a]? = some (some (.inr (.inr x)))) (hp : pc + len = pc') (hc : zlook cuts pc' = some m) : zrunL X calls C cuts pc ls (st) (L, σ) = zrunL X calls C cuts pc' (zmask m ls) (.inr (.inr x) :: st) (L, σ) := by
  subst hp
  rw [zq0 hm hk]
  simp only [zgo, zll, hl]
  exact zq_C hc _ _
theorem zq_aln {n : Fin 4} {x : Nat} (hm : zCm calls) (hk : zlook C pc = some (.aload_n n, len, a, b, c, d, tab)) (hl : ls[a]? = some (some (.inl (some x)))) (hp : pc + len = pc') (hc : zlook cuts pc' = none) : zrunL X calls C cuts pc ls (st) (L, σ) = zrunL X calls C cuts pc' ls (.inl (some x) :: st) (L, σ) := by
  subst hp
  rw [zq0 hm hk]
  simp only [zgo, zlr, hl]
  exact zq_K hc _ _
theorem zc_aln {m : List Bool} {n : Fin 4} {x : Nat} (hm : zCm calls) (hk : zlook C pc = some (.aload_n n, len, a, b, c, d, tab)) (hl : ls[a]? = some (some (.inl (some x)))) (hp : pc + len = pc') (hc : zlook cuts pc' = some m) : zrunL X calls C cuts pc ls (st) (L, σ) = zrunL X calls C cuts pc' (zmask m ls) (.inl (some x) :: st) (L, σ) := by
  subst hp
  rw [zq0 hm hk]
  simp only [zgo, zlr, hl]
  exact zq_C hc _ _
theorem zq_al {n : Nat} {x : Nat} (hm : zCm calls) (hk : zlook C pc = some (.aload n, len, a, b, c, d, tab)) (hl : ls[a]? = some (some (.inl (some x)))) (hp : pc + len = pc') (hc : zlook cuts pc' = none) : zrunL X calls C cuts pc ls (st) (L, σ) = zrunL X calls C cuts pc' ls (.inl (some x) :: st) (L, σ) := by
  subst hp
  rw [zq0 hm hk]
  simp only [zgo, zlr, hl]
  exact zq_K hc _ _
theorem zc_al {m : List Bool} {n : Nat} {x : Nat} (hm : zCm calls) (hk : zlook C pc = some (.aload n, len, a, b, c, d, tab)) (hl : ls[a]? = some (some (.inl (some x)))) (hp : pc + len = pc') (hc : zlook cuts pc' = some m) : zrunL X calls C cuts pc ls (st) (L, σ) = zrunL X calls C cuts pc' (zmask m ls) (.inl (some x) :: st) (L, σ) := by
  subst hp
  rw [zq0 hm hk]
  simp only [zgo, zlr, hl]
  exact zq_C hc _ _
theorem zq_isn {n : Fin 4} {x : Int} (hm : zCm calls) (hk : zlook C pc = some (.istore_n n, len, a, b, c, d, tab)) (hs : zst1 ls a (.inr (.inl x)) = ls') (hp : pc + len = pc') (hc : zlook cuts pc' = none) : zrunL X calls C cuts pc ls (.inr (.inl x) :: st) (L, σ) = zrunL X calls C cuts pc' ls' (st) (L, σ) := by
  subst hp
  rw [zq0 hm hk]
  simp only [zgo, zI1, hs]
  exact zq_K hc _ _
theorem zc_isn {m : List Bool} {n : Fin 4} {x : Int} (hm : zCm calls) (hk : zlook C pc = some (.istore_n n, len, a, b, c, d, tab)) (hs : zst1 ls a (.inr (.inl x)) = ls') (hp : pc + len = pc') (hc : zlook cuts pc' = some m) : zrunL X calls C cuts pc ls (.inr (.inl x) :: st) (L, σ) = zrunL X calls C cuts pc' (zmask m ls') (st) (L, σ) := by
  subst hp
  rw [zq0 hm hk]
  simp only [zgo, zI1, hs]
  exact zq_C hc _ _
theorem zq_is {n : Nat} {x : Int} (hm : zCm calls) (hk : zlook C pc = some (.istore n, len, a, b, c, d, tab)) (hs : zst1 ls a (.inr (.inl x)) = ls') (hp : pc + len = pc') (hc : zlook cuts pc' = none) : zrunL X calls C cuts pc ls (.inr (.inl x) :: st) (L, σ) = zrunL X calls C cuts pc' ls' (st) (L, σ) := by
  subst hp
  rw [zq0 hm hk]
  simp only [zgo, zI1, hs]
  exact zq_K hc _ _
theorem zc_is {m : List Bool} {n : Nat} {x : Int} (hm : zCm calls) (hk : zlook C pc = some (.istore n, len, a, b, c, d, tab)) (hs : zst1 ls a (.inr (.inl x)) = ls') (hp : pc + len = pc') (hc : zlook cuts pc' = some m) : zrunL X calls C cuts pc ls (.inr (.inl x) :: st) (L, σ) = zrunL X calls C cuts pc' (zmask m ls') (st) (L, σ) := by
  subst hp
  rw [zq0 hm hk]
  simp only [zgo, zI1, hs]
  exact zq_C hc _ _
theorem zq_asn {n : Fin 4} {x : Nat} (hm : zCm calls) (hk : zlook C pc = some (.astore_n n, len, a, b, c, d, tab)) (hs : zst1 ls a (.inl (some x)) = ls') (hp : pc + len = pc') (hc : zlook cuts pc' = none) : zrunL X calls C cuts pc ls (.inl (some x) :: st) (L, σ) = zrunL X calls C cuts pc' ls' (st) (L, σ) := by
  subst hp
  rw [zq0 hm hk]
  simp only [zgo, zR1, hs]
  exact zq_K hc _ _
theorem zc_asn {m : List Bool} {n : Fin 4} {x : Nat} (hm : zCm calls) (hk : zlook C pc = some (.astore_n n, len, a, b, c, d, tab)) (hs : zst1 ls a (.inl (some x)) = ls') (hp : pc + len = pc') (hc : zlook cuts pc' = some m) : zrunL X calls C cuts pc ls (.inl (some x) :: st) (L, σ) = zrunL X calls C cuts pc' (zmask m ls') (st) (L, σ) := by
  subst hp
  rw [zq0 hm hk]
  simp only [zgo, zR1, hs]
  exact zq_C hc _ _
theorem zq_as {n : Nat} {x : Nat} (hm : zCm calls) (hk : zlook C pc = some (.astore n, len, a, b, c, d, tab)) (hs : zst1 ls a (.inl (some x)) = ls') (hp : pc + len = pc') (hc : zlook cuts pc' = none) : zrunL X calls C cuts pc ls (.inl (some x) :: st) (L, σ) = zrunL X calls C cuts pc' ls' (st) (L, σ) := by
  subst hp
  rw [zq0 hm hk]
  simp only [zgo, zR1, hs]
  exact zq_K hc _ _
theorem zc_as {m : List Bool} {n : Nat} {x : Nat} (hm : zCm calls) (hk : zlook C pc = some (.astore n, len, a, b, c, d, tab)) (hs : zst1 ls a (.inl (some x)) = ls') (hp : pc + len = pc') (hc : zlook cuts pc' = some m) : zrunL X calls C cuts pc ls (.inl (some x) :: st) (L, σ) = zrunL X calls C cuts pc' (zmask m ls') (st) (L, σ) := by
  subst hp
  rw [zq0 hm hk]
  simp only [zgo, zR1, hs]
  exact zq_C hc _ _
theorem zq_lsn {n : Fin 4} {x : Int} (hm : zCm calls) (hk : zlook C pc = some (.lstore_n n, len, a, b, c, d, tab)) (hs : zst2 ls a (.inr (.inr x)) = ls') (hp : pc + len = pc') (hc : zlook cuts pc' = none) : zrunL X calls C cuts pc ls (.inr (.inr x) :: st) (L, σ) = zrunL X calls C cuts pc' ls' (st) (L, σ) := by
  subst hp
  rw [zq0 hm hk]
  simp only [zgo, zJ1, hs]
  exact zq_K hc _ _
theorem zc_lsn {m : List Bool} {n : Fin 4} {x : Int} (hm : zCm calls) (hk : zlook C pc = some (.lstore_n n, len, a, b, c, d, tab)) (hs : zst2 ls a (.inr (.inr x)) = ls') (hp : pc + len = pc') (hc : zlook cuts pc' = some m) : zrunL X calls C cuts pc ls (.inr (.inr x) :: st) (L, σ) = zrunL X calls C cuts pc' (zmask m ls') (st) (L, σ) := by
  subst hp
  rw [zq0 hm hk]
  simp only [zgo, zJ1, hs]
  exact zq_C hc _ _
theorem zq_ls {n : Nat} {x : Int} (hm : zCm calls) (hk : zlook C pc = some (.lstore n, len, a, b, c, d, tab)) (hs : zst2 ls a (.inr (.inr x)) = ls') (hp : pc + len = pc') (hc : zlook cuts pc' = none) : zrunL X calls C cuts pc ls (.inr (.inr x) :: st) (L, σ) = zrunL X calls C cuts pc' ls' (st) (L, σ) := by
  subst hp
  rw [zq0 hm hk]
  simp only [zgo, zJ1, hs]
  exact zq_K hc _ _
theorem zc_ls {m : List Bool} {n : Nat} {x : Int} (hm : zCm calls) (hk : zlook C pc = some (.lstore n, len, a, b, c, d, tab)) (hs : zst2 ls a (.inr (.inr x)) = ls') (hp : pc + len = pc') (hc : zlook cuts pc' = some m) : zrunL X calls C cuts pc ls (.inr (.inr x) :: st) (L, σ) = zrunL X calls C cuts pc' (zmask m ls') (st) (L, σ) := by
  subst hp
  rw [zq0 hm hk]
  simp only [zgo, zJ1, hs]
  exact zq_C hc _ _
theorem zq_iinc {k : Nat} {n x v : Int} {t : Nat} {tl : List (Int × Nat)} (hm : zCm calls) (hk : zlook C pc = some (.iinc k n, len, a, b, c, d, tab)) (ht : tab = (v, t) :: tl) (hl : ls[a]? = some (some (.inr (.inl x)))) (hs : zst1 ls a (.inr (.inl (zw (x + v)))) = ls') (hp : pc + len = pc') (hc : zlook cuts pc' = none) : zrunL X calls C cuts pc ls (st) (L, σ) = zrunL X calls C cuts pc' ls' (st) (L, σ) := by
  subst hp
  rw [zq0 hm hk]
  simp only [zgo, zli, hl, zcon, ht, hs]
  exact zq_K hc _ _
theorem zc_iinc {m : List Bool} {k : Nat} {n x v : Int} {t : Nat} {tl : List (Int × Nat)} (hm : zCm calls) (hk : zlook C pc = some (.iinc k n, len, a, b, c, d, tab)) (ht : tab = (v, t) :: tl) (hl : ls[a]? = some (some (.inr (.inl x)))) (hs : zst1 ls a (.inr (.inl (zw (x + v)))) = ls') (hp : pc + len = pc') (hc : zlook cuts pc' = some m) : zrunL X calls C cuts pc ls (st) (L, σ) = zrunL X calls C cuts pc' (zmask m ls') (st) (L, σ) := by
  subst hp
  rw [zq0 hm hk]
  simp only [zgo, zli, hl, zcon, ht, hs]
  exact zq_C hc _ _
theorem zq_ic {n : Int} {v : Int} {t : Nat} {tl : List (Int × Nat)} (hm : zCm calls) (hk : zlook C pc = some (.iconst n, len, a, b, c, d, tab)) (ht : tab = (v, t) :: tl) (hp : pc + len = pc') (hc : zlook cuts pc' = none) : zrunL X calls C cuts pc ls (st) (L, σ) = zrunL X calls C cuts pc' ls (.inr (.inl v) :: st) (L, σ) := by
  subst hp
  rw [zq0 hm hk]
  simp only [zgo, zcon, ht]
  exact zq_K hc _ _
theorem zc_ic {m : List Bool} {n : Int} {v : Int} {t : Nat} {tl : List (Int × Nat)} (hm : zCm calls) (hk : zlook C pc = some (.iconst n, len, a, b, c, d, tab)) (ht : tab = (v, t) :: tl) (hp : pc + len = pc') (hc : zlook cuts pc' = some m) : zrunL X calls C cuts pc ls (st) (L, σ) = zrunL X calls C cuts pc' (zmask m ls) (.inr (.inl v) :: st) (L, σ) := by
  subst hp
  rw [zq0 hm hk]
  simp only [zgo, zcon, ht]
  exact zq_C hc _ _
theorem zq_bi {n : Int} {v : Int} {t : Nat} {tl : List (Int × Nat)} (hm : zCm calls) (hk : zlook C pc = some (.bipush n, len, a, b, c, d, tab)) (ht : tab = (v, t) :: tl) (hp : pc + len = pc') (hc : zlook cuts pc' = none) : zrunL X calls C cuts pc ls (st) (L, σ) = zrunL X calls C cuts pc' ls (.inr (.inl v) :: st) (L, σ) := by
  subst hp
  rw [zq0 hm hk]
  simp only [zgo, zcon, ht]
  exact zq_K hc _ _
theorem zc_bi {m : List Bool} {n : Int} {v : Int} {t : Nat} {tl : List (Int × Nat)} (hm : zCm calls) (hk : zlook C pc = some (.bipush n, len, a, b, c, d, tab)) (ht : tab = (v, t) :: tl) (hp : pc + len = pc') (hc : zlook cuts pc' = some m) : zrunL X calls C cuts pc ls (st) (L, σ) = zrunL X calls C cuts pc' (zmask m ls) (.inr (.inl v) :: st) (L, σ) := by
  subst hp
  rw [zq0 hm hk]
  simp only [zgo, zcon, ht]
  exact zq_C hc _ _
theorem zq_si {n : Int} {v : Int} {t : Nat} {tl : List (Int × Nat)} (hm : zCm calls) (hk : zlook C pc = some (.sipush n, len, a, b, c, d, tab)) (ht : tab = (v, t) :: tl) (hp : pc + len = pc') (hc : zlook cuts pc' = none) : zrunL X calls C cuts pc ls (st) (L, σ) = zrunL X calls C cuts pc' ls (.inr (.inl v) :: st) (L, σ) := by
  subst hp
  rw [zq0 hm hk]
  simp only [zgo, zcon, ht]
  exact zq_K hc _ _
theorem zc_si {m : List Bool} {n : Int} {v : Int} {t : Nat} {tl : List (Int × Nat)} (hm : zCm calls) (hk : zlook C pc = some (.sipush n, len, a, b, c, d, tab)) (ht : tab = (v, t) :: tl) (hp : pc + len = pc') (hc : zlook cuts pc' = some m) : zrunL X calls C cuts pc ls (st) (L, σ) = zrunL X calls C cuts pc' (zmask m ls) (.inr (.inl v) :: st) (L, σ) := by
  subst hp
  rw [zq0 hm hk]
  simp only [zgo, zcon, ht]
  exact zq_C hc _ _
theorem zq_ld {n : Nat} {v : Int} {t : Nat} {tl : List (Int × Nat)} (hm : zCm calls) (hk : zlook C pc = some (.ldc n, len, a, b, c, d, tab)) (ht : tab = (v, t) :: tl) (hp : pc + len = pc') (hc : zlook cuts pc' = none) : zrunL X calls C cuts pc ls (st) (L, σ) = zrunL X calls C cuts pc' ls (.inr (.inl v) :: st) (L, σ) := by
  subst hp
  rw [zq0 hm hk]
  simp only [zgo, zcon, ht]
  exact zq_K hc _ _
theorem zc_ld {m : List Bool} {n : Nat} {v : Int} {t : Nat} {tl : List (Int × Nat)} (hm : zCm calls) (hk : zlook C pc = some (.ldc n, len, a, b, c, d, tab)) (ht : tab = (v, t) :: tl) (hp : pc + len = pc') (hc : zlook cuts pc' = some m) : zrunL X calls C cuts pc ls (st) (L, σ) = zrunL X calls C cuts pc' (zmask m ls) (.inr (.inl v) :: st) (L, σ) := by
  subst hp
  rw [zq0 hm hk]
  simp only [zgo, zcon, ht]
  exact zq_C hc _ _
theorem zq_lw {n : Nat} {v : Int} {t : Nat} {tl : List (Int × Nat)} (hm : zCm calls) (hk : zlook C pc = some (.ldc_w n, len, a, b, c, d, tab)) (ht : tab = (v, t) :: tl) (hp : pc + len = pc') (hc : zlook cuts pc' = none) : zrunL X calls C cuts pc ls (st) (L, σ) = zrunL X calls C cuts pc' ls (.inr (.inl v) :: st) (L, σ) := by
  subst hp
  rw [zq0 hm hk]
  simp only [zgo, zcon, ht]
  exact zq_K hc _ _
theorem zc_lw {m : List Bool} {n : Nat} {v : Int} {t : Nat} {tl : List (Int × Nat)} (hm : zCm calls) (hk : zlook C pc = some (.ldc_w n, len, a, b, c, d, tab)) (ht : tab = (v, t) :: tl) (hp : pc + len = pc') (hc : zlook cuts pc' = some m) : zrunL X calls C cuts pc ls (st) (L, σ) = zrunL X calls C cuts pc' (zmask m ls) (.inr (.inl v) :: st) (L, σ) := by
  subst hp
  rw [zq0 hm hk]
  simp only [zgo, zcon, ht]
  exact zq_C hc _ _
theorem zq_lc {n : Fin 2} {v : Int} {t : Nat} {tl : List (Int × Nat)} (hm : zCm calls) (hk : zlook C pc = some (.lconst n, len, a, b, c, d, tab)) (ht : tab = (v, t) :: tl) (hp : pc + len = pc') (hc : zlook cuts pc' = none) : zrunL X calls C cuts pc ls (st) (L, σ) = zrunL X calls C cuts pc' ls (.inr (.inr v) :: st) (L, σ) := by
  subst hp
  rw [zq0 hm hk]
  simp only [zgo, zcon, ht]
  exact zq_K hc _ _
theorem zc_lc {m : List Bool} {n : Fin 2} {v : Int} {t : Nat} {tl : List (Int × Nat)} (hm : zCm calls) (hk : zlook C pc = some (.lconst n, len, a, b, c, d, tab)) (ht : tab = (v, t) :: tl) (hp : pc + len = pc') (hc : zlook cuts pc' = some m) : zrunL X calls C cuts pc ls (st) (L, σ) = zrunL X calls C cuts pc' (zmask m ls) (.inr (.inr v) :: st) (L, σ) := by
  subst hp
  rw [zq0 hm hk]
  simp only [zgo, zcon, ht]
  exact zq_C hc _ _
theorem zq_l2 {n : Nat} {v : Int} {t : Nat} {tl : List (Int × Nat)} (hm : zCm calls) (hk : zlook C pc = some (.ldc2_w n, len, a, b, c, d, tab)) (ht : tab = (v, t) :: tl) (hp : pc + len = pc') (hc : zlook cuts pc' = none) : zrunL X calls C cuts pc ls (st) (L, σ) = zrunL X calls C cuts pc' ls (.inr (.inr v) :: st) (L, σ) := by
  subst hp
  rw [zq0 hm hk]
  simp only [zgo, zcon, ht]
  exact zq_K hc _ _
theorem zc_l2 {m : List Bool} {n : Nat} {v : Int} {t : Nat} {tl : List (Int × Nat)} (hm : zCm calls) (hk : zlook C pc = some (.ldc2_w n, len, a, b, c, d, tab)) (ht : tab = (v, t) :: tl) (hp : pc + len = pc') (hc : zlook cuts pc' = some m) : zrunL X calls C cuts pc ls (st) (L, σ) = zrunL X calls C cuts pc' (zmask m ls) (.inr (.inr v) :: st) (L, σ) := by
  subst hp
  rw [zq0 hm hk]
  simp only [zgo, zcon, ht]
  exact zq_C hc _ _
theorem zq_iadd {x y : Int} (hm : zCm calls) (hk : zlook C pc = some (.iadd, len, a, b, c, d, tab)) (hp : pc + len = pc') (hc : zlook cuts pc' = none) : zrunL X calls C cuts pc ls (.inr (.inl y) :: .inr (.inl x) :: st) (L, σ) = zrunL X calls C cuts pc' ls (.inr (.inl (zw (x + y))) :: st) (L, σ) := by
  subst hp
  rw [zq0 hm hk]
  simp only [zgo, zI2]
  exact zq_K hc _ _
theorem zc_iadd {m : List Bool} {x y : Int} (hm : zCm calls) (hk : zlook C pc = some (.iadd, len, a, b, c, d, tab)) (hp : pc + len = pc') (hc : zlook cuts pc' = some m) : zrunL X calls C cuts pc ls (.inr (.inl y) :: .inr (.inl x) :: st) (L, σ) = zrunL X calls C cuts pc' (zmask m ls) (.inr (.inl (zw (x + y))) :: st) (L, σ) := by
  subst hp
  rw [zq0 hm hk]
  simp only [zgo, zI2]
  exact zq_C hc _ _
theorem zq_isub {x y : Int} (hm : zCm calls) (hk : zlook C pc = some (.isub, len, a, b, c, d, tab)) (hp : pc + len = pc') (hc : zlook cuts pc' = none) : zrunL X calls C cuts pc ls (.inr (.inl y) :: .inr (.inl x) :: st) (L, σ) = zrunL X calls C cuts pc' ls (.inr (.inl (zw (x - y))) :: st) (L, σ) := by
  subst hp
  rw [zq0 hm hk]
  simp only [zgo, zI2]
  exact zq_K hc _ _
theorem zc_isub {m : List Bool} {x y : Int} (hm : zCm calls) (hk : zlook C pc = some (.isub, len, a, b, c, d, tab)) (hp : pc + len = pc') (hc : zlook cuts pc' = some m) : zrunL X calls C cuts pc ls (.inr (.inl y) :: .inr (.inl x) :: st) (L, σ) = zrunL X calls C cuts pc' (zmask m ls) (.inr (.inl (zw (x - y))) :: st) (L, σ) := by
  subst hp
  rw [zq0 hm hk]
  simp only [zgo, zI2]
  exact zq_C hc _ _
theorem zq_imul {x y : Int} (hm : zCm calls) (hk : zlook C pc = some (.imul, len, a, b, c, d, tab)) (hp : pc + len = pc') (hc : zlook cuts pc' = none) : zrunL X calls C cuts pc ls (.inr (.inl y) :: .inr (.inl x) :: st) (L, σ) = zrunL X calls C cuts pc' ls (.inr (.inl (zw (x * y))) :: st) (L, σ) := by
  subst hp
  rw [zq0 hm hk]
  simp only [zgo, zI2]
  exact zq_K hc _ _
theorem zc_imul {m : List Bool} {x y : Int} (hm : zCm calls) (hk : zlook C pc = some (.imul, len, a, b, c, d, tab)) (hp : pc + len = pc') (hc : zlook cuts pc' = some m) : zrunL X calls C cuts pc ls (.inr (.inl y) :: .inr (.inl x) :: st) (L, σ) = zrunL X calls C cuts pc' (zmask m ls) (.inr (.inl (zw (x * y))) :: st) (L, σ) := by
  subst hp
  rw [zq0 hm hk]
  simp only [zgo, zI2]
  exact zq_C hc _ _
theorem zq_iand {x y : Int} (hm : zCm calls) (hk : zlook C pc = some (.iand, len, a, b, c, d, tab)) (hp : pc + len = pc') (hc : zlook cuts pc' = none) : zrunL X calls C cuts pc ls (.inr (.inl y) :: .inr (.inl x) :: st) (L, σ) = zrunL X calls C cuts pc' ls (.inr (.inl (zand x y)) :: st) (L, σ) := by
  subst hp
  rw [zq0 hm hk]
  simp only [zgo, zI2]
  exact zq_K hc _ _
theorem zc_iand {m : List Bool} {x y : Int} (hm : zCm calls) (hk : zlook C pc = some (.iand, len, a, b, c, d, tab)) (hp : pc + len = pc') (hc : zlook cuts pc' = some m) : zrunL X calls C cuts pc ls (.inr (.inl y) :: .inr (.inl x) :: st) (L, σ) = zrunL X calls C cuts pc' (zmask m ls) (.inr (.inl (zand x y)) :: st) (L, σ) := by
  subst hp
  rw [zq0 hm hk]
  simp only [zgo, zI2]
  exact zq_C hc _ _
theorem zq_ior {x y : Int} (hm : zCm calls) (hk : zlook C pc = some (.ior, len, a, b, c, d, tab)) (hp : pc + len = pc') (hc : zlook cuts pc' = none) : zrunL X calls C cuts pc ls (.inr (.inl y) :: .inr (.inl x) :: st) (L, σ) = zrunL X calls C cuts pc' ls (.inr (.inl (zor x y)) :: st) (L, σ) := by
  subst hp
  rw [zq0 hm hk]
  simp only [zgo, zI2]
  exact zq_K hc _ _
theorem zc_ior {m : List Bool} {x y : Int} (hm : zCm calls) (hk : zlook C pc = some (.ior, len, a, b, c, d, tab)) (hp : pc + len = pc') (hc : zlook cuts pc' = some m) : zrunL X calls C cuts pc ls (.inr (.inl y) :: .inr (.inl x) :: st) (L, σ) = zrunL X calls C cuts pc' (zmask m ls) (.inr (.inl (zor x y)) :: st) (L, σ) := by
  subst hp
  rw [zq0 hm hk]
  simp only [zgo, zI2]
  exact zq_C hc _ _
theorem zq_ixor {x y : Int} (hm : zCm calls) (hk : zlook C pc = some (.ixor, len, a, b, c, d, tab)) (hp : pc + len = pc') (hc : zlook cuts pc' = none) : zrunL X calls C cuts pc ls (.inr (.inl y) :: .inr (.inl x) :: st) (L, σ) = zrunL X calls C cuts pc' ls (.inr (.inl (zxor x y)) :: st) (L, σ) := by
  subst hp
  rw [zq0 hm hk]
  simp only [zgo, zI2]
  exact zq_K hc _ _
theorem zc_ixor {m : List Bool} {x y : Int} (hm : zCm calls) (hk : zlook C pc = some (.ixor, len, a, b, c, d, tab)) (hp : pc + len = pc') (hc : zlook cuts pc' = some m) : zrunL X calls C cuts pc ls (.inr (.inl y) :: .inr (.inl x) :: st) (L, σ) = zrunL X calls C cuts pc' (zmask m ls) (.inr (.inl (zxor x y)) :: st) (L, σ) := by
  subst hp
  rw [zq0 hm hk]
  simp only [zgo, zI2]
  exact zq_C hc _ _
theorem zq_ishl {x y : Int} (hm : zCm calls) (hk : zlook C pc = some (.ishl, len, a, b, c, d, tab)) (hp : pc + len = pc') (hc : zlook cuts pc' = none) : zrunL X calls C cuts pc ls (.inr (.inl y) :: .inr (.inl x) :: st) (L, σ) = zrunL X calls C cuts pc' ls (.inr (.inl (zshl x y)) :: st) (L, σ) := by
  subst hp
  rw [zq0 hm hk]
  simp only [zgo, zI2]
  exact zq_K hc _ _
theorem zc_ishl {m : List Bool} {x y : Int} (hm : zCm calls) (hk : zlook C pc = some (.ishl, len, a, b, c, d, tab)) (hp : pc + len = pc') (hc : zlook cuts pc' = some m) : zrunL X calls C cuts pc ls (.inr (.inl y) :: .inr (.inl x) :: st) (L, σ) = zrunL X calls C cuts pc' (zmask m ls) (.inr (.inl (zshl x y)) :: st) (L, σ) := by
  subst hp
  rw [zq0 hm hk]
  simp only [zgo, zI2]
  exact zq_C hc _ _
theorem zq_ishr {x y : Int} (hm : zCm calls) (hk : zlook C pc = some (.ishr, len, a, b, c, d, tab)) (hp : pc + len = pc') (hc : zlook cuts pc' = none) : zrunL X calls C cuts pc ls (.inr (.inl y) :: .inr (.inl x) :: st) (L, σ) = zrunL X calls C cuts pc' ls (.inr (.inl (zshr x y)) :: st) (L, σ) := by
  subst hp
  rw [zq0 hm hk]
  simp only [zgo, zI2]
  exact zq_K hc _ _
theorem zc_ishr {m : List Bool} {x y : Int} (hm : zCm calls) (hk : zlook C pc = some (.ishr, len, a, b, c, d, tab)) (hp : pc + len = pc') (hc : zlook cuts pc' = some m) : zrunL X calls C cuts pc ls (.inr (.inl y) :: .inr (.inl x) :: st) (L, σ) = zrunL X calls C cuts pc' (zmask m ls) (.inr (.inl (zshr x y)) :: st) (L, σ) := by
  subst hp
  rw [zq0 hm hk]
  simp only [zgo, zI2]
  exact zq_C hc _ _
theorem zq_iushr {x y : Int} (hm : zCm calls) (hk : zlook C pc = some (.iushr, len, a, b, c, d, tab)) (hp : pc + len = pc') (hc : zlook cuts pc' = none) : zrunL X calls C cuts pc ls (.inr (.inl y) :: .inr (.inl x) :: st) (L, σ) = zrunL X calls C cuts pc' ls (.inr (.inl (zushr x y)) :: st) (L, σ) := by
  subst hp
  rw [zq0 hm hk]
  simp only [zgo, zI2]
  exact zq_K hc _ _
theorem zc_iushr {m : List Bool} {x y : Int} (hm : zCm calls) (hk : zlook C pc = some (.iushr, len, a, b, c, d, tab)) (hp : pc + len = pc') (hc : zlook cuts pc' = some m) : zrunL X calls C cuts pc ls (.inr (.inl y) :: .inr (.inl x) :: st) (L, σ) = zrunL X calls C cuts pc' (zmask m ls) (.inr (.inl (zushr x y)) :: st) (L, σ) := by
  subst hp
  rw [zq0 hm hk]
  simp only [zgo, zI2]
  exact zq_C hc _ _
theorem zq_ladd {x y : Int} (hm : zCm calls) (hk : zlook C pc = some (.ladd, len, a, b, c, d, tab)) (hp : pc + len = pc') (hc : zlook cuts pc' = none) : zrunL X calls C cuts pc ls (.inr (.inr y) :: .inr (.inr x) :: st) (L, σ) = zrunL X calls C cuts pc' ls (.inr (.inr (zwl (x + y))) :: st) (L, σ) := by
  subst hp
  rw [zq0 hm hk]
  simp only [zgo, zJ2]
  exact zq_K hc _ _
theorem zc_ladd {m : List Bool} {x y : Int} (hm : zCm calls) (hk : zlook C pc = some (.ladd, len, a, b, c, d, tab)) (hp : pc + len = pc') (hc : zlook cuts pc' = some m) : zrunL X calls C cuts pc ls (.inr (.inr y) :: .inr (.inr x) :: st) (L, σ) = zrunL X calls C cuts pc' (zmask m ls) (.inr (.inr (zwl (x + y))) :: st) (L, σ) := by
  subst hp
  rw [zq0 hm hk]
  simp only [zgo, zJ2]
  exact zq_C hc _ _
theorem zq_lmul {x y : Int} (hm : zCm calls) (hk : zlook C pc = some (.lmul, len, a, b, c, d, tab)) (hp : pc + len = pc') (hc : zlook cuts pc' = none) : zrunL X calls C cuts pc ls (.inr (.inr y) :: .inr (.inr x) :: st) (L, σ) = zrunL X calls C cuts pc' ls (.inr (.inr (zwl (x * y))) :: st) (L, σ) := by
  subst hp
  rw [zq0 hm hk]
  simp only [zgo, zJ2]
  exact zq_K hc _ _
theorem zc_lmul {m : List Bool} {x y : Int} (hm : zCm calls) (hk : zlook C pc = some (.lmul, len, a, b, c, d, tab)) (hp : pc + len = pc') (hc : zlook cuts pc' = some m) : zrunL X calls C cuts pc ls (.inr (.inr y) :: .inr (.inr x) :: st) (L, σ) = zrunL X calls C cuts pc' (zmask m ls) (.inr (.inr (zwl (x * y))) :: st) (L, σ) := by
  subst hp
  rw [zq0 hm hk]
  simp only [zgo, zJ2]
  exact zq_C hc _ _
theorem zq_land {x y : Int} (hm : zCm calls) (hk : zlook C pc = some (.land, len, a, b, c, d, tab)) (hp : pc + len = pc') (hc : zlook cuts pc' = none) : zrunL X calls C cuts pc ls (.inr (.inr y) :: .inr (.inr x) :: st) (L, σ) = zrunL X calls C cuts pc' ls (.inr (.inr (zandl x y)) :: st) (L, σ) := by
  subst hp
  rw [zq0 hm hk]
  simp only [zgo, zJ2]
  exact zq_K hc _ _
theorem zc_land {m : List Bool} {x y : Int} (hm : zCm calls) (hk : zlook C pc = some (.land, len, a, b, c, d, tab)) (hp : pc + len = pc') (hc : zlook cuts pc' = some m) : zrunL X calls C cuts pc ls (.inr (.inr y) :: .inr (.inr x) :: st) (L, σ) = zrunL X calls C cuts pc' (zmask m ls) (.inr (.inr (zandl x y)) :: st) (L, σ) := by
  subst hp
  rw [zq0 hm hk]
  simp only [zgo, zJ2]
  exact zq_C hc _ _
theorem zq_lor {x y : Int} (hm : zCm calls) (hk : zlook C pc = some (.lor, len, a, b, c, d, tab)) (hp : pc + len = pc') (hc : zlook cuts pc' = none) : zrunL X calls C cuts pc ls (.inr (.inr y) :: .inr (.inr x) :: st) (L, σ) = zrunL X calls C cuts pc' ls (.inr (.inr (zorl x y)) :: st) (L, σ) := by
  subst hp
  rw [zq0 hm hk]
  simp only [zgo, zJ2]
  exact zq_K hc _ _
theorem zc_lor {m : List Bool} {x y : Int} (hm : zCm calls) (hk : zlook C pc = some (.lor, len, a, b, c, d, tab)) (hp : pc + len = pc') (hc : zlook cuts pc' = some m) : zrunL X calls C cuts pc ls (.inr (.inr y) :: .inr (.inr x) :: st) (L, σ) = zrunL X calls C cuts pc' (zmask m ls) (.inr (.inr (zorl x y)) :: st) (L, σ) := by
  subst hp
  rw [zq0 hm hk]
  simp only [zgo, zJ2]
  exact zq_C hc _ _
theorem zq_lcmp {x y : Int} (hm : zCm calls) (hk : zlook C pc = some (.lcmp, len, a, b, c, d, tab)) (hp : pc + len = pc') (hc : zlook cuts pc' = none) : zrunL X calls C cuts pc ls (.inr (.inr y) :: .inr (.inr x) :: st) (L, σ) = zrunL X calls C cuts pc' ls (.inr (.inl (zcmpl x y)) :: st) (L, σ) := by
  subst hp
  rw [zq0 hm hk]
  simp only [zgo, zJ2]
  exact zq_K hc _ _
theorem zc_lcmp {m : List Bool} {x y : Int} (hm : zCm calls) (hk : zlook C pc = some (.lcmp, len, a, b, c, d, tab)) (hp : pc + len = pc') (hc : zlook cuts pc' = some m) : zrunL X calls C cuts pc ls (.inr (.inr y) :: .inr (.inr x) :: st) (L, σ) = zrunL X calls C cuts pc' (zmask m ls) (.inr (.inl (zcmpl x y)) :: st) (L, σ) := by
  subst hp
  rw [zq0 hm hk]
  simp only [zgo, zJ2]
  exact zq_C hc _ _
theorem zq_lshl {x y : Int} (hm : zCm calls) (hk : zlook C pc = some (.lshl, len, a, b, c, d, tab)) (hp : pc + len = pc') (hc : zlook cuts pc' = none) : zrunL X calls C cuts pc ls (.inr (.inl y) :: .inr (.inr x) :: st) (L, σ) = zrunL X calls C cuts pc' ls (.inr (.inr (zshll x y)) :: st) (L, σ) := by
  subst hp
  rw [zq0 hm hk]
  simp only [zgo, zJI]
  exact zq_K hc _ _
theorem zc_lshl {m : List Bool} {x y : Int} (hm : zCm calls) (hk : zlook C pc = some (.lshl, len, a, b, c, d, tab)) (hp : pc + len = pc') (hc : zlook cuts pc' = some m) : zrunL X calls C cuts pc ls (.inr (.inl y) :: .inr (.inr x) :: st) (L, σ) = zrunL X calls C cuts pc' (zmask m ls) (.inr (.inr (zshll x y)) :: st) (L, σ) := by
  subst hp
  rw [zq0 hm hk]
  simp only [zgo, zJI]
  exact zq_C hc _ _
theorem zq_ineg {x : Int} (hm : zCm calls) (hk : zlook C pc = some (.ineg, len, a, b, c, d, tab)) (hp : pc + len = pc') (hc : zlook cuts pc' = none) : zrunL X calls C cuts pc ls (.inr (.inl x) :: st) (L, σ) = zrunL X calls C cuts pc' ls (.inr (.inl (zw (-x))) :: st) (L, σ) := by
  subst hp
  rw [zq0 hm hk]
  simp only [zgo, zI1]
  exact zq_K hc _ _
theorem zc_ineg {m : List Bool} {x : Int} (hm : zCm calls) (hk : zlook C pc = some (.ineg, len, a, b, c, d, tab)) (hp : pc + len = pc') (hc : zlook cuts pc' = some m) : zrunL X calls C cuts pc ls (.inr (.inl x) :: st) (L, σ) = zrunL X calls C cuts pc' (zmask m ls) (.inr (.inl (zw (-x))) :: st) (L, σ) := by
  subst hp
  rw [zq0 hm hk]
  simp only [zgo, zI1]
  exact zq_C hc _ _
theorem zq_i2l {x : Int} (hm : zCm calls) (hk : zlook C pc = some (.i2l, len, a, b, c, d, tab)) (hp : pc + len = pc') (hc : zlook cuts pc' = none) : zrunL X calls C cuts pc ls (.inr (.inl x) :: st) (L, σ) = zrunL X calls C cuts pc' ls (.inr (.inr x) :: st) (L, σ) := by
  subst hp
  rw [zq0 hm hk]
  simp only [zgo, zI1]
  exact zq_K hc _ _
theorem zc_i2l {m : List Bool} {x : Int} (hm : zCm calls) (hk : zlook C pc = some (.i2l, len, a, b, c, d, tab)) (hp : pc + len = pc') (hc : zlook cuts pc' = some m) : zrunL X calls C cuts pc ls (.inr (.inl x) :: st) (L, σ) = zrunL X calls C cuts pc' (zmask m ls) (.inr (.inr x) :: st) (L, σ) := by
  subst hp
  rw [zq0 hm hk]
  simp only [zgo, zI1]
  exact zq_C hc _ _
theorem zq_i2b {x : Int} (hm : zCm calls) (hk : zlook C pc = some (.i2b, len, a, b, c, d, tab)) (hp : pc + len = pc') (hc : zlook cuts pc' = none) : zrunL X calls C cuts pc ls (.inr (.inl x) :: st) (L, σ) = zrunL X calls C cuts pc' ls (.inr (.inl (zi2b x)) :: st) (L, σ) := by
  subst hp
  rw [zq0 hm hk]
  simp only [zgo, zI1]
  exact zq_K hc _ _
theorem zc_i2b {m : List Bool} {x : Int} (hm : zCm calls) (hk : zlook C pc = some (.i2b, len, a, b, c, d, tab)) (hp : pc + len = pc') (hc : zlook cuts pc' = some m) : zrunL X calls C cuts pc ls (.inr (.inl x) :: st) (L, σ) = zrunL X calls C cuts pc' (zmask m ls) (.inr (.inl (zi2b x)) :: st) (L, σ) := by
  subst hp
  rw [zq0 hm hk]
  simp only [zgo, zI1]
  exact zq_C hc _ _
theorem zq_i2s {x : Int} (hm : zCm calls) (hk : zlook C pc = some (.i2s, len, a, b, c, d, tab)) (hp : pc + len = pc') (hc : zlook cuts pc' = none) : zrunL X calls C cuts pc ls (.inr (.inl x) :: st) (L, σ) = zrunL X calls C cuts pc' ls (.inr (.inl (zi2s x)) :: st) (L, σ) := by
  subst hp
  rw [zq0 hm hk]
  simp only [zgo, zI1]
  exact zq_K hc _ _
theorem zc_i2s {m : List Bool} {x : Int} (hm : zCm calls) (hk : zlook C pc = some (.i2s, len, a, b, c, d, tab)) (hp : pc + len = pc') (hc : zlook cuts pc' = some m) : zrunL X calls C cuts pc ls (.inr (.inl x) :: st) (L, σ) = zrunL X calls C cuts pc' (zmask m ls) (.inr (.inl (zi2s x)) :: st) (L, σ) := by
  subst hp
  rw [zq0 hm hk]
  simp only [zgo, zI1]
  exact zq_C hc _ _
theorem zq_l2i {x : Int} (hm : zCm calls) (hk : zlook C pc = some (.l2i, len, a, b, c, d, tab)) (hp : pc + len = pc') (hc : zlook cuts pc' = none) : zrunL X calls C cuts pc ls (.inr (.inr x) :: st) (L, σ) = zrunL X calls C cuts pc' ls (.inr (.inl (zw x)) :: st) (L, σ) := by
  subst hp
  rw [zq0 hm hk]
  simp only [zgo, zJ1]
  exact zq_K hc _ _
theorem zc_l2i {m : List Bool} {x : Int} (hm : zCm calls) (hk : zlook C pc = some (.l2i, len, a, b, c, d, tab)) (hp : pc + len = pc') (hc : zlook cuts pc' = some m) : zrunL X calls C cuts pc ls (.inr (.inr x) :: st) (L, σ) = zrunL X calls C cuts pc' (zmask m ls) (.inr (.inl (zw x)) :: st) (L, σ) := by
  subst hp
  rw [zq0 hm hk]
  simp only [zgo, zJ1]
  exact zq_C hc _ _
theorem zq_dup {v : zV} (hm : zCm calls) (hk : zlook C pc = some (.dup, len, a, b, c, d, tab)) (hv : zcat v = 1) (hp : pc + len = pc') (hc : zlook cuts pc' = none) : zrunL X calls C cuts pc ls (v :: st) (L, σ) = zrunL X calls C cuts pc' ls (v :: v :: st) (L, σ) := by
  subst hp
  rw [zq0 hm hk]
  simp only [zgo, zV1, hv, Nat.beq, cond_true]
  exact zq_K hc _ _
theorem zc_dup {m : List Bool} {v : zV} (hm : zCm calls) (hk : zlook C pc = some (.dup, len, a, b, c, d, tab)) (hv : zcat v = 1) (hp : pc + len = pc') (hc : zlook cuts pc' = some m) : zrunL X calls C cuts pc ls (v :: st) (L, σ) = zrunL X calls C cuts pc' (zmask m ls) (v :: v :: st) (L, σ) := by
  subst hp
  rw [zq0 hm hk]
  simp only [zgo, zV1, hv, Nat.beq, cond_true]
  exact zq_C hc _ _
theorem zq_pop {v : zV} (hm : zCm calls) (hk : zlook C pc = some (.pop, len, a, b, c, d, tab)) (hv : zcat v = 1) (hp : pc + len = pc') (hc : zlook cuts pc' = none) : zrunL X calls C cuts pc ls (v :: st) (L, σ) = zrunL X calls C cuts pc' ls (st) (L, σ) := by
  subst hp
  rw [zq0 hm hk]
  simp only [zgo, zV1, hv, Nat.beq, cond_true]
  exact zq_K hc _ _
theorem zc_pop {m : List Bool} {v : zV} (hm : zCm calls) (hk : zlook C pc = some (.pop, len, a, b, c, d, tab)) (hv : zcat v = 1) (hp : pc + len = pc') (hc : zlook cuts pc' = some m) : zrunL X calls C cuts pc ls (v :: st) (L, σ) = zrunL X calls C cuts pc' (zmask m ls) (st) (L, σ) := by
  subst hp
  rw [zq0 hm hk]
  simp only [zgo, zV1, hv, Nat.beq, cond_true]
  exact zq_C hc _ _
theorem zq_dupx {v w : zV} (hm : zCm calls) (hk : zlook C pc = some (.dup_x1, len, a, b, c, d, tab)) (hv : zcat v = 1) (hw : zcat w = 1) (hp : pc + len = pc') (hc : zlook cuts pc' = none) : zrunL X calls C cuts pc ls (v :: w :: st) (L, σ) = zrunL X calls C cuts pc' ls (v :: w :: v :: st) (L, σ) := by
  subst hp
  rw [zq0 hm hk]
  simp only [zgo, zV2, hv, hw, Nat.beq, cond_true, Bool.and_self]
  exact zq_K hc _ _
theorem zc_dupx {m : List Bool} {v w : zV} (hm : zCm calls) (hk : zlook C pc = some (.dup_x1, len, a, b, c, d, tab)) (hv : zcat v = 1) (hw : zcat w = 1) (hp : pc + len = pc') (hc : zlook cuts pc' = some m) : zrunL X calls C cuts pc ls (v :: w :: st) (L, σ) = zrunL X calls C cuts pc' (zmask m ls) (v :: w :: v :: st) (L, σ) := by
  subst hp
  rw [zq0 hm hk]
  simp only [zgo, zV2, hv, hw, Nat.beq, cond_true, Bool.and_self]
  exact zq_C hc _ _
theorem zq_dup2 {v w : zV} (hm : zCm calls) (hk : zlook C pc = some (.dup2, len, a, b, c, d, tab)) (hv : zcat v = 1) (hw : zcat w = 1) (hp : pc + len = pc') (hc : zlook cuts pc' = none) : zrunL X calls C cuts pc ls (v :: w :: st) (L, σ) = zrunL X calls C cuts pc' ls (v :: w :: v :: w :: st) (L, σ) := by
  subst hp
  rw [zq0 hm hk]
  simp only [zgo, zV2, hv, hw, Nat.beq, cond_true, Bool.and_self]
  exact zq_K hc _ _
theorem zc_dup2 {m : List Bool} {v w : zV} (hm : zCm calls) (hk : zlook C pc = some (.dup2, len, a, b, c, d, tab)) (hv : zcat v = 1) (hw : zcat w = 1) (hp : pc + len = pc') (hc : zlook cuts pc' = some m) : zrunL X calls C cuts pc ls (v :: w :: st) (L, σ) = zrunL X calls C cuts pc' (zmask m ls) (v :: w :: v :: w :: st) (L, σ) := by
  subst hp
  rw [zq0 hm hk]
  simp only [zgo, zV2, hv, hw, Nat.beq, cond_true, Bool.and_self]
  exact zq_C hc _ _
theorem zq_goto {o : Int} (hm : zCm calls) (hk : zlook C pc = some (.goto o, len, a, b, c, d, tab)) (hc : zlook cuts a = none) : zrunL X calls C cuts pc ls st (L, σ) = zrunL X calls C cuts a ls st (L, σ) := by
  rw [zq0 hm hk]
  exact zq_K hc _ _
theorem zc_goto {m : List Bool} {o : Int} (hm : zCm calls) (hk : zlook C pc = some (.goto o, len, a, b, c, d, tab)) (hc : zlook cuts a = some m) : zrunL X calls C cuts pc ls st (L, σ) = zrunL X calls C cuts a (zmask m ls) st (L, σ) := by
  rw [zq0 hm hk]
  exact zq_C hc _ _
/-- the run behind a jump: at a cut fewer locals are held -/
noncomputable def zJ (X : zX) (calls : zCalls) (C : List (Nat × zI)) (cuts : zCut) : zK := zcutK cuts (zrunL X calls C cuts)
theorem zJ_n (hc : zlook cuts pc = none) {h : zH} : zJ X calls C cuts pc ls st h = zrunL X calls C cuts pc ls st h := zq_K hc _ _
theorem zJ_c {m : List Bool} (hc : zlook cuts pc = some m) {h : zH} : zJ X calls C cuts pc ls st h = zrunL X calls C cuts pc (zmask m ls) st h := zq_C hc _ _
theorem zq_ieq {o x y : Int} (hm : zCm calls) (hk : zlook C pc = some (.if_icmp .eq o, len, a, b, c, d, tab)) (hp : pc + len = pc') : zrunL X calls C cuts pc ls (.inr (.inl y) :: .inr (.inl x) :: st) (L, σ) = if x = y then zJ X calls C cuts a ls st (L, σ) else zJ X calls C cuts pc' ls st (L, σ) := by
  subst hp
  rw [zq0 hm hk]
  rfl
theorem zq_zeq {o x : Int} (hm : zCm calls) (hk : zlook C pc = some (.ifCond .eq o, len, a, b, c, d, tab)) (hp : pc + len = pc') : zrunL X calls C cuts pc ls (.inr (.inl x) :: st) (L, σ) = if x = 0 then zJ X calls C cuts a ls st (L, σ) else zJ X calls C cuts pc' ls st (L, σ) := by
  subst hp
  rw [zq0 hm hk]
  rfl
theorem zq_ine {o x y : Int} (hm : zCm calls) (hk : zlook C pc = some (.if_icmp .ne o, len, a, b, c, d, tab)) (hp : pc + len = pc') : zrunL X calls C cuts pc ls (.inr (.inl y) :: .inr (.inl x) :: st) (L, σ) = if x = y then zJ X calls C cuts pc' ls st (L, σ) else zJ X calls C cuts a ls st (L, σ) := by
  subst hp
  rw [zq0 hm hk]
  rfl
theorem zq_zne {o x : Int} (hm : zCm calls) (hk : zlook C pc = some (.ifCond .ne o, len, a, b, c, d, tab)) (hp : pc + len = pc') : zrunL X calls C cuts pc ls (.inr (.inl x) :: st) (L, σ) = if x = 0 then zJ X calls C cuts pc' ls st (L, σ) else zJ X calls C cuts a ls st (L, σ) := by
  subst hp
  rw [zq0 hm hk]
  rfl
theorem zq_ilt {o x y : Int} (hm : zCm calls) (hk : zlook C pc = some (.if_icmp .lt o, len, a, b, c, d, tab)) (hp : pc + len = pc') : zrunL X calls C cuts pc ls (.inr (.inl y) :: .inr (.inl x) :: st) (L, σ) = if x < y then zJ X calls C cuts a ls st (L, σ) else zJ X calls C cuts pc' ls st (L, σ) := by
  subst hp
  rw [zq0 hm hk]
  rfl
theorem zq_zlt {o x : Int} (hm : zCm calls) (hk : zlook C pc = some (.ifCond .lt o, len, a, b, c, d, tab)) (hp : pc + len = pc') : zrunL X calls C cuts pc ls (.inr (.inl x) :: st) (L, σ) = if x < 0 then zJ X calls C cuts a ls st (L, σ) else zJ X calls C cuts pc' ls st (L, σ) := by
  subst hp
  rw [zq0 hm hk]
  rfl
theorem zq_ige {o x y : Int} (hm : zCm calls) (hk : zlook C pc = some (.if_icmp .ge o, len, a, b, c, d, tab)) (hp : pc + len = pc') : zrunL X calls C cuts pc ls (.inr (.inl y) :: .inr (.inl x) :: st) (L, σ) = if x < y then zJ X calls C cuts pc' ls st (L, σ) else zJ X calls C cuts a ls st (L, σ) := by
  subst hp
  rw [zq0 hm hk]
  rfl
theorem zq_zge {o x : Int} (hm : zCm calls) (hk : zlook C pc = some (.ifCond .ge o, len, a, b, c, d, tab)) (hp : pc + len = pc') : zrunL X calls C cuts pc ls (.inr (.inl x) :: st) (L, σ) = if x < 0 then zJ X calls C cuts pc' ls st (L, σ) else zJ X calls C cuts a ls st (L, σ) := by
  subst hp
  rw [zq0 hm hk]
  rfl
theorem zq_igt {o x y : Int} (hm : zCm calls) (hk : zlook C pc = some (.if_icmp .gt o, len, a, b, c, d, tab)) (hp : pc + len = pc') : zrunL X calls C cuts pc ls (.inr (.inl y) :: .inr (.inl x) :: st) (L, σ) = if y < x then zJ X calls C cuts a ls st (L, σ) else zJ X calls C cuts pc' ls st (L, σ) := by
  subst hp
  rw [zq0 hm hk]
  rfl
theorem zq_zgt {o x : Int} (hm : zCm calls) (hk : zlook C pc = some (.ifCond .gt o, len, a, b, c, d, tab)) (hp : pc + len = pc') : zrunL X calls C cuts pc ls (.inr (.inl x) :: st) (L, σ) = if 0 < x then zJ X calls C cuts a ls st (L, σ) else zJ X calls C cuts pc' ls st (L, σ) := by
  subst hp
  rw [zq0 hm hk]
  rfl
theorem zq_ile {o x y : Int} (hm : zCm calls) (hk : zlook C pc = some (.if_icmp .le o, len, a, b, c, d, tab)) (hp : pc + len = pc') : zrunL X calls C cuts pc ls (.inr (.inl y) :: .inr (.inl x) :: st) (L, σ) = if y < x then zJ X calls C cuts pc' ls st (L, σ) else zJ X calls C cuts a ls st (L, σ) := by
  subst hp
  rw [zq0 hm hk]
  rfl
theorem zq_zle {o x : Int} (hm : zCm calls) (hk : zlook C pc = some (.ifCond .le o, len, a, b, c, d, tab)) (hp : pc + len = pc') : zrunL X calls C cuts pc ls (.inr (.inl x) :: st) (L, σ) = if 0 < x then zJ X calls C cuts pc' ls st (L, σ) else zJ X calls C cuts a ls st (L, σ) := by
  subst hp
  rw [zq0 hm hk]
  rfl
theorem zq_ts {x : Int} {df lo hi : Int} {of : Array Int} (hm : zCm calls) (hk : zlook C pc = some (.tableswitch df lo hi of, len, a, b, c, d, tab)) : zrunL X calls C cuts pc ls (.inr (.inl x) :: st) (L, σ) = zsw (fun t => zJ X calls C cuts t ls st (L, σ)) d tab x := by
  rw [zq0 hm hk]
  rfl
theorem zq_lk {x : Int} {df : Int} {ps : Array (Int × Int)} (hm : zCm calls) (hk : zlook C pc = some (.lookupswitch df ps, len, a, b, c, d, tab)) : zrunL X calls C cuts pc ls (.inr (.inl x) :: st) (L, σ) = zsw (fun t => zJ X calls C cuts t ls st (L, σ)) d tab x := by
  rw [zq0 hm hk]
  rfl
theorem zq_idiv {x y : Int} (hm : zCm calls) (hk : zlook C pc = some (.idiv, len, a, b, c, d, tab)) (hp : pc + len = pc') : zrunL X calls C cuts pc ls (.inr (.inl y) :: .inr (.inl x) :: st) (L, σ) = if y = 0 then none else zJ X calls C cuts pc' ls (.inr (.inl (zdiv x y)) :: st) (L, σ) := by
  subst hp
  rw [zq0 hm hk]
  rfl
theorem zq_irem {x y : Int} (hm : zCm calls) (hk : zlook C pc = some (.irem, len, a, b, c, d, tab)) (hp : pc + len = pc') : zrunL X calls C cuts pc ls (.inr (.inl y) :: .inr (.inl x) :: st) (L, σ) = if y = 0 then none else zJ X calls C cuts pc' ls (.inr (.inl (zrem x y)) :: st) (L, σ) := by
  subst hp
  rw [zq0 hm hk]
  rfl
theorem zq_gf {n o : Nat} {fs : List (Option (Option Nat))} {v : Int} (hm : zCm calls) (hk : zlook C pc = some (.getfield n, len, a, b, c, d, tab)) (hL : L[o]? = some (.inr (a, fs))) (hf : fs[b]? = some none) (hv : σ o b = v) (hp : pc + len = pc') : zrunL X calls C cuts pc ls (.inl (some o) :: st) (L, σ) = zJ X calls C cuts pc' ls (.inr (.inl v) :: st) (L, σ) := by
  subst hp
  rw [zq0 hm hk]
  subst hv
  show zfld L o a b _ _ = _
  unfold zfld
  rw [hL]
  dsimp only
  rw [Nat.beq_refl, hf]
  rfl
theorem zq_gr {n o t : Nat} {fs : List (Option (Option Nat))} (hm : zCm calls) (hk : zlook C pc = some (.getfield n, len, a, b, c, d, tab)) (hL : L[o]? = some (.inr (a, fs))) (hf : fs[b]? = some (some (some t))) (hp : pc + len = pc') : zrunL X calls C cuts pc ls (.inl (some o) :: st) (L, σ) = zJ X calls C cuts pc' ls (.inl (some t) :: st) (L, σ) := by
  subst hp
  rw [zq0 hm hk]
  show zfld L o a b _ _ = _
  unfold zfld
  rw [hL]
  dsimp only
  rw [Nat.beq_refl, hf]
  rfl
theorem zq_gs {n o : Nat} (hm : zCm calls) (hk : zlook C pc = some (.getfield n, len, a, b, c, d, tab)) (hp : pc + len = pc') : zrunL X calls C cuts pc ls (.inl (some o) :: st) (L, σ) = zfld L o a b (zJ X calls C cuts pc' ls (.inr (.inl (σ o b)) :: st) (L, σ)) (fun t => zJ X calls C cuts pc' ls (.inl (some t) :: st) (L, σ)) := by
  subst hp
  rw [zq0 hm hk]
  rfl
theorem zq_pf {n o : Nat} {x : Int} {fs : List (Option (Option Nat))} (hm : zCm calls) (hk : zlook C pc = some (.putfield n, len, a, b, c, d, tab)) (hL : L[o]? = some (.inr (a, fs))) (hf : fs[b]? = some none) (h0 : c = 0) (hp : pc + len = pc') : zrunL X calls C cuts pc ls (.inr (.inl x) :: .inl (some o) :: st) (L, σ) = zJ X calls C cuts pc' ls st (L, zset σ o b x) := by
  subst hp
  rw [zq0 hm hk]
  subst h0
  show zputK L o a b 0 x _ = _
  unfold zputK
  rw [hL]
  dsimp only
  rw [Nat.beq_refl, hf]
  rfl
theorem zq_pb {n o : Nat} {x : Int} {fs : List (Option (Option Nat))} (hm : zCm calls) (hk : zlook C pc = some (.putfield n, len, a, b, c, d, tab)) (hL : L[o]? = some (.inr (a, fs))) (hf : fs[b]? = some none) (h0 : c = 1) (hp : pc + len = pc') : zrunL X calls C cuts pc ls (.inr (.inl x) :: .inl (some o) :: st) (L, σ) = if x = 0 ∨ x = 1 then zJ X calls C cuts pc' ls st (L, zset σ o b x) else none := by
  subst hp
  rw [zq0 hm hk]
  subst h0
  show zputK L o a b 1 x _ = _
  unfold zputK
  rw [hL]
  dsimp only
  rw [Nat.beq_refl, hf]
  rfl
theorem zq_ps {n o : Nat} {x : Int} (hm : zCm calls) (hk : zlook C pc = some (.putfield n, len, a, b, c, d, tab)) (hp : pc + len = pc') : zrunL X calls C cuts pc ls (.inr (.inl x) :: .inl (some o) :: st) (L, σ) = zputK L o a b c x (zJ X calls C cuts pc' ls st (L, zset σ o b x)) := by
  subst hp
  rw [zq0 hm hk]
  rfl
theorem zq_gst {n : Nat} (hm : zCm calls) (hk : zlook C pc = some (.getstatic n, len, a, b, c, d, tab)) (hp : pc + len = pc') : zrunL X calls C cuts pc ls (st) (L, σ) = zJ X calls C cuts pc' ls (.inl (some b) :: st) (L, σ) := by
  subst hp
  rw [zq0 hm hk]
  rfl
theorem zq_ia {o n : Nat} {i v : Int} {ts : List (Option Nat)} (hm : zCm calls) (hk : zlook C pc = some (.iaload, len, a, b, c, d, tab)) (hL : L[o]? = some (.inl (0, n, ts))) (hv : σ o i = v) (hp : pc + len = pc') : zrunL X calls C cuts pc ls (.inr (.inl i) :: .inl (some o) :: st) (L, σ) = if 0 ≤ i ∧ i < (n : Int) then zJ X calls C cuts pc' ls (.inr (.inl v) :: st) (L, σ) else none := by
  subst hp
  rw [zq0 hm hk]
  subst hv
  simp only [zgo, zI1, zR1, zia, hL]
  rfl
theorem zq_ix {o n : Nat} {i : Int} {f : Nat → Int} (hm : zCm calls) (hk : zlook C pc = some (.iaload, len, a, b, c, d, tab)) (hL : L[o]? = none) (ho : Nat.blt o 1000 = false) (hX : X[o - 1000]? = some (n, f)) (hp : pc + len = pc') : zrunL X calls C cuts pc ls (.inr (.inl i) :: .inl (some o) :: st) (L, σ) = if 0 ≤ i ∧ i < (n : Int) then zJ X calls C cuts pc' ls (.inr (.inl (f i.toNat)) :: st) (L, σ) else none := by
  subst hp
  rw [zq0 hm hk]
  simp only [zgo, zI1, zR1, zia, hL, ho, hX, cond_false]
  rfl
theorem zq_iy {o : Nat} {i : Int} (hm : zCm calls) (hk : zlook C pc = some (.iaload, len, a, b, c, d, tab)) (hp : pc + len = pc') : zrunL X calls C cuts pc ls (.inr (.inl i) :: .inl (some o) :: st) (L, σ) = zia X L σ o i (fun v => zJ X calls C cuts pc' ls (.inr (.inl v) :: st) (L, σ)) := by
  subst hp
  rw [zq0 hm hk]
  rfl
theorem zq_ist {o n : Nat} {i x : Int} {ts : List (Option Nat)} (hm : zCm calls) (hk : zlook C pc = some (.iastore, len, a, b, c, d, tab)) (hL : L[o]? = some (.inl (0, n, ts))) (hp : pc + len = pc') : zrunL X calls C cuts pc ls (.inr (.inl x) :: .inr (.inl i) :: .inl (some o) :: st) (L, σ) = if 0 ≤ i ∧ i < (n : Int) then zJ X calls C cuts pc' ls st (L, zset σ o i x) else none := by
  subst hp
  rw [zq0 hm hk]
  show zar L 0 o i _ = _
  unfold zar
  rw [hL]
  rfl
theorem zq_isy {o : Nat} {i x : Int} (hm : zCm calls) (hk : zlook C pc = some (.iastore, len, a, b, c, d, tab)) (hp : pc + len = pc') : zrunL X calls C cuts pc ls (.inr (.inl x) :: .inr (.inl i) :: .inl (some o) :: st) (L, σ) = zar L 0 o i (zJ X calls C cuts pc' ls st (L, zset σ o i x)) := by
  subst hp
  rw [zq0 hm hk]
  rfl
theorem zq_lst {o n : Nat} {i x : Int} {ts : List (Option Nat)} (hm : zCm calls) (hk : zlook C pc = some (.lastore, len, a, b, c, d, tab)) (hL : L[o]? = some (.inl (1, n, ts))) (hp : pc + len = pc') : zrunL X calls C cuts pc ls (.inr (.inr x) :: .inr (.inl i) :: .inl (some o) :: st) (L, σ) = if 0 ≤ i ∧ i < (n : Int) then zJ X calls C cuts pc' ls st (L, zset σ o i x) else none := by
  subst hp
  rw [zq0 hm hk]
  show zar L 1 o i _ = _
  unfold zar
  rw [hL]
  rfl
theorem zq_lsy {o : Nat} {i x : Int} (hm : zCm calls) (hk : zlook C pc = some (.lastore, len, a, b, c, d, tab)) (hp : pc + len = pc') : zrunL X calls C cuts pc ls (.inr (.inr x) :: .inr (.inl i) :: .inl (some o) :: st) (L, σ) = zar L 1 o i (zJ X calls C cuts pc' ls st (L, zset σ o i x)) := by
  subst hp
  rw [zq0 hm hk]
  rfl
theorem zq_lal {o n : Nat} {i v : Int} {ts : List (Option Nat)} (hm : zCm calls) (hk : zlook C pc = some (.laload, len, a, b, c, d, tab)) (hL : L[o]? = some (.inl (1, n, ts))) (hv : σ o i = v) (hp : pc + len = pc') : zrunL X calls C cuts pc ls (.inr (.inl i) :: .inl (some o) :: st) (L, σ) = if 0 ≤ i ∧ i < (n : Int) then zJ X calls C cuts pc' ls (.inr (.inr v) :: st) (L, σ) else none := by
  subst hp
  rw [zq0 hm hk]
  subst hv
  show zar L 1 o i _ = _
  unfold zar
  rw [hL]
  rfl
theorem zq_lay {o : Nat} {i : Int} (hm : zCm calls) (hk : zlook C pc = some (.laload, len, a, b, c, d, tab)) (hp : pc + len = pc') : zrunL X calls C cuts pc ls (.inr (.inl i) :: .inl (some o) :: st) (L, σ) = zar L 1 o i (zJ X calls C cuts pc' ls (.inr (.inr (σ o i)) :: st) (L, σ)) := by
  subst hp
  rw [zq0 hm hk]
  rfl
theorem zq_aa {o : Nat} {i : Int} (hm : zCm calls) (hk : zlook C pc = some (.aaload, len, a, b, c, d, tab)) (hp : pc + len = pc') : zrunL X calls C cuts pc ls (.inr (.inl i) :: .inl (some o) :: st) (L, σ) = zaa L o i (fun t => zJ X calls C cuts pc' ls (.inl (some t) :: st) (L, σ)) := by
  subst hp
  rw [zq0 hm hk]
  rfl
theorem zq_len {o t n : Nat} {ts : List (Option Nat)} {v : Int} (hm : zCm calls) (hk : zlook C pc = some (.arraylength, len, a, b, c, d, tab)) (hL : L[o]? = some (.inl (t, n, ts))) (hv : (n : Int) = v) (hp : pc + len = pc') : zrunL X calls C cuts pc ls (.inl (some o) :: st) (L, σ) = zJ X calls C cuts pc' ls (.inr (.inl v) :: st) (L, σ) := by
  subst hp
  rw [zq0 hm hk]
  subst hv
  show zlen X L o _ = _
  unfold zlen
  rw [hL]
  rfl
theorem zq_leny {o : Nat} (hm : zCm calls) (hk : zlook C pc = some (.arraylength, len, a, b, c, d, tab)) (hp : pc + len = pc') : zrunL X calls C cuts pc ls (.inl (some o) :: st) (L, σ) = zlen X L o (fun n => zJ X calls C cuts pc' ls (.inr (.inl n) :: st) (L, σ)) := by
  subst hp
  rw [zq0 hm hk]
  rfl
theorem zq_max {n : Nat} {x y : Int} (hm : zCm calls) (hk : zlook C pc = some (.invokestatic n, len, a, b, c, d, tab)) (ha : a = 1001) (hw : Nat.ble (zwords st) 8 = true) (hp : pc + len = pc') : zrunL X calls C cuts pc ls (.inr (.inl y) :: .inr (.inl x) :: st) (L, σ) = zJ X calls C cuts pc' ls (.inr (.inl (zmax x y)) :: st) (L, σ) := by
  subst hp
  rw [zq0 hm hk]
  subst ha
  show (bif Nat.ble (zwords st) 8 then _ else _) = _
  rw [hw]
  rfl
theorem zq_min {n : Nat} {x y : Int} (hm : zCm calls) (hk : zlook C pc = some (.invokestatic n, len, a, b, c, d, tab)) (ha : a = 1002) (hw : Nat.ble (zwords st) 8 = true) (hp : pc + len = pc') : zrunL X calls C cuts pc ls (.inr (.inl y) :: .inr (.inl x) :: st) (L, σ) = zJ X calls C cuts pc' ls (.inr (.inl (zmin x y)) :: st) (L, σ) := by
  subst hp
  rw [zq0 hm hk]
  subst ha
  show (bif Nat.ble (zwords st) 8 then _ else _) = _
  rw [hw]
  rfl
theorem zq_arc {n o1 o2 t n1 n2 : Nat} {k sp dp : Int} {ts1 ts2 : List (Option Nat)} (hm : zCm calls) (hk : zlook C pc = some (.invokestatic n, len, a, b, c, d, tab)) (ha : a = 1003) (hw : Nat.ble (zwords st) 8 = true) (h1 : L[o1]? = some (.inl (t, n1, ts1))) (h2 : L[o2]? = some (.inl (t, n2, ts2))) (ht : Nat.blt t 2 = true) (hp : pc + len = pc') : zrunL X calls C cuts pc ls (.inr (.inl k) :: .inr (.inl dp) :: .inl (some o2) :: .inr (.inl sp) :: .inl (some o1) :: st) (L, σ) = if 0 ≤ k ∧ 0 ≤ sp ∧ 0 ≤ dp ∧ sp + k ≤ (n1 : Int) ∧ dp + k ≤ (n2 : Int) then zJ X calls C cuts pc' ls st (L, zcpy σ o1 sp o2 dp k) else none := by
  subst hp
  rw [zq0 hm hk]
  subst ha
  show zarcK L o1 o2 k sp dp (bif Nat.ble (zwords st) 8 then _ else _) = _
  rw [hw]
  unfold zarcK
  rw [h1, h2]
  dsimp only
  rw [Nat.beq_refl, ht]
  rfl
theorem zq_arcy {n o1 o2 : Nat} {k sp dp : Int} (hm : zCm calls) (hk : zlook C pc = some (.invokestatic n, len, a, b, c, d, tab)) (ha : a = 1003) (hw : Nat.ble (zwords st) 8 = true) (hp : pc + len = pc') : zrunL X calls C cuts pc ls (.inr (.inl k) :: .inr (.inl dp) :: .inl (some o2) :: .inr (.inl sp) :: .inl (some o1) :: st) (L, σ) = zarcK L o1 o2 k sp dp (zJ X calls C cuts pc' ls st (L, zcpy σ o1 sp o2 dp k)) := by
  subst hp
  rw [zq0 hm hk]
  subst ha
  show zarcK L o1 o2 k sp dp (bif Nat.ble (zwords st) 8 then _ else _) = _
  rw [hw]
  rfl
theorem zq_v0 {n o : Nat} {vs r : List zV} (hm : zCm calls) (hk : zlook C pc = some (.invokevirtual n, len, a, b, c, d, tab)) (h0 : c = 0) (ht : ztk b [] st = some (vs, .inl (some o) :: r)) (hcl : zcls L o d = true) (hw : Nat.ble (zwords r) 8 = true) (hp : pc + len = pc') : zrunL X calls C cuts pc ls st (L, σ) = zCV L (calls a (.inl (some o) :: vs) (L, σ)) (fun σ' => zJ X calls C cuts pc' ls (r) (L, σ')) := by
  subst hp
  subst h0
  rw [zq0 hm hk]
  simp only [zgo, ht, zR1, hcl, hw, Bool.and_self, cond_true]
  rfl
theorem zq_vy0 {n o : Nat} {vs r : List zV} (hm : zCm calls) (hk : zlook C pc = some (.invokevirtual n, len, a, b, c, d, tab)) (h0 : c = 0) (ht : ztk b [] st = some (vs, .inl (some o) :: r)) (hw : Nat.ble (zwords r) 8 = true) (hp : pc + len = pc') : zrunL X calls C cuts pc ls st (L, σ) = bif zcls L o d && true then zCV L (calls a (.inl (some o) :: vs) (L, σ)) (fun σ' => zJ X calls C cuts pc' ls (r) (L, σ')) else none := by
  subst hp
  subst h0
  rw [zq0 hm hk]
  simp only [zgo, ht, zR1, hw]
  rfl
theorem zq_s0 {n : Nat} {vs r : List zV} (hm : zCm calls) (hk : zlook C pc = some (.invokestatic n, len, a, b, c, d, tab)) (ha : Nat.blt a 1000 = true) (h0 : c = 0) (ht : ztk b [] st = some (vs, r)) (hw : Nat.ble (zwords r) 8 = true) (hp : pc + len = pc') : zrunL X calls C cuts pc ls st (L, σ) = zCV L (calls a vs (L, σ)) (fun σ' => zJ X calls C cuts pc' ls (r) (L, σ')) := by
  subst hp
  subst h0
  rw [zq0 hm hk]
  rw [Nat.blt_eq] at ha
  unfold zgo
  dsimp only
  split
  · omega
  · omega
  · omega
  · rw [ht]
    dsimp only
    rw [hw]
    rfl
theorem zq_v1 {n o : Nat} {vs r : List zV} (hm : zCm calls) (hk : zlook C pc = some (.invokevirtual n, len, a, b, c, d, tab)) (h0 : c = 1) (ht : ztk b [] st = some (vs, .inl (some o) :: r)) (hcl : zcls L o d = true) (hw : Nat.ble (zwords r) 8 = true) (hp : pc + len = pc') : zrunL X calls C cuts pc ls st (L, σ) = zCI L (calls a (.inl (some o) :: vs) (L, σ)) (fun v σ' => zJ X calls C cuts pc' ls (.inr (.inl v) :: r) (L, σ')) := by
  subst hp
  subst h0
  rw [zq0 hm hk]
  simp only [zgo, ht, zR1, hcl, hw, Bool.and_self, cond_true]
  rfl
theorem zq_vy1 {n o : Nat} {vs r : List zV} (hm : zCm calls) (hk : zlook C pc = some (.invokevirtual n, len, a, b, c, d, tab)) (h0 : c = 1) (ht : ztk b [] st = some (vs, .inl (some o) :: r)) (hw : Nat.ble (zwords r) 8 = true) (hp : pc + len = pc') : zrunL X calls C cuts pc ls st (L, σ) = bif zcls L o d && true then zCI L (calls a (.inl (some o) :: vs) (L, σ)) (fun v σ' => zJ X calls C cuts pc' ls (.inr (.inl v) :: r) (L, σ')) else none := by
  subst hp
  subst h0
  rw [zq0 hm hk]
  simp only [zgo, ht, zR1, hw]
  rfl
theorem zq_s1 {n : Nat} {vs r : List zV} (hm : zCm calls) (hk : zlook C pc = some (.invokestatic n, len, a, b, c, d, tab)) (ha : Nat.blt a 1000 = true) (h0 : c = 1) (ht : ztk b [] st = some (vs, r)) (hw : Nat.ble (zwords r) 8 = true) (hp : pc + len = pc') : zrunL X calls C cuts pc ls st (L, σ) = zCI L (calls a vs (L, σ)) (fun v σ' => zJ X calls C cuts pc' ls (.inr (.inl v) :: r) (L, σ')) := by
  subst hp
  subst h0
  rw [zq0 hm hk]
  rw [Nat.blt_eq] at ha
  unfold zgo
  dsimp only
  split
  · omega
  · omega
  · omega
  · rw [ht]
    dsimp only
    rw [hw]
    rfl
theorem zq_v2 {n o : Nat} {vs r : List zV} (hm : zCm calls) (hk : zlook C pc = some (.invokevirtual n, len, a, b, c, d, tab)) (h0 : c = 2) (ht : ztk b [] st = some (vs, .inl (some o) :: r)) (hcl : zcls L o d = true) (hw : Nat.ble (zwords r) 8 = true) (hp : pc + len = pc') : zrunL X calls C cuts pc ls st (L, σ) = zCJ L (calls a (.inl (some o) :: vs) (L, σ)) (fun v σ' => zJ X calls C cuts pc' ls (.inr (.inr v) :: r) (L, σ')) := by
  subst hp
  subst h0
  rw [zq0 hm hk]
  simp only [zgo, ht, zR1, hcl, hw, Bool.and_self, cond_true]
  rfl
theorem zq_vy2 {n o : Nat} {vs r : List zV} (hm : zCm calls) (hk : zlook C pc = some (.invokevirtual n, len, a, b, c, d, tab)) (h0 : c = 2) (ht : ztk b [] st = some (vs, .inl (some o) :: r)) (hw : Nat.ble (zwords r) 8 = true) (hp : pc + len = pc') : zrunL X calls C cuts pc ls st (L, σ) = bif zcls L o d && true then zCJ L (calls a (.inl (some o) :: vs) (L, σ)) (fun v σ' => zJ X calls C cuts pc' ls (.inr (.inr v) :: r) (L, σ')) else none := by
  subst hp
  subst h0
  rw [zq0 hm hk]
  simp only [zgo, ht, zR1, hw]
  rfl
theorem zq_s2 {n : Nat} {vs r : List zV} (hm : zCm calls) (hk : zlook C pc = some (.invokestatic n, len, a, b, c, d, tab)) (ha : Nat.blt a 1000 = true) (h0 : c = 2) (ht : ztk b [] st = some (vs, r)) (hw : Nat.ble (zwords r) 8 = true) (hp : pc + len = pc') : zrunL X calls C cuts pc ls st (L, σ) = zCJ L (calls a vs (L, σ)) (fun v σ' => zJ X calls C cuts pc' ls (.inr (.inr v) :: r) (L, σ')) := by
  subst hp
  subst h0
  rw [zq0 hm hk]
  rw [Nat.blt_eq] at ha
  unfold zgo
  dsimp only
  split
  · omega
  · omega
  · omega
  · rw [ht]
    dsimp only
    rw [hw]
    rfl
theorem zq_v3 {n o : Nat} {vs r : List zV} (hm : zCm calls) (hk : zlook C pc = some (.invokevirtual n, len, a, b, c, d, tab)) (h0 : c = 3) (ht : ztk b [] st = some (vs, .inl (some o) :: r)) (hcl : zcls L o d = true) (hw : Nat.ble (zwords r) 8 = true) (hp : pc + len = pc') : zrunL X calls C cuts pc ls st (L, σ) = zCR L (calls a (.inl (some o) :: vs) (L, σ)) (fun v σ' => zJ X calls C cuts pc' ls (.inl (some v) :: r) (L, σ')) := by
  subst hp
  subst h0
  rw [zq0 hm hk]
  simp only [zgo, ht, zR1, hcl, hw, Bool.and_self, cond_true]
  rfl
theorem zq_vy3 {n o : Nat} {vs r : List zV} (hm : zCm calls) (hk : zlook C pc = some (.invokevirtual n, len, a, b, c, d, tab)) (h0 : c = 3) (ht : ztk b [] st = some (vs, .inl (some o) :: r)) (hw : Nat.ble (zwords r) 8 = true) (hp : pc + len = pc') : zrunL X calls C cuts pc ls st (L, σ) = bif zcls L o d && true then zCR L (calls a (.inl (some o) :: vs) (L, σ)) (fun v σ' => zJ X calls C cuts pc' ls (.inl (some v) :: r) (L, σ')) else none := by
  subst hp
  subst h0
  rw [zq0 hm hk]
  simp only [zgo, ht, zR1, hw]
  rfl
theorem zq_s3 {n : Nat} {vs r : List zV} (hm : zCm calls) (hk : zlook C pc = some (.invokestatic n, len, a, b, c, d, tab)) (ha : Nat.blt a 1000 = true) (h0 : c = 3) (ht : ztk b [] st = some (vs, r)) (hw : Nat.ble (zwords r) 8 = true) (hp : pc + len = pc') : zrunL X calls C cuts pc ls st (L, σ) = zCR L (calls a vs (L, σ)) (fun v σ' => zJ X calls C cuts pc' ls (.inl (some v) :: r) (L, σ')) := by
  subst hp
  subst h0
  rw [zq0 hm hk]
  rw [Nat.blt_eq] at ha
  unfold zgo
  dsimp only
  split
  · omega
  · omega
  · omega
  · rw [ht]
    dsimp only
    rw [hw]
    rfl
theorem zq_ri {x : Int} (hm : zCm calls) (hk : zlook C pc = some (.ireturn, len, a, b, c, d, tab)) (ha : a = 0) : zrunL X calls C cuts pc ls [.inr (.inl x)] (L, σ) = some (some (.inr (.inl x)), (L, σ)) := by
  subst ha
  rw [zq0 hm hk]
  rfl
theorem zq_rb {x : Int} (hm : zCm calls) (hk : zlook C pc = some (.ireturn, len, a, b, c, d, tab)) (ha : a = 1) : zrunL X calls C cuts pc ls [.inr (.inl x)] (L, σ) = if x = 0 ∨ x = 1 then some (some (.inr (.inl x)), (L, σ)) else none := by
  subst ha
  rw [zq0 hm hk]
  rfl
theorem zq_rj {x : Int} (hm : zCm calls) (hk : zlook C pc = some (.lreturn, len, a, b, c, d, tab)) : zrunL X calls C cuts pc ls [.inr (.inr x)] (L, σ) = some (some (.inr (.inr x)), (L, σ)) := by
  rw [zq0 hm hk]
  rfl
theorem zq_rr {x : Nat} (hm : zCm calls) (hk : zlook C pc = some (.areturn, len, a, b, c, d, tab)) : zrunL X calls C cuts pc ls [.inl (some x)] (L, σ) = some (some (.inl (some x)), (L, σ)) := by
  rw [zq0 hm hk]
  rfl
theorem zq_rv (hm : zCm calls) (hk : zlook C pc = some (.return_, len, a, b, c, d, tab)) : zrunL X calls C cuts pc ls [] (L, σ) = some (none, (L, σ)) := by
  rw [zq0 hm hk]
  rfl
theorem zsw_c {k k' : Nat → Option zR} {d : Nat} {v : Int} {t : Nat} {r : List (Int × Nat)} {x : Int} {A B : Option zR} (h1 : k t = A) (h2 : zsw k d r x = B) : zsw k d ((v, t) :: r) x = if x = v then A else B := by rw [← h1, ← h2]; rfl
theorem zsw_n {k : Nat → Option zR} {d : Nat} {x : Int} {B : Option zR} (h : k d = B) : zsw k d [] x = B := h
theorem zCV_c {L : List zS} {o o' : Option zR} {k k' : zF → Option zR} (h0 : o = o') (h : ∀ σ, k σ = k' σ) : zCV L o k = zCV L o' k' := by rw [h0, show k = k' from funext h]
theorem zCI_c {L : List zS} {o o' : Option zR} {k k' : Int → zF → Option zR} (h0 : o = o') (h : ∀ v σ, k v σ = k' v σ) : zCI L o k = zCI L o' k' := by rw [h0, show k = k' from funext fun v => funext fun σ => h v σ]
theorem zCJ_c {L : List zS} {o o' : Option zR} {k k' : Int → zF → Option zR} (h0 : o = o') (h : ∀ v σ, k v σ = k' v σ) : zCJ L o k = zCJ L o' k' := by rw [h0, show k = k' from funext fun v => funext fun σ => h v σ]
theorem zCR_c {L : List zS} {o o' : Option zR} {k k' : Nat → zF → Option zR} (h0 : o = o') (h : ∀ v σ, k v σ = k' v σ) : zCR L o k = zCR L o' k' := by rw [h0, show k = k' from funext fun v => funext fun σ => h v σ]
theorem zbif_c {p : Bool} {A A' : Option zR} (h : A = A') : (bif p then A else none) = (bif p then A' else none) := by rw [h]
theorem zfld_c {L : List zS} {o a b : Nat} {kI kI' : Option zR} {kR kR' : Nat → Option zR} (h1 : kI = kI') (h2 : ∀ t, kR t = kR' t) : zfld L o a b kI kR = zfld L o a b kI' kR' := by rw [h1, show kR = kR' from funext h2]
theorem zfld_i {L : List zS} {o a b : Nat} {kI kI' : Option zR} {kR kR' : Nat → Option zR} (h0 : ∀ t fs, L[o]? = some (.inr (a, fs)) → ¬ fs[b]? = some (some (some t))) (h1 : kI = kI') : zfld L o a b kI kR = zfld L o a b kI' kR' := by
  unfold zfld
  split
  · next ci fs e =>
    cases hb : Nat.beq ci a
    · rfl
    · have : ci = a := Nat.eq_of_beq_eq_true hb
      subst this
      rcases hf : fs[b]? with _ | _ | _ | t
      · rfl
      · exact h1
      · rfl
      · exact absurd hf (h0 t fs e)
  · rfl
theorem zputK_c {L : List zS} {o a b c : Nat} {x : Int} {A A' : Option zR} (h : A = A') : zputK L o a b c x A = zputK L o a b c x A' := by rw [h]
theorem zarcK_c {L : List zS} {o1 o2 : Nat} {n sp dp : Int} {A A' : Option zR} (h : A = A') : zarcK L o1 o2 n sp dp A = zarcK L o1 o2 n sp dp A' := by rw [h]
theorem zar_c {L : List zS} {tag o : Nat} {i : Int} {A A' : Option zR} (h : A = A') : zar L tag o i A = zar L tag o i A' := by rw [h]
theorem zaa_c {L : List zS} {o : Nat} {i : Int} {k k' : Nat → Option zR} (h : ∀ t, k t = k' t) : zaa L o i k = zaa L o i k' := by rw [show k = k' from funext h]
theorem zia_c {X : zX} {L : List zS} {σ : zF} {o : Nat} {i : Int} {k k' : Int → Option zR} (h : ∀ t, k t = k' t) : zia X L σ o i k = zia X L σ o i k' := by rw [show k = k' from funext h]
theorem zlen_c {X : zX} {L : List zS} {o : Nat} {k k' : Nat → Option zR} (h : ∀ t, k t = k' t) : zlen X L o k = zlen X L o k' := by rw [show k = k' from funext h]
end
