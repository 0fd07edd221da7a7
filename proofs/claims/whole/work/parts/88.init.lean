/-! the beginning: a run that can be computed -/
theorem zC_cm {kind : Nat} {L : List zS} {o1 o2 : Option zR} {k : List zV → zF → Option zR} {v : zR} (h : ∀ w, o1 = some w → o2 = some w) (e : zC kind L o1 k = some v) : zC kind L o2 k = some v := by
  rcases o1 with _ | w
  · exfalso
    revert e
    unfold zC
    split <;> (intro e; cases e)
  · rw [h w rfl]
    exact e
theorem zCN_cm {o1 o2 : Option zR} {k : zH → Option zR} {v : zR} (h : ∀ w, o1 = some w → o2 = some w) (e : zCN o1 k = some v) : zCN o2 k = some v := by
  rcases o1 with _ | w
  · cases e
  · rw [h w rfl]
    exact e
theorem zbif_cm {p : Bool} {A B : Option zR} {v : zR} (h : A = some v → B = some v) (e : (bif p then A else none) = some v) : (bif p then B else none) = some v := by
  cases p
  · exact e
  · exact h e
theorem zR1_cm {st : List zV} {k1 k2 : Nat → List zV → Option zR} {v : zR} (h : ∀ o r, k1 o r = some v → k2 o r = some v) (e : zR1 st k1 = some v) : zR1 st k2 = some v := by
  rcases st with _ | ⟨(_ | o) | x, r⟩
  · exact e
  · exact e
  · exact h o r e
  · exact e
theorem zk_cm {q : Option (List zV × List zV)} {A B : List zV → List zV → Option zR} {v : zR} (h : ∀ vs r, A vs r = some v → B vs r = some v) : (match q with | some (vs, r) => A vs r | none => none) = some v → (match q with | some (vs, r) => B vs r | none => none) = some v := by
  rcases q with _ | ⟨vs, r⟩
  · exact id
  · exact h vs r
theorem zgo_cm {X : zX} {c1 c2 : zCalls} (h : ∀ id vs g w, c1 id vs g = some w → c2 id vs g = some w) {K : zK} {i : Instr} {len a b c d : Nat} {tab : List (Int × Nat)} {pc : Nat} {ls : zL} {st : List zV} {L : List zS} {σ : zF} {v : zR} (e : zgo X c1 K i len a b c d tab pc ls st L σ = some v) : zgo X c2 K i len a b c d tab pc ls st L σ = some v := by
  cases i
  case invokevirtual n =>
    simp only [zgo] at e ⊢
    exact zk_cm (fun vs r => zR1_cm (fun o r' => zbif_cm (zC_cm (h _ _ _)))) e
  case invokestatic n =>
    simp only [zgo] at e ⊢
    split at e
    · exact e
    · exact e
    · exact e
    · next h1 h2 h3 =>
      split
      · next vs r hq =>
        rw [hq] at e
        exact zbif_cm (zC_cm (h _ _ _)) e
      · next hq =>
        rw [hq] at e
        exact e
  case invokespecial n =>
    simp only [zgo] at e ⊢
    split at e
    · exact e
    · next h1 =>
      split
      · next vs r hq =>
        rw [hq] at e
        exact zR1_cm (fun o r' => zbif_cm (zCN_cm (h _ _ _))) e
      · next hq =>
        rw [hq] at e
        exact e
  all_goals exact e
theorem zstp_cm {X : zX} {c1 c2 : zCalls} (h : ∀ id vs g w, c1 id vs g = some w → c2 id vs g = some w) {C : List (Nat × zI)} {K : zK} {pc : Nat} {ls : zL} {st : List zV} {g : zH} {v : zR} (e : zstp X c1 C K pc ls st g = some v) : zstp X c2 C K pc ls st g = some v := by
  unfold zstp at e ⊢
  revert e
  rcases zlook C pc with _ | ⟨i, len, a, b, c, d, tab⟩
  · exact id
  · exact fun e => zgo_cm h e
theorem zrun_cm {X : zX} {c1 c2 : zCalls} (hc : zCm c2) (h : ∀ id vs g w, c1 id vs g = some w → c2 id vs g = some w) {C : List (Nat × zI)} {cuts : zCut} : ∀ (n pc : Nat) (ls : zL) (st : List zV) (g : zH) (v : zR), zrun X c1 C cuts n pc ls st g = some v → zrun X c2 C cuts n pc ls st g = some v
  | 0, _, _, _, _, _, e => by cases e
  | n + 1, pc, ls, st, g, v, e => by
    have e1 : zstp X c2 C (zcutK cuts (zrun X c1 C cuts n)) pc ls st g = some v := zstp_cm h e
    show zstp X c2 C (zcutK cuts (zrun X c2 C cuts n)) pc ls st g = some v
    rcases zstp_T X c2 hc C pc ls st g with ⟨r, hr⟩ | ⟨pc', ls', st', g', hr⟩
    · rw [hr] at e1 ⊢
      exact e1
    · rw [hr] at e1 ⊢
      exact zrun_cm hc h n _ _ _ _ _ e1
def zexF (X : zX) (MT : List zMt) (f : Nat) : Nat → zCalls
  | 0 => fun _ _ _ => none
  | d + 1 => fun id vs h => match MT[id]? with
    | some (_, _, n, _, C, cuts) => bif Nat.ble (zsl vs).length n then zrun X (zexF X MT f d) C cuts f 0 (zcm cuts 0 (zargs n vs)) [] h else none
    | none => none
theorem zexF_ok {X : zX} {MT : List zMt} {f : Nat} : ∀ (d id : Nat) (vs : List zV) (h : zH) (v : zR), zexF X MT f d id vs h = some v → zexec X MT d id vs h = some v
  | 0, _, _, _, _, e => by cases e
  | d + 1, id, vs, h, v, e => by
    unfold zexF at e
    unfold zexec
    revert e
    rcases MT[id]? with _ | ⟨y, cc, n, ret, C, cuts⟩
    · exact fun e => e
    · intro e
      simp only at e ⊢
      cases hb : Nat.ble (zsl vs).length n
      · rw [hb] at e; exact e
      · rw [hb] at e
        exact zrunL_of (zexec_m X MT d) (zrun_cm (zexec_m X MT d) (fun id vs g w q => zexF_ok d id vs g w q) f _ _ _ _ _ e)
/-! what the constructors leave -/
def zzero (σ : zF) (k n : Nat) : Bool := (List.range n).all (fun i => decide (σ k (i : Int) = 0))
def zshv (σ : zF) (s : Nat) : Bool := decide (σ (45 + 2 * s) 0 = -1) && (decide (σ (45 + 2 * s) 1 = 0) && (decide (σ (45 + 2 * s) 2 = -1) && (decide (σ 81 (s : Int) = -1) && (decide (σ 82 (s : Int) = 0) && zzero σ (46 + 2 * s) 60))))
def zchk (σ : zF) : Bool := ([(2, 12), (3, 12), (4, 12), (5, 12), (6, 12), (7, 12), (8, 4), (9, 4), (10, 5), (40, 5), (77, 5), (12, 120), (20, 192), (42, 50), (58, 12), (59, 12), (60, 48), (61, 4), (62, 4), (63, 120), (74, 5), (79, 50), (83, 360)] : List (Nat × Nat)).all (fun q => zzero σ q.1 q.2) && (([(1, 0), (1, 1), (11, 1), (14, 1), (17, 5), (32, 5), (32, 6), (37, 1), (37, 2), (37, 3), (41, 0), (41, 3), (57, 0), (57, 4), (57, 7), (57, 9), (57, 26), (57, 27), (57, 28), (57, 32), (57, 33), (57, 35), (57, 37)] : List (Nat × Nat)).all (fun q => decide (σ q.1 (q.2 : Int) = 0)) && (List.range 6).all (zshv σ))
def zH1 : zH := ([.inr (11, zfkOf (tyX11, 11))], zz (fun _ _ => 0) 0)
def zH2 (h : zH) : zH := (h.1 ++ [.inr (12, zfkOf (tyX12, 56))], zz h.2 h.1.length)
def zcheck : Bool := match zexF zX2 zMT 400 200 103 [.inl (some 0)] zH1 with
  | some (none, h) => Nat.beq h.1.length 57 && (match zexF zX2 zMT 400 200 152 [.inl (some 57)] (zH2 h) with
    | some (none, h2) => decide (h2.1 = LAY) && zchk h2.2
    | _ => false)
  | _ => false
set_option maxRecDepth 100000 in
set_option maxHeartbeats 4000000 in
theorem zcheck_ok : zcheck = true := by decide +kernel
