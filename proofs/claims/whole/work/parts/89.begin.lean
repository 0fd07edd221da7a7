/-! the beginning, and the whole run of the law -/
theorem zini_ok : ∃ (h1 : zH) (σ : zF), zexec zX2 zMT 200 103 [.inl (some 0)] zH1 = some (none, h1) ∧ h1.1.length = 57 ∧ zexec zX2 zMT 200 152 [.inl (some 57)] (zH2 h1) = some (none, (LAY, σ)) ∧ zchk σ = true := by
  have h := zcheck_ok
  unfold zcheck at h
  rcases q1 : zexF zX2 zMT 400 200 103 [.inl (some 0)] zH1 with _ | ⟨_ | w, h1⟩
  · rw [q1] at h; exact (Bool.false_ne_true h).elim
  · rw [q1] at h
    simp only [Bool.and_eq_true] at h
    obtain ⟨a1, a2⟩ := h
    rcases q2 : zexF zX2 zMT 400 200 152 [.inl (some 57)] (zH2 h1) with _ | ⟨_ | w, L2, σ⟩
    · rw [q2] at a2; exact (Bool.false_ne_true a2).elim
    · rw [q2] at a2
      simp only [Bool.and_eq_true, decide_eq_true_eq] at a2
      obtain ⟨rfl, a3⟩ := a2
      exact ⟨h1, σ, zexF_ok _ _ _ _ _ q1, Nat.eq_of_beq_eq_true a1, zexF_ok _ _ _ _ _ q2, a3⟩
    · rw [q2] at a2; exact (Bool.false_ne_true a2).elim
  · rw [q1] at h; exact (Bool.false_ne_true h).elim
theorem zzero_s {σ : zF} {k n : Nat} (h : zzero σ k n = true) {i : Int} (h0 : 0 ≤ i) (h1 : i < n) : σ k i = 0 := by
  have := List.all_eq_true.mp h i.toNat (List.mem_range.mpr (by omega))
  rw [decide_eq_true_eq, show ((i.toNat : Nat) : Int) = i by omega] at this
  exact this
theorem zini_inv {σ : zF} (h : zchk σ = true) : yInv 0 (fun _ _ => 0) (fun l m _ _ _ _ => zw (l - m)) σ := by
  unfold zchk at h
  rw [Bool.and_eq_true, Bool.and_eq_true, List.all_eq_true, List.all_eq_true, List.all_eq_true] at h
  obtain ⟨a1, a2, a3⟩ := h
  have z : ∀ (k n : Nat), (k, n) ∈ ([(2, 12), (3, 12), (4, 12), (5, 12), (6, 12), (7, 12), (8, 4), (9, 4), (10, 5), (40, 5), (77, 5), (12, 120), (20, 192), (42, 50), (58, 12), (59, 12), (60, 48), (61, 4), (62, 4), (63, 120), (74, 5), (79, 50), (83, 360)] : List (Nat × Nat)) → ∀ i : Int, 0 ≤ i → i < n → σ k i = 0 := fun k n hq i i0 i1 => zzero_s (a1 _ hq) i0 i1
  have s : ∀ (k n : Nat), (k, n) ∈ ([(1, 0), (1, 1), (11, 1), (14, 1), (17, 5), (32, 5), (32, 6), (37, 1), (37, 2), (37, 3), (41, 0), (41, 3), (57, 0), (57, 4), (57, 7), (57, 9), (57, 26), (57, 27), (57, 28), (57, 32), (57, 33), (57, 35), (57, 37)] : List (Nat × Nat)) → σ k (n : Int) = 0 := fun k n hq => of_decide_eq_true (a2 _ hq)
  have s10 : σ 1 0 = 0 := s 1 0 (by decide)
  have s11 : σ 1 1 = 0 := s 1 1 (by decide)
  have s111 : σ 11 1 = 0 := s 11 1 (by decide)
  have s141 : σ 14 1 = 0 := s 14 1 (by decide)
  have s175 : σ 17 5 = 0 := s 17 5 (by decide)
  have s325 : σ 32 5 = 0 := s 32 5 (by decide)
  have s326 : σ 32 6 = 0 := s 32 6 (by decide)
  have s371 : σ 37 1 = 0 := s 37 1 (by decide)
  have s372 : σ 37 2 = 0 := s 37 2 (by decide)
  have s373 : σ 37 3 = 0 := s 37 3 (by decide)
  have s410 : σ 41 0 = 0 := s 41 0 (by decide)
  have s413 : σ 41 3 = 0 := s 41 3 (by decide)
  have m0 : σ 57 0 = 0 := s 57 0 (by decide)
  have m4 : σ 57 4 = 0 := s 57 4 (by decide)
  have m7 : σ 57 7 = 0 := s 57 7 (by decide)
  have m9 : σ 57 9 = 0 := s 57 9 (by decide)
  have m26 : σ 57 26 = 0 := s 57 26 (by decide)
  have m27 : σ 57 27 = 0 := s 57 27 (by decide)
  have m28 : σ 57 28 = 0 := s 57 28 (by decide)
  have m32 : σ 57 32 = 0 := s 57 32 (by decide)
  have m33 : σ 57 33 = 0 := s 57 33 (by decide)
  have m35 : σ 57 35 = 0 := s 57 35 (by decide)
  have m37 : σ 57 37 = 0 := s 57 37 (by decide)
  have hB : yBn (fun _ _ => 0) := ⟨by decide, by decide, fun r r0 r1 => absurd r1 (by show ¬ r < 0; omega), fun r _ _ => ⟨(by show (-9 : Int) ≤ 0; decide), (by show (0 : Int) ≤ 9; decide)⟩, fun r _ _ => ⟨rfl, rfl⟩⟩
  refine ⟨⟨hB, ⟨s10, z 10 5 (by decide) 4 (by decide) (by decide), fun r r0 r1 => ⟨z 2 12 (by decide) r r0 r1, z 3 12 (by decide) r r0 r1, z 4 12 (by decide) r r0 r1, z 6 12 (by decide) r r0 r1, z 7 12 (by decide) r r0 r1, z 5 12 (by decide) r r0 r1⟩⟩, ?_, by omega, fun i i0 i1 => ?_⟩, ⟨hB, fun r _ _ => ⟨(by show (-9 : Int) ≤ 0; decide), (by show (0 : Int) ≤ 9; decide)⟩, fun r r0 r1 => absurd r1 (by show ¬ r < 0; omega), ⟨m0, z 74 5 (by decide) 4 (by decide) (by decide), fun r r0 r1 => ⟨z 58 12 (by decide) r r0 r1, z 59 12 (by decide) r r0 r1, z 60 48 (by decide) r r0 (by show r < 48; omega), z 60 48 (by decide) (24 + r) (by omega) (by show 24 + r < 48; omega), z 60 48 (by decide) (36 + r) (by omega) (by show 36 + r < 48; omega), z 60 48 (by decide) (12 + r) (by omega) (by show 12 + r < 48; omega)⟩⟩, ⟨fun _ _ _ _ _ _ _ => rfl, fun q => absurd m9 q⟩⟩, by omega, ⟨by omega, by omega, by omega, fun i i0 i1 => ⟨?_, ?_, fun q => by omega⟩⟩, fun i i0 i1 => ?_, ⟨by omega, by omega, by omega, fun i i0 i1 => ⟨?_, fun q => by omega⟩⟩, ⟨by omega, by omega, by omega, by omega, by omega, fun i i0 i1 => by omega⟩, ⟨by omega, by omega, by omega, by omega, by omega, by omega, by omega, fun i i0 i1 => by omega, fun i i0 i1 => by omega, fun i i0 i1 => ?_⟩, ⟨by omega, by omega, by omega, by omega, by omega, by omega, fun i i0 i1 => ⟨?_, fun q => by omega⟩, fun i i0 i1 q => by omega⟩, fun k k0 k1 => ?_⟩
  · intro d hd σ' e1 e2 l m j n r k
    obtain ⟨d, rfl, -⟩ := y_d (k := 0) (d := d) (by omega)
    rw [e_X2_work, if_pos (by omega)]
    exact y_i ⟨rfl, yf_rf⟩
  · rw [z 20 192 (by decide) i i0 i1]; omega
  · rw [z 8 4 (by decide) i i0 i1, z 61 4 (by decide) i i0 i1]
  · rw [z 9 4 (by decide) i i0 i1, z 62 4 (by decide) i i0 i1]
  · rw [z 10 5 (by decide) i i0 i1, z 74 5 (by decide) i i0 i1]
  · rw [z 12 120 (by decide) i i0 i1, z 63 120 (by decide) i i0 i1]
  · rw [z 40 5 (by decide) i i0 i1, z 77 5 (by decide) i i0 i1]
  · rw [z 42 50 (by decide) i i0 i1, z 79 50 (by decide) i i0 i1]
  · have b := a3 k.toNat (List.mem_range.mpr (by omega))
    unfold zshv at b
    simp only [Bool.and_eq_true, decide_eq_true_eq] at b
    rw [show ((k.toNat : Nat) : Int) = k by omega] at b
    obtain ⟨b1, b2, b3, b4, b5, b6⟩ := b
    unfold ySh1 ysh ysr
    refine ⟨by omega, by omega, by omega, Or.inl ⟨b1, b3, b4⟩, fun i i0 i1 => ⟨?_, fun q => by omega⟩⟩
    rw [zzero_s b6 i0 i1, z 83 360 (by decide) (60 * k + i) (by omega) (by show 60 * k + i < 360; omega)]
theorem zq_nw {X : zX} {calls : zCalls} {C : List (Nat × zI)} {cuts : zCut} {pc pc' len a b c d n : Nat} {tab : List (Int × Nat)} {ls : zL} {st : List zV} {L : List zS} {σ : zF} {q : (Nat → FieldType) × Nat} (hm : zCm calls) (hk : zlook C pc = some (.new n, len, a, b, c, d, tab)) (hq : zTys[a]? = some q) (hl : Nat.blt L.length 1000 = true) (hp : pc + len = pc') (hc : zlook cuts pc' = none) : zrunL X calls C cuts pc ls st (L, σ) = zrunL X calls C cuts pc' ls (.inl (some L.length) :: st) (L ++ [.inr (a, zfkOf q)], zz σ L.length) := by
  subst hp
  rw [zq0 hm hk]
  simp only [zgo, znew, hq, hl, cond_true]
  exact zq_K hc _ _
theorem zq_sp {X : zX} {calls : zCalls} {C : List (Nat × zI)} {cuts : zCut} {pc pc' len a c d n o : Nat} {tab : List (Int × Nat)} {ls : zL} {st : List zV} {L : List zS} {σ : zF} {h' : zH} (hm : zCm calls) (hk : zlook C pc = some (.invokespecial n, len, a, 0, c, d, tab)) (ha : ¬ a = 1000) (hcl : zcls L o d = true) (hw : Nat.ble (zwords st) 8 = true) (hcall : calls a [.inl (some o)] (L, σ) = some (none, h')) (hp : pc + len = pc') (hc : zlook cuts pc' = none) : zrunL X calls C cuts pc ls (.inl (some o) :: st) (L, σ) = zrunL X calls C cuts pc' ls st h' := by
  subst hp
  rw [zq0 hm hk]
  have e : (bif zcls L o d && Nat.ble (zwords st) 8 then zCN (calls a [.inl (some o)] (L, σ)) (fun h => zcutK cuts (zrunL X calls C cuts) (pc + len) ls st h) else none) = zrunL X calls C cuts (pc + len) ls st h' := by
    rw [hcl, hw, hcall]
    exact zq_K hc _ _
  simp only [zgo]
  split
  · next vs r hq =>
    have hq' : some (([] : List zV), (.inl (some o) :: st : List zV)) = some (vs, r) := hq
    cases hq'
    exact e
  · next hq => exact absurd hq (by simp [ztk])
theorem zlaw_ok : zLawOK := by
  intro n xs hn hz
  obtain ⟨⟨L1, σ1⟩, σ, i1, hlen, i2, hchk⟩ := zini_ok
  have hm := zexec_m zX2 zMT 200
  have hlen' : L1.length = 57 := hlen
  have hcl : zcls (L1 ++ [.inr (12, zfkOf (tyX12, 56))]) 57 12 = true := by
    unfold zcls
    rw [List.getElem?_append_right (by omega), hlen']
    rfl
  have key : zrunL (zXL n xs) (zexec zX2 zMT 200) K_L_law U_L_law 0 (zcm U_L_law 0 (zargs 4 [.inl (some 1002)])) [] ([], fun _ _ => 0) = P_L_law_18 n xs 0 σ := by
    show zrunL (zXL n xs) (zexec zX2 zMT 200) K_L_law U_L_law 0 [some (.inl (some 1002)), none, none, none] [] ([], fun _ _ => 0) = _
    refine (zq_nw hm (pc' := 3) rfl rfl rfl rfl rfl).trans ?_
    show zrunL (zXL n xs) (zexec zX2 zMT 200) K_L_law U_L_law 3 [some (.inl (some 1002)), none, none, none] [.inl (some 0)] zH1 = _
    refine (zq_dup hm (pc' := 4) rfl rfl rfl rfl).trans ?_
    refine (zq_sp hm (pc' := 7) rfl (by decide) rfl rfl i1 rfl rfl).trans ?_
    refine (zq_asn hm (pc' := 8) (ls' := [some (.inl (some 1002)), some (.inl (some 0)), none, none]) rfl rfl rfl rfl).trans ?_
    refine (zq_nw hm (pc' := 11) rfl rfl (by rw [hlen']; rfl) rfl rfl).trans ?_
    rw [hlen']
    refine (zq_dup hm (pc' := 12) rfl rfl rfl rfl).trans ?_
    refine (zq_sp hm (pc' := 15) rfl (by decide) hcl rfl (by have := i2; unfold zH2 at this; rw [hlen] at this; exact this) rfl rfl).trans ?_
    refine (zq_asn hm (pc' := 16) (ls' := [some (.inl (some 1002)), some (.inl (some 0)), some (.inl (some 57)), none]) rfl rfl rfl rfl).trans ?_
    refine (zq_ic hm (pc' := 17) rfl rfl rfl rfl).trans ?_
    exact (zc_isn hm (pc' := 18) (ls' := [some (.inl (some 1002)), some (.inl (some 0)), some (.inl (some 57)), some (.inr (.inl 0))]) rfl rfl rfl rfl).trans rfl
  obtain ⟨r, e, v, s, rfl, rfl⟩ := l_loop hn hz 512 0 0 _ _ σ (by omega) (by omega) (by omega) (zini_inv hchk)
  refine ⟨(LAY, s), key.trans e, ?_, ?_⟩
  · show LAY.length ≤ 600000
    decide
  · show zslots LAY ≤ 7302250
    decide +kernel
