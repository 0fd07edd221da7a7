/-! THE CLAIM OUT OF ONE WALK OF THE LAW'S BODY. Your part is whole_start (and what it stands on); all else here is the same for every law, but numbers. -/
def R_law : String := "RoadsThankedLaw"
def lw_P (b : Addr) (xs : List Int32) (args : Array Value) (s : State) : Prop := args = #[.ref b] ∧ s.IntsAt b xs ∧ xs.length ≤ 3072 ∧ (Jvm.Cond.and given_1 narrow_1).before args s = true
def lw_Q (_ : Array Value) (s : State) (o : Outcome) (t : State) : Prop := o = .returned (some (.int 1)) ∧ Framed s o t [] 600000 7302250
def lw_Z (below : List Frame) (a : Array Value) (s : State) : State → Prop := fun t => ∃ o, t.status = .running ∧ Ended t below o ∧ lw_Q a s o t
/-- the law's own end, with 1 on the stack, nothing written that was there before, its room as the claim has it -/
theorem lw_ret {p : Program} {l : Launch} {e : Env} {s : State} {m : MethodId} {below : List Frame} {meth : Method} {c : Code} {b : Nat} (hx : p.tables.exec = Jvm.exec) (hb : c.code = code) (hr : meth.sig.returnType = ret) (hlocks : meth.locks = false) {pc : Nat} {H : Heap} {ls : Array Slot} (hdg : decode code pc = .ok (.ireturn, 1)) : W p l e room_1 s m #[Value.ref b] below meth c H [] 600000 7302250 (lw_Z below #[Value.ref b] s) (F0 m pc ls [.int 1]) := by
  intro T hT X
  obtain ⟨fs, hret, hrun, hended, hW, hframe⟩ := X.leave (v := some (.int 1)) (hlocks := hlocks) (fun h => by rw [hr] at h; cases h)
  have hmeth' : T.vm.method? m = some meth := X.method'
  refine ⟨T.setFrames fs, ?_, .returned (some (.int 1)), hrun, hended, rfl, ⟨_, rfl⟩, hW, hframe⟩
  jvm_step X.here [X.here.top, hx, hb, hdg, hmeth', hr, ret, narrow_b1]
  (try refine ⟨rfl, ?_⟩); (try refine ⟨rfl, ?_⟩)
  first | (intro acts; rw [hret _ acts rfl rfl rfl]) | rw [hret _ _ rfl rfl rfl]
  exact Steps.refl _
/-- what holds at the law's entry: the machine, the code, the tables' words (any of lw_tbl by 'hts w (by decide +kernel)'), the script of L ints xs at the cell b, what the Statement gives of the start (any of its parts by flat_of_before) -/
def lw_At (p : Program) (s : State) (m : MethodId) (meth : Method) (c : Code) (b L : Nat) (xs : Nat → Int32) : Prop :=
  p.tables.exec = Jvm.exec ∧ c.code = code ∧ meth.sig.returnType = ret ∧ c.maxLocals = 4 ∧ s.vm.findClass R_law = some m.cls ∧ (∀ w ∈ lw_tbl, w.before #[Value.ref b] s = true) ∧ va_X b L xs s s.heap ∧ b < s.heap.size ∧ meth.locks = false ∧ (Jvm.Cond.and given_1 narrow_1).before #[Value.ref b] s = true
theorem zn_in : ∀ q ∈ zNst, Jvm.Cond.methodLinkNest q.1 q.2.1 q.2.2.1 q.2.2.2 ∈ lw_tbl := by
  intro q hq
  have h : ∀ k, k < 7 → ∀ q, zNst[k]? = some q → lw_tbl[([111, 173, 201, 402, 432, 560, 561] : List Nat).getD k 0]? = some (Jvm.Cond.methodLinkNest q.1 q.2.1 q.2.2.1 q.2.2.2) := by
    intro k hk q hq
    have : k = 0 ∨ k = 1 ∨ k = 2 ∨ k = 3 ∨ k = 4 ∨ k = 5 ∨ k = 6 := by omega
    rcases this with rfl | rfl | rfl | rfl | rfl | rfl | rfl <;> (cases hq; decide +kernel)
  obtain ⟨k, hk⟩ := List.getElem?_of_mem hq
  exact List.mem_of_getElem? (h k (List.getElem?_eq_some_iff.mp hk).1 q hk)
theorem zo_in : Jvm.Cond.arrayOver (.object RX7) ∈ lw_tbl := List.mem_of_getElem? (i := 430) (by decide +kernel)
theorem zs_OWN : Jvm.Cond.laysStatic RX8 "OWN" "[I" ∈ lw_tbl := List.mem_of_getElem? (i := 1036) (by decide +kernel)
theorem zs_ABOVE : Jvm.Cond.laysStatic RX8 "ABOVE" "[I" ∈ lw_tbl := List.mem_of_getElem? (i := 1038) (by decide +kernel)
theorem zi_St : Jvm.Cond.initialized RX8 ∈ lw_tbl := List.mem_of_getElem? (i := 94) (by decide +kernel)
theorem zin_0 : Jvm.Cond.instantiable RX0 7 ∈ lw_tbl := List.mem_of_getElem? (i := 342) (by decide +kernel)
theorem zin_1 : Jvm.Cond.instantiable RX1 7 ∈ lw_tbl := List.mem_of_getElem? (i := 372) (by decide +kernel)
theorem zin_2 : Jvm.Cond.instantiable RX2 4 ∈ lw_tbl := List.mem_of_getElem? (i := 200) (by decide +kernel)
theorem zin_3 : Jvm.Cond.instantiable RX3 11 ∈ lw_tbl := List.mem_of_getElem? (i := 110) (by decide +kernel)
theorem zin_4 : Jvm.Cond.instantiable RX4 6 ∈ lw_tbl := List.mem_of_getElem? (i := 172) (by decide +kernel)
theorem zin_5 : Jvm.Cond.instantiable RX5 6 ∈ lw_tbl := List.mem_of_getElem? (i := 290) (by decide +kernel)
theorem zin_6 : Jvm.Cond.instantiable RX6 6 ∈ lw_tbl := List.mem_of_getElem? (i := 262) (by decide +kernel)
theorem zin_7 : Jvm.Cond.instantiable RX7 4 ∈ lw_tbl := List.mem_of_getElem? (i := 431) (by decide +kernel)
theorem zin_8 : Jvm.Cond.instantiable RX8 6 ∈ lw_tbl := List.mem_of_getElem? (i := 401) (by decide +kernel)
theorem zin_9 : Jvm.Cond.instantiable RX9 10 ∈ lw_tbl := List.mem_of_getElem? (i := 219) (by decide +kernel)
theorem zin_10 : Jvm.Cond.instantiable RX10 5 ∈ lw_tbl := List.mem_of_getElem? (i := 317) (by decide +kernel)
theorem zin_11 : Jvm.Cond.instantiable RX11 11 ∈ lw_tbl := List.mem_of_getElem? (i := 102) (by decide +kernel)
theorem zin_12 : Jvm.Cond.instantiable RX12 56 ∈ lw_tbl := List.mem_of_getElem? (i := 1112) (by decide +kernel)
theorem znar (w : Jvm.Cond) (h : w ∈ flatC (Jvm.Cond.and given_1 narrow_1)) {args : Array Value} {s : State} (hg : (Jvm.Cond.and given_1 narrow_1).before args s = true) : w.before args s = true := flat_of_before _ hg w h
theorem zel_OWN : ∀ j, j < 32 → Jvm.Cond.eq (.elem (.static RX8 "OWN" "[I") (.int (Int32.ofNat j))) (.int (Int32.ofInt (zOWN j))) ∈ flatC (Jvm.Cond.and given_1 narrow_1) := by decide +kernel
theorem zel_ABV : ∀ j, j < 8 → Jvm.Cond.eq (.elem (.static RX8 "ABOVE" "[I") (.int (Int32.ofNat j))) (.int (Int32.ofInt (zABV j))) ∈ flatC (Jvm.Cond.and given_1 narrow_1) := by decide +kernel
theorem zgetD_in : ∀ (l : List Int), (∀ x ∈ l, zin x) → ∀ i, zin (l.getD i 0)
  | [], _, i => by show zin 0; unfold zin; omega
  | x :: l, h, 0 => h x List.mem_cons_self
  | x :: l, h, i + 1 => zgetD_in l (fun y hy => h y (List.mem_cons_of_mem _ hy)) i
theorem zOWN_in : ∀ i, zin (zOWN i) := fun i => zgetD_in _ (by unfold zin; decide) i
theorem zABV_in : ∀ i, zin (zABV i) := fun i => zgetD_in _ (by unfold zin; decide) i
def zXL (n : Nat) (xs : Nat → Int) : zX := [(32, zOWN), (8, zABV), (n, xs)]
/-- what is owed of the small machine: the law's run ends with 1, in room -/
def zLawOK : Prop := ∀ (n : Nat) (xs : Nat → Int), n ≤ 3072 → (∀ i, zin (xs i)) → ∃ h' : zH, zrunL (zXL n xs) (zexec zX2 zMT 200) K_L_law U_L_law 0 (zcm U_L_law 0 (zargs 4 [.inl (some 1002)])) [] ([], fun _ _ => 0) = some (some (.inr (.inl 1)), h') ∧ h'.1.length ≤ 600000 ∧ zslots h'.1 ≤ 7302250
set_option maxHeartbeats 4000000 in
set_option maxRecDepth 100000 in
theorem whole_start_of (hlaw : zLawOK) {p : Program} {e : Env} {s : State} {m : MethodId} {below : List Frame} {meth : Method} {c : Code} (l : Launch) {b L : Nat} {xs : Nat → Int32} (hL : L ≤ 3072) (C0 : lw_At p s m meth c b L xs) : W p l e room_1 s m #[Value.ref b] below meth c s.heap [] 0 0 (lw_Z below #[Value.ref b] s) (entryFrame m ([Value.ref b] : List Value).toArray 4) := by
  obtain ⟨hx, hb, hr, hml, hown, hts, hX, hbl, hlocks, hgv⟩ := C0
  have hnA : ∀ a : Nat, a < s.heap.size → ¬ (fun q : Nat => s.heap.size ≤ q) a := fun a h => Nat.not_le.mpr h
  obtain ⟨t0, ht0, hT0⟩ := va_Tof (tm := .static RX8 "OWN" "[I") (ty := .int) (N := 32) (f := fun i => .int (Int32.ofInt (zOWN i))) (A := fun q : Nat => s.heap.size ≤ q) (by decide) (znar _ (by decide +kernel) hgv) (va_eqt (znar _ (by decide +kernel) hgv)) (fun j hj => va_eqt (znar _ (zel_OWN j hj) hgv)) hnA
  obtain ⟨t1, ht1, hT1⟩ := va_Tof (tm := .static RX8 "ABOVE" "[I") (ty := .int) (N := 8) (f := fun i => .int (Int32.ofInt (zABV i))) (A := fun q : Nat => s.heap.size ≤ q) (by decide) (znar _ (by decide +kernel) hgv) (va_eqt (znar _ (by decide +kernel) hgv)) (fun j hj => va_eqt (znar _ (zel_ABV j hj) hgv)) hnA
  have hZ0 : va_Z RX8 "OWN" "[I" (.ref t0) (fun q : Nat => s.heap.size ≤ q) s s.heap := va_Zref (hts _ zs_OWN) (hts _ zi_St) ht0 hnA
  have hZ1 : va_Z RX8 "ABOVE" "[I" (.ref t1) (fun q : Nat => s.heap.size ≤ q) s s.heap := va_Zref (hts _ zs_ABOVE) (hts _ zi_St) ht1 hnA
  have hT2 : va_T .int b L (fun i => .int (Int32.ofInt ((fun i => (xs i).toInt) i))) (fun q : Nat => s.heap.size ≤ q) s s.heap := by
    obtain ⟨scr, a1, a2, a3, a4, a5⟩ := hX
    refine ⟨scr, a1, a2, a3, by omega, by rw [a4], fun j hj => ?_, hnA b hbl⟩
    rw [a5 j hj]
    show some (Value.int (xs j)) = some (Value.int (Int32.ofInt (xs j).toInt))
    rw [Int32.ofInt_toInt]
  have hts2 : ∀ w ∈ zTb, w.before #[Value.ref b] s = true := fun w hw => hts w (List.mem_filter.mp hw).1
  obtain ⟨c0, iS0, hKn0⟩ := u_known (C := RX0) (T := TX0) (N := 7) (n := 7) hts2 zF0 (hts _ zin_0)
  obtain ⟨c1, iS1, hKn1⟩ := u_known (C := RX1) (T := TX1) (N := 7) (n := 7) hts2 zF1 (hts _ zin_1)
  obtain ⟨c2, iS2, hKn2⟩ := u_known (C := RX2) (T := TX2) (N := 4) (n := 4) hts2 zF2 (hts _ zin_2)
  obtain ⟨c3, iS3, hKn3⟩ := u_known (C := RX3) (T := TX3) (N := 11) (n := 11) hts2 zF3 (hts _ zin_3)
  obtain ⟨c4, iS4, hKn4⟩ := u_known (C := RX4) (T := TX4) (N := 6) (n := 6) hts2 zF4 (hts _ zin_4)
  obtain ⟨c5, iS5, hKn5⟩ := u_known (C := RX5) (T := TX5) (N := 6) (n := 6) hts2 zF5 (hts _ zin_5)
  obtain ⟨c6, iS6, hKn6⟩ := u_known (C := RX6) (T := TX6) (N := 6) (n := 6) hts2 zF6 (hts _ zin_6)
  obtain ⟨c7, iS7, hKn7⟩ := u_known (C := RX7) (T := TX7) (N := 4) (n := 4) hts2 zF7 (hts _ zin_7)
  obtain ⟨c8, iS8, hKn8⟩ := u_known (C := RX8) (T := TX8) (N := 6) (n := 6) hts2 zF8 (hts _ zin_8)
  obtain ⟨c9, iS9, hKn9⟩ := u_known (C := RX9) (T := TX9) (N := 10) (n := 10) hts2 zF9 (hts _ zin_9)
  obtain ⟨c10, iS10, hKn10⟩ := u_known (C := RX10) (T := TX10) (N := 5) (n := 5) hts2 zF10 (hts _ zin_10)
  obtain ⟨c11, iS11, hKn11⟩ := u_known (C := RX11) (T := TX11) (N := 11) (n := 11) hts2 zF11 (hts _ zin_11)
  obtain ⟨c12, iS12, hKn12⟩ := u_known (C := RX12) (T := TX12) (N := 56) (n := 56) hts2 zF12 (hts _ zin_12)
  obtain ⟨D, hKc⟩ : ∃ D : va_G, ∀ (k : Nat) (q : vw_C), vwCl[k]? = some q → u_Kn s q.1 q.2.1 q.2.2 (D.1 k) (D.2 k) := by
    refine ⟨(fun k => [c0, c1, c2, c3, c4, c5, c6, c7, c8, c9, c10, c11, c12].getD k c0, fun k => [iS0, iS1, iS2, iS3, iS4, iS5, iS6, iS7, iS8, iS9, iS10, iS11, iS12].getD k iS0), ?_⟩
    intro k q hq
    match k, hq with
    | 0, hq => cases hq; exact hKn0
    | 1, hq => cases hq; exact hKn1
    | 2, hq => cases hq; exact hKn2
    | 3, hq => cases hq; exact hKn3
    | 4, hq => cases hq; exact hKn4
    | 5, hq => cases hq; exact hKn5
    | 6, hq => cases hq; exact hKn6
    | 7, hq => cases hq; exact hKn7
    | 8, hq => cases hq; exact hKn8
    | 9, hq => cases hq; exact hKn9
    | 10, hq => cases hq; exact hKn10
    | 11, hq => cases hq; exact hKn11
    | 12, hq => cases hq; exact hKn12
    | k + 13, hq => simp [vwCl] at hq
  obtain ⟨h', hrun, hc1, hc2⟩ := hlaw L (fun i => (xs i).toInt) hL (fun i => zi_in _)
  obtain ⟨n, hn⟩ := zrunL_some hrun
  have hE : zExt (fun j => if j = 0 then t0 else if j = 1 then t1 else b) (zXL L (fun i => (xs i).toInt)) (fun q : Nat => s.heap.size ≤ q) s := by
    refine ⟨fun j nm hj => ?_, fun j n f hj => ?_⟩
    · match j, hj with
      | 0, hj => cases hj; exact hZ0
      | 1, hj => cases hj; exact hZ1
      | j + 2, hj => simp [zstat] at hj
    · match j, hj with
      | 0, hj => cases hj; exact ⟨hT0, by omega, zOWN_in⟩
      | 1, hj => cases hj; exact ⟨hT1, by omega, zABV_in⟩
      | 2, hj => cases hj; exact ⟨hT2, by omega, fun i => zi_in _⟩
      | j + 3, hj => simp [zXL] at hj
  have hN : zNs s := ⟨fun q hq => va_Nw.of rfl (hts _ (zn_in q hq)), va_AO.of (hts _ zo_in)⟩
  have C1 : zCtx p s m #[Value.ref b] c code 4 yL_law.cls (fun q : Nat => s.heap.size ≤ q) (fun j => if j = 0 then t0 else if j = 1 then t1 else b) (zXL L (fun i => (xs i).toInt)) := ⟨hx, hb, hml, hown, hts2, fun _ h => h, hE, hN⟩
  have hret : zRet p l e room_1 s m #[Value.ref b] below meth c (lw_Z below #[Value.ref b] s) D (fun _ => 0) (fun j => if j = 0 then t0 else if j = 1 then t1 else b) (fun q : Nat => s.heap.size ≤ q) code (some .boolean) [] (some (.inr (.inl 1)), h') := by
    intro as1 cas1 tys1 H locs lsA pc i hw ha hv hle hd hz
    obtain ⟨wK, wP, wD, wS, wH, wT⟩ := hw
    obtain ⟨rfl, -⟩ := hz
    refine va_forget (fun q hq => wS.2.2 q hq) ?_
    refine W.widen (k := 600000) (n := 7302250) (by show h'.1.length - 0 ≤ _; omega) (by show zslots h'.1 - 0 ≤ _; omega) ?_
    exact lw_ret hx hb hr hlocks hd
  have key := zrun_sound (R := room_1) (Xc := zX2) (d := 200) (L0 := []) (as0 := fun _ => 0) (cuts := U_L_law) C1 (fun h => absurd h (by decide +kernel)) (fun j q hj => by
    match j, hj with
    | 0, hj => exact hj
    | 1, hj => exact hj
    | j + 2, hj => simp [zX2] at hj) hret (zmet_all l D _ zX2 zMT zMT_ok 200) (zexec_m zX2 zMT 200) (Nat.le_of_ble_eq_true rfl) (Nat.le_of_ble_eq_true rfl) (by show h'.1.length - 0 ≤ 600000; omega) (by show zslots h'.1 - 0 ≤ 7302250; omega) okL n 0 _ [] ([], fun _ _ => 0) hn (fun _ => 0) (fun _ => c0) [] s.heap [] _ ⟨⟨hKc, fun k q h => by simp at h⟩, fun k q h => by simp [zws] at h, ⟨fun i j p q h => by simp [zws] at h, fun k q h => by simp [zws] at h⟩, va_S.rf, ⟨fun k s h => by simp at h, by simp⟩, fun k tag n ts h => by simp at h⟩ (fun _ _ => rfl) ((zentry (ad := zad (fun _ => 0) (fun j => if j = 0 then t0 else if j = 1 then t1 else b)) (n := 4) (vs := [.inl (some 1002)]) (by decide) (fun w hw => by simp at hw; subst hw; exact Or.inr (by omega))).cut U_L_law 0) (fun _ h => by cases h) (zle_rf [])
  rw [lg_entry_eq]
  exact key
