/-! the small machine's answers, read with a postcondition -/
def yT (o : Option zR) (Q : zR → Prop) : Prop := ∃ r, o = some r ∧ Q r
def yI (Q : Int → zF → Prop) (r : zR) : Prop := ∃ v σ, r = (some (.inr (.inl v)), (LAY, σ)) ∧ Q v σ
def yJ (Q : Int → zF → Prop) (r : zR) : Prop := ∃ v σ, r = (some (.inr (.inr v)), (LAY, σ)) ∧ Q v σ
def yV (Q : zF → Prop) (r : zR) : Prop := ∃ σ, r = (none, (LAY, σ)) ∧ Q σ
theorem y_i {v : Int} {σ : zF} {Q : Int → zF → Prop} (h : Q v σ) : yT (zri v σ) (yI Q) := ⟨_, rfl, _, _, rfl, h⟩
theorem y_j {v : Int} {σ : zF} {Q : Int → zF → Prop} (h : Q v σ) : yT (zrj v σ) (yJ Q) := ⟨_, rfl, _, _, rfl, h⟩
theorem y_v {σ : zF} {Q : zF → Prop} (h : Q σ) : yT (zrv σ) (yV Q) := ⟨_, rfl, _, rfl, h⟩
theorem y_if {c : Prop} [Decidable c] {A B : Option zR} {Q : zR → Prop} (h1 : c → yT A Q) (h2 : ¬ c → yT B Q) : yT (if c then A else B) Q := by
  by_cases h : c
  · rw [if_pos h]; exact h1 h
  · rw [if_neg h]; exact h2 h
theorem y_g {c : Prop} [Decidable c] {A B : Option zR} {Q : zR → Prop} (hc : c) (h : yT A Q) : yT (if c then A else B) Q := by rw [if_pos hc]; exact h
theorem y_n {c : Prop} [Decidable c] {A B : Option zR} {Q : zR → Prop} (hc : ¬ c) (h : yT B Q) : yT (if c then A else B) Q := by rw [if_neg hc]; exact h
theorem y_b {c : Bool} {A B : Option zR} {Q : zR → Prop} (hc : c = true) (h : yT A Q) : yT (bif c then A else B) Q := by rw [hc]; exact h
theorem y_cI {o : Option zR} {k : Int → zF → Option zR} {P : Int → zF → Prop} {Q : zR → Prop} (h : yT o (yI P)) (hk : ∀ v s, P v s → yT (k v s) Q) : yT (zCI LAY o k) Q := by
  obtain ⟨r, rfl, v, s, rfl, hp⟩ := h
  show yT (zCI LAY (zri v s) k) Q
  rw [zCI_ri]
  exact hk v s hp
theorem y_cJ {o : Option zR} {k : Int → zF → Option zR} {P : Int → zF → Prop} {Q : zR → Prop} (h : yT o (yJ P)) (hk : ∀ v s, P v s → yT (k v s) Q) : yT (zCJ LAY o k) Q := by
  obtain ⟨r, rfl, v, s, rfl, hp⟩ := h
  show yT (zCJ LAY (zrj v s) k) Q
  rw [zCJ_rj]
  exact hk v s hp
theorem y_cV {o : Option zR} {k : zF → Option zR} {P : zF → Prop} {Q : zR → Prop} (h : yT o (yV P)) (hk : ∀ s, P s → yT (k s) Q) : yT (zCV LAY o k) Q := by
  obtain ⟨r, rfl, s, rfl, hp⟩ := h
  show yT (zCV LAY (zrv s) k) Q
  rw [zCV_rv]
  exact hk s hp
theorem y_mono {o : Option zR} {P Q : zR → Prop} (h : yT o P) (hk : ∀ r, P r → Q r) : yT o Q := by
  obtain ⟨r, e, p⟩ := h
  exact ⟨r, e, hk r p⟩
theorem y_mI {o : Option zR} {P Q : Int → zF → Prop} (h : yT o (yI P)) (hk : ∀ v s, P v s → Q v s) : yT o (yI Q) := by
  obtain ⟨r, e, v, s, e2, p⟩ := h
  exact ⟨r, e, v, s, e2, hk v s p⟩
theorem y_mJ {o : Option zR} {P Q : Int → zF → Prop} (h : yT o (yJ P)) (hk : ∀ v s, P v s → Q v s) : yT o (yJ Q) := by
  obtain ⟨r, e, v, s, e2, p⟩ := h
  exact ⟨r, e, v, s, e2, hk v s p⟩
theorem y_mV {o : Option zR} {P Q : zF → Prop} (h : yT o (yV P)) (hk : ∀ s, P s → Q s) : yT o (yV Q) := by
  obtain ⟨r, e, s, e2, p⟩ := h
  exact ⟨r, e, s, e2, hk s p⟩
theorem y_eI {o : Option zR} {Q : Int → zF → Prop} (h : yT o (yI Q)) : ∃ v σ, o = zri v σ ∧ Q v σ := by
  obtain ⟨r, e, v, s, rfl, p⟩ := h
  exact ⟨v, s, e, p⟩
theorem y_eJ {o : Option zR} {Q : Int → zF → Prop} (h : yT o (yJ Q)) : ∃ v σ, o = zrj v σ ∧ Q v σ := by
  obtain ⟨r, e, v, s, rfl, p⟩ := h
  exact ⟨v, s, e, p⟩
theorem y_eV {o : Option zR} {Q : zF → Prop} (h : yT o (yV Q)) : ∃ σ, o = zrv σ ∧ Q σ := by
  obtain ⟨r, e, s, rfl, p⟩ := h
  exact ⟨s, e, p⟩
/-! depth -/
theorem y_d {d k : Nat} (h : k + 1 ≤ d) : ∃ e, d = e + 1 ∧ k ≤ e := ⟨d - 1, by omega, by omega⟩
/-! conditions that were answered as 0 and 1 -/
theorem y01 {α : Type} {c : Prop} [Decidable c] {A B : α} : (if (if c then (1 : Int) else 0) = 0 then A else B) = if c then B else A := by
  by_cases h : c <;> simp [h]
theorem y01o {α : Type} {c : Prop} [Decidable c] {A B : α} : (if (if c then (1 : Int) else 0) = 0 ∨ (if c then (1 : Int) else 0) = 1 then A else B) = A := by
  by_cases h : c <;> simp [h]
/-! what may have changed: whole cells, single slots -/
def yC1 : List Nat → Nat → Bool
  | [], _ => false
  | c :: r, k => Nat.beq k c || yC1 r k
def yS1 : List (Nat × Int) → Nat → Int → Bool
  | [], _, _ => false
  | q :: r, k, i => (Nat.beq k q.1 && decide (i = q.2)) || yS1 r k i
def yin (A : List Nat × List (Nat × Int)) (k : Nat) (i : Int) : Bool := yC1 A.1 k || yS1 A.2 k i
def yf (A : List Nat × List (Nat × Int)) (σ σ' : zF) : Prop := ∀ k i, yin A k i = false → σ' k i = σ k i
def yg (D : List Nat × List (Nat × Int)) (σ σ' : zF) : Prop := ∀ k i, yin D k i = true → σ' k i = σ k i
/-- A and D touch nowhere -/
def yds (A D : List Nat × List (Nat × Int)) : Bool := A.1.all (fun k => !yC1 D.1 k && D.2.all (fun q => !Nat.beq q.1 k)) && A.2.all (fun q => !yin D q.1 q.2)
theorem yC1_mem {l : List Nat} {k : Nat} : yC1 l k = true ↔ k ∈ l := by
  induction l with
  | nil => simp [yC1]
  | cons c r ih =>
    rw [yC1, Bool.or_eq_true, ih, List.mem_cons]
    constructor
    · rintro (h | h)
      · exact Or.inl (Nat.eq_of_beq_eq_true h)
      · exact Or.inr h
    · rintro (h | h)
      · exact Or.inl (by subst h; exact Nat.beq_refl k)
      · exact Or.inr h
theorem yS1_mem {l : List (Nat × Int)} {k : Nat} {i : Int} : yS1 l k i = true ↔ (k, i) ∈ l := by
  induction l with
  | nil => simp [yS1]
  | cons c r ih =>
    obtain ⟨c1, c2⟩ := c
    rw [yS1, Bool.or_eq_true, ih, List.mem_cons, Bool.and_eq_true, decide_eq_true_eq]
    constructor
    · rintro (⟨h, h2⟩ | h)
      · have := Nat.eq_of_beq_eq_true h
        simp only at this h2
        exact Or.inl (by rw [this, h2])
      · exact Or.inr h
    · rintro (h | h)
      · simp only [Prod.mk.injEq] at h
        obtain ⟨rfl, rfl⟩ := h
        exact Or.inl ⟨Nat.beq_refl k, rfl⟩
      · exact Or.inr h
theorem yds_no {A D : List Nat × List (Nat × Int)} (h : yds A D = true) {k : Nat} {i : Int} (hd : yin D k i = true) : yin A k i = false := by
  rcases hA : yin A k i with _ | _
  · rfl
  · exfalso
    unfold yds at h
    rw [Bool.and_eq_true, List.all_eq_true, List.all_eq_true] at h
    unfold yin at hA
    rw [Bool.or_eq_true] at hA
    rcases hA with hA | hA
    · have h1 := h.1 k (yC1_mem.mp hA)
      rw [Bool.and_eq_true, List.all_eq_true] at h1
      unfold yin at hd
      rw [Bool.or_eq_true] at hd
      rcases hd with hd | hd
      · rw [hd] at h1
        exact absurd h1.1 (by decide)
      · have h2 := h1.2 _ (yS1_mem.mp hd)
        simp only [Nat.beq_refl, Bool.not_true] at h2
        exact absurd h2 (by decide)
    · have h1 := h.2 _ (yS1_mem.mp hA)
      simp only [hd, Bool.not_true] at h1
      exact absurd h1 (by decide)
theorem yf_g {A D : List Nat × List (Nat × Int)} {σ σ' : zF} (h : yf A σ σ') (hd : yds A D = true) : yg D σ σ' := fun k i hk => h k i (yds_no hd hk)
theorem yf_rf {A : List Nat × List (Nat × Int)} {σ : zF} : yf A σ σ := fun _ _ _ => rfl
theorem yf_tr {A : List Nat × List (Nat × Int)} {σ σ' σ'' : zF} (h : yf A σ σ') (h2 : yf A σ' σ'') : yf A σ σ'' := fun k i hk => (h2 k i hk).trans (h k i hk)
theorem yf_set {A : List Nat × List (Nat × Int)} {σ σ' : zF} {k : Nat} {i v : Int} (h : yf A σ σ') (ha : yin A k i = true) : yf A σ (zset σ' k i v) := by
  intro k' i' hk
  unfold zset
  rw [if_neg]
  · exact h k' i' hk
  · rintro ⟨rfl, rfl⟩
    rw [ha] at hk
    cases hk
theorem yf_cpy {A : List Nat × List (Nat × Int)} {σ σ' : zF} {k k2 : Nat} {sp dp n : Int} (h : yf A σ σ') (ha : yC1 A.1 k2 = true) : yf A σ (zcpy σ' k sp k2 dp n) := by
  intro k' i' hk
  unfold zcpy
  rw [if_neg]
  · exact h k' i' hk
  · rintro ⟨rfl, -⟩
    unfold yin at hk
    rw [ha] at hk
    cases hk
/-- A is part of B -/
def yle (A B : List Nat × List (Nat × Int)) : Bool := A.1.all (fun k => yC1 B.1 k) && A.2.all (fun q => yin B q.1 q.2)
theorem yf_le {A B : List Nat × List (Nat × Int)} {σ σ' : zF} (h : yf A σ σ') (hl : yle A B = true) : yf B σ σ' := by
  intro k i hk
  apply h
  rcases hA : yin A k i with _ | _
  · rfl
  · exfalso
    unfold yle at hl
    rw [Bool.and_eq_true, List.all_eq_true, List.all_eq_true] at hl
    unfold yin at hA hk
    rw [Bool.or_eq_true] at hA
    rcases hA with hA | hA
    · have := hl.1 k (yC1_mem.mp hA)
      rw [this] at hk
      cases hk
    · have := hl.2 _ (yS1_mem.mp hA)
      unfold yin at this
      rw [this] at hk
      cases hk
theorem yg_le {D E : List Nat × List (Nat × Int)} {σ σ' : zF} (h : yg E σ σ') (hl : yle D E = true) : yg D σ σ' := by
  intro k i hk
  apply h
  unfold yle at hl
  rw [Bool.and_eq_true, List.all_eq_true, List.all_eq_true] at hl
  unfold yin at hk
  rw [Bool.or_eq_true] at hk
  rcases hk with hk | hk
  · unfold yin
    rw [hl.1 k (yC1_mem.mp hk)]
    rfl
  · exact hl.2 _ (yS1_mem.mp hk)
/-! reading what was written -/
theorem zset_eq {σ : zF} {k : Nat} {i v : Int} {k' : Nat} {i' : Int} : zset σ k i v k' i' = if k' = k ∧ i' = i then v else σ k' i' := rfl
theorem zset_ne {σ : zF} {k : Nat} {i v : Int} {k' : Nat} {i' : Int} (h : ¬ (k' = k ∧ i' = i)) : zset σ k i v k' i' = σ k' i' := if_neg h
theorem zset_hit {σ : zF} {k : Nat} {i v i' : Int} (h : i' = i) : zset σ k i v k i' = v := if_pos ⟨rfl, h⟩
theorem zset_off {σ : zF} {k : Nat} {i v i' : Int} (h : ¬ i' = i) : zset σ k i v k i' = σ k i' := if_neg (fun q => h q.2)
theorem zset_k {σ : zF} {k : Nat} {i v : Int} {k' : Nat} {i' : Int} (h : ¬ k' = k) : zset σ k i v k' i' = σ k' i' := if_neg (fun q => h q.1)
theorem zcpy_eq {σ : zF} {k k2 : Nat} {sp dp n : Int} {k' : Nat} {i' : Int} : zcpy σ k sp k2 dp n k' i' = if k' = k2 ∧ dp ≤ i' ∧ i' < dp + n then σ k (sp + (i' - dp)) else σ k' i' := rfl
/-! numbers -/
theorem zw_i {x : Int} (h1 : -2147483648 ≤ x) (h2 : x < 2147483648) : zw x = x := zw_id ⟨h1, h2⟩
theorem zdiv_p {x k : Int} (h0 : 0 ≤ x) (h1 : x < 2147483648) (hk : 0 < k) : zdiv x k = x / k := by
  unfold zdiv
  rw [Int.tdiv_eq_ediv_of_nonneg h0]
  have h2 : 0 ≤ x / k := Int.ediv_nonneg h0 (by omega)
  have h3 : x / k ≤ x := Int.ediv_le_self _ h0
  exact zw_i (by omega) (by omega)
theorem zrem_p {x k : Int} (h0 : 0 ≤ x) : zrem x k = x % k := by
  unfold zrem
  exact Int.tmod_eq_emod_of_nonneg h0
theorem zmax_eq {x y : Int} : zmax x y = max x y := by unfold zmax; split <;> omega
theorem zmin_eq {x y : Int} : zmin x y = min x y := by unfold zmin; split <;> omega
/-! bits -/
def bt (x : Int32) (i : Nat) : Bool := x.toBitVec.getLsbD i
theorem b_or (x y : Int32) (i : Nat) : bt (x ||| y) i = (bt x i || bt y i) := by unfold bt; rw [Int32.toBitVec_or, BitVec.getLsbD_or]
theorem b_and (x y : Int32) (i : Nat) : bt (x &&& y) i = (bt x i && bt y i) := by unfold bt; rw [Int32.toBitVec_and, BitVec.getLsbD_and]
theorem b_xor (x y : Int32) (i : Nat) : bt (x ^^^ y) i = (bt x i ^^ bt y i) := by unfold bt; rw [Int32.toBitVec_xor, BitVec.getLsbD_xor]
theorem b_ext {x y : Int32} (h : ∀ i, i < 32 → bt x i = bt y i) : x = y := Int32.toBitVec_inj.mp (BitVec.eq_of_getLsbD_eq (fun i hi => h i hi))
def yb (x : Int) (i : Nat) : Bool := bt (Int32.ofInt x) i
theorem yb_or (x y : Int) (i : Nat) : yb (zor x y) i = (yb x i || yb y i) := by unfold yb; rw [zi_or, b_or]
theorem yb_and (x y : Int) (i : Nat) : yb (zand x y) i = (yb x i && yb y i) := by unfold yb; rw [zi_and, b_and]
theorem yb_xor (x y : Int) (i : Nat) : yb (zxor x y) i = (yb x i ^^ yb y i) := by unfold yb; rw [zi_xor, b_xor]
theorem yb_one : ∀ k : Nat, k < 31 → ∀ i, i < 32 → yb (zshl 1 (k : Int)) i = decide (i = k) := by decide +kernel
theorem yb_big (x : Int) {i : Nat} (h : 32 ≤ i) : yb x i = false := BitVec.getLsbD_of_ge _ _ h
theorem yb_1 {k : Int} (h0 : 0 ≤ k) (h1 : k < 31) (i : Nat) : yb (zshl 1 k) i = decide ((i : Int) = k) := by
  obtain ⟨n, rfl⟩ := Int.eq_ofNat_of_zero_le h0
  rcases Nat.lt_or_ge i 32 with h | h
  · rw [yb_one n (by omega) i h]
    simp
    omega
  · rw [yb_big _ h]
    simp
    omega
theorem yb_0 (i : Nat) : yb 0 i = false := by unfold yb bt; simp
theorem yb_ext {x y : Int} (hx : zin x) (hy : zin y) (h : ∀ i, i < 32 → yb x i = yb y i) : x = y := by
  have := b_ext (x := Int32.ofInt x) (y := Int32.ofInt y) h
  exact (zi_eq hx hy).mp this
theorem zand_in (x y : Int) : zin (zand x y) := zi_in _
theorem zor_in (x y : Int) : zin (zor x y) := zi_in _
theorem zxor_in (x y : Int) : zin (zxor x y) := zi_in _
theorem zshl_in (x y : Int) : zin (zshl x y) := zi_in _
theorem zshr_in (x y : Int) : zin (zshr x y) := zi_in _
theorem yb_s_l : ∀ n : Nat, n < 32 → ((Int32.ofInt (n : Int) &&& 31).toBitVec.smod 32).toNat = n := by decide +kernel
theorem yb_shr (x : Int) {n i : Nat} (hn : n < 32) (hi : n + i < 32) : yb (zshr x (n : Int)) i = yb x (n + i) := by
  unfold yb
  rw [zi_shr]
  unfold bt
  rw [Int32.toBitVec_shiftRight]
  show ((Int32.ofInt x).toBitVec.sshiftRight ((Int32.ofInt (n : Int) &&& 31).toBitVec.smod 32).toNat).getLsbD i = _
  rw [yb_s_l n hn, BitVec.getLsbD_sshiftRight]
  have : i < 32 := by omega
  simp [hi, this]
theorem yb_a1 (x : Int) : zand x 1 = if yb x 0 then 1 else 0 := by
  apply yb_ext (zand_in _ _)
  · split <;> (unfold zin; omega)
  · intro i hi
    rw [yb_and]
    have h1 : yb 1 i = decide (i = 0) := (by decide +kernel : ∀ i, i < 32 → yb 1 i = decide (i = 0)) i hi
    rw [h1]
    rcases Nat.eq_zero_or_pos i with rfl | h
    · cases yb x 0 <;> decide +kernel
    · have h2 : ¬ i = 0 := by omega
      cases yb x 0
      · simp [h2, yb_0]
      · simp [h2, h1]
theorem yb_g {x k : Int} (h0 : 0 ≤ k) (h1 : k < 32) : zand (zshr x k) 1 = if yb x k.toNat then 1 else 0 := by
  obtain ⟨n, rfl⟩ := Int.eq_ofNat_of_zero_le h0
  rw [yb_a1]
  have h2 : n < 32 := by omega
  have := yb_shr x (n := n) (i := 0) h2 (by omega)
  rw [this]
  simp
theorem yb_g1 {x k : Int} (h0 : 0 ≤ k) (h1 : k < 32) : zand (zshr x k) 1 = 1 ↔ yb x k.toNat = true := by
  rw [yb_g h0 h1]
  cases yb x k.toNat <;> simp
theorem yb_g0 {x k : Int} (h0 : 0 ≤ k) (h1 : k < 32) : zand (zshr x k) 1 = 0 ↔ yb x k.toNat = false := by
  rw [yb_g h0 h1]
  cases yb x k.toNat <;> simp
theorem yb_z {x : Int} (hx : zin x) : x = 0 ↔ ∀ i, i < 32 → yb x i = false := by
  constructor
  · rintro rfl i _
    exact yb_0 i
  · intro h
    exact yb_ext hx (by unfold zin; omega) (fun i hi => (h i hi).trans (yb_0 i).symm)
