/-! the layout behind the constructors; the given rows; runs at that layout -/
def LAY : List zS := [
  .inr (11, [some (some 1), some (some 11), some (some 14), some (some 17), some (some 24), some (some 27), some (some 31), some (some 32), some (some 37), some (some 41), some (some 44)]),
  .inr (3, [none, none, some (some 2), some (some 3), some (some 4), some (some 5), some (some 6), some (some 7), some (some 8), some (some 9), some (some 10)]),
  .inl (0, 12, []),
  .inl (0, 12, []),
  .inl (0, 12, []),
  .inl (0, 12, []),
  .inl (0, 12, []),
  .inl (0, 12, []),
  .inl (0, 4, []),
  .inl (0, 4, []),
  .inl (0, 5, []),
  .inr (4, [some (some 12), none, some (some 13), none, none, none]),
  .inl (0, 120, []),
  .inl (0, 121, []),
  .inr (2, [some (some 15), none, some (some 16), none]),
  .inl (0, 121, []),
  .inl (0, 121, []),
  .inr (9, [some (some 1), some (some 14), some (some 18), some (some 19), some (some 20), none, some (some 21), some (some 22), some (some 23), none]),
  .inl (0, 12, []),
  .inl (0, 192, []),
  .inl (0, 192, []),
  .inl (0, 12, []),
  .inl (0, 12, []),
  .inl (0, 8, []),
  .inr (6, [some (some 1), some (some 17), some (some 25), some (some 26), none, none]),
  .inl (0, 3, []),
  .inl (0, 12, []),
  .inr (5, [some (some 17), some (some 28), some (some 29), some (some 30), none, none]),
  .inl (0, 64, []),
  .inl (0, 5, []),
  .inl (0, 5, []),
  .inr (10, [some (some 1), some (some 17), none, none, none]),
  .inr (0, [some (some 1), some (some 33), some (some 34), some (some 35), some (some 36), none, none]),
  .inl (0, 40, []),
  .inl (0, 40, []),
  .inl (0, 40, []),
  .inl (0, 40, []),
  .inr (1, [some (some 1), none, none, none, some (some 38), some (some 39), some (some 40)]),
  .inl (0, 12, []),
  .inl (0, 4, []),
  .inl (0, 5, []),
  .inr (8, [none, some (some 42), some (some 43), none, none, none]),
  .inl (0, 50, []),
  .inl (0, 24, []),
  .inl (2, 6, [some 45, some 47, some 49, some 51, some 53, some 55]),
  .inr (7, [none, none, none, some (some 46)]),
  .inl (1, 60, []),
  .inr (7, [none, none, none, some (some 48)]),
  .inl (1, 60, []),
  .inr (7, [none, none, none, some (some 50)]),
  .inl (1, 60, []),
  .inr (7, [none, none, none, some (some 52)]),
  .inl (1, 60, []),
  .inr (7, [none, none, none, some (some 54)]),
  .inl (1, 60, []),
  .inr (7, [none, none, none, some (some 56)]),
  .inl (1, 60, []),
  .inr (12, [none, some (some 58), some (some 59), some (some 60), none, some (some 61), some (some 62), none, some (some 63), none, none, some (some 64), some (some 65), some (some 66), some (some 67), none, none, none, none, some (some 68), some (some 69), some (some 70), some (some 71), some (some 72), some (some 73), some (some 74), none, none, none, some (some 75), some (some 76), some (some 77), none, none, some (some 78), none, some (some 79), none, some (some 80), some (some 81), some (some 82), some (some 83), some (some 84), some (some 85), some (some 86), some (some 87), none, none, none, some (some 88), none, some (some 89), some (some 90), some (some 91), none, some (some 92)]),
  .inl (0, 12, []),
  .inl (0, 12, []),
  .inl (0, 48, []),
  .inl (0, 4, []),
  .inl (0, 4, []),
  .inl (0, 120, []),
  .inl (0, 60, []),
  .inl (0, 60, []),
  .inl (0, 60, []),
  .inl (0, 200, []),
  .inl (0, 61, []),
  .inl (0, 61, []),
  .inl (0, 61, []),
  .inl (0, 200, []),
  .inl (0, 200, []),
  .inl (0, 6, []),
  .inl (0, 5, []),
  .inl (0, 12, []),
  .inl (0, 4, []),
  .inl (0, 5, []),
  .inl (0, 160, []),
  .inl (0, 50, []),
  .inl (0, 24, []),
  .inl (0, 6, []),
  .inl (0, 6, []),
  .inl (1, 360, []),
  .inl (0, 12, []),
  .inl (0, 8, []),
  .inl (0, 12, []),
  .inl (0, 12, []),
  .inl (0, 64, []),
  .inl (0, 8, []),
  .inl (0, 8, []),
  .inl (0, 8, []),
  .inl (0, 3, [])]
def zOWN (j : Nat) : Int := ([1, 10, 11, 2, 20, 0, 0, 0, 0, 30, 0, 0, 0, 41, 40, 0, 0, 0, 50, 0, 0, 0, 0, 60, 70, 0, 0, 0, 0, 80, 0, 81] : List Int).getD j 0
def zABV (j : Nat) : Int := ([(-1), 0, 0, 2, 1, 3, 0, 4] : List Int).getD j 0
def zX2 : zX := [(32, zOWN), (8, zABV)]
noncomputable def zx (d id : Nat) (vs : List zV) (σ : zF) : Option zR := zexec zX2 zMT d id vs (LAY, σ)
abbrev zri (t : Int) (σ : zF) : Option zR := some (some (.inr (.inl t)), (LAY, σ))
abbrev zrj (t : Int) (σ : zF) : Option zR := some (some (.inr (.inr t)), (LAY, σ))
abbrev zrr (t : Nat) (σ : zF) : Option zR := some (some (.inl (some t)), (LAY, σ))
abbrev zrv (σ : zF) : Option zR := some (none, (LAY, σ))
theorem zfld_r {L : List zS} {o a b : Nat} {kI : Option zR} {kR kR' : Nat → Option zR} (h0 : ∀ fs, L[o]? = some (.inr (a, fs)) → ¬ fs[b]? = some none) (h : ∀ t, kR t = kR' t) : zfld L o a b kI kR = zfld L o a b none kR' := by
  rw [show kR = kR' from funext h]
  unfold zfld
  split
  · next ci fs e =>
    cases hb : Nat.beq ci a
    · rfl
    · have : ci = a := Nat.eq_of_beq_eq_true hb
      subst this
      rcases hf : fs[b]? with _ | _ | _ | t
      · rfl
      · exact absurd hf (h0 fs e)
      · rfl
      · rfl
  · rfl
theorem zCI_ri (t : Int) (σ : zF) (k : Int → zF → Option zR) : zCI LAY (zri t σ) k = k t σ := by unfold zCI; exact if_pos rfl
theorem zCJ_rj (t : Int) (σ : zF) (k : Int → zF → Option zR) : zCJ LAY (zrj t σ) k = k t σ := by unfold zCJ; exact if_pos rfl
theorem zCR_rr (t : Nat) (σ : zF) (k : Nat → zF → Option zR) : zCR LAY (zrr t σ) k = k t σ := by unfold zCR; exact if_pos rfl
theorem zCV_rv (σ : zF) (k : zF → Option zR) : zCV LAY (zrv σ) k = k σ := by unfold zCV; exact if_pos rfl
theorem lay_0 : LAY[0]? = some (.inr (11, [some (some 1), some (some 11), some (some 14), some (some 17), some (some 24), some (some 27), some (some 31), some (some 32), some (some 37), some (some 41), some (some 44)])) := rfl
theorem lay_1 : LAY[1]? = some (.inr (3, [none, none, some (some 2), some (some 3), some (some 4), some (some 5), some (some 6), some (some 7), some (some 8), some (some 9), some (some 10)])) := rfl
theorem lay_2 : LAY[2]? = some (.inl (0, 12, [])) := rfl
theorem lay_3 : LAY[3]? = some (.inl (0, 12, [])) := rfl
theorem lay_4 : LAY[4]? = some (.inl (0, 12, [])) := rfl
theorem lay_5 : LAY[5]? = some (.inl (0, 12, [])) := rfl
theorem lay_6 : LAY[6]? = some (.inl (0, 12, [])) := rfl
theorem lay_7 : LAY[7]? = some (.inl (0, 12, [])) := rfl
theorem lay_8 : LAY[8]? = some (.inl (0, 4, [])) := rfl
theorem lay_9 : LAY[9]? = some (.inl (0, 4, [])) := rfl
theorem lay_10 : LAY[10]? = some (.inl (0, 5, [])) := rfl
theorem lay_11 : LAY[11]? = some (.inr (4, [some (some 12), none, some (some 13), none, none, none])) := rfl
theorem lay_12 : LAY[12]? = some (.inl (0, 120, [])) := rfl
theorem lay_13 : LAY[13]? = some (.inl (0, 121, [])) := rfl
theorem lay_14 : LAY[14]? = some (.inr (2, [some (some 15), none, some (some 16), none])) := rfl
theorem lay_15 : LAY[15]? = some (.inl (0, 121, [])) := rfl
theorem lay_16 : LAY[16]? = some (.inl (0, 121, [])) := rfl
theorem lay_17 : LAY[17]? = some (.inr (9, [some (some 1), some (some 14), some (some 18), some (some 19), some (some 20), none, some (some 21), some (some 22), some (some 23), none])) := rfl
theorem lay_18 : LAY[18]? = some (.inl (0, 12, [])) := rfl
theorem lay_19 : LAY[19]? = some (.inl (0, 192, [])) := rfl
theorem lay_20 : LAY[20]? = some (.inl (0, 192, [])) := rfl
theorem lay_21 : LAY[21]? = some (.inl (0, 12, [])) := rfl
theorem lay_22 : LAY[22]? = some (.inl (0, 12, [])) := rfl
theorem lay_23 : LAY[23]? = some (.inl (0, 8, [])) := rfl
theorem lay_24 : LAY[24]? = some (.inr (6, [some (some 1), some (some 17), some (some 25), some (some 26), none, none])) := rfl
theorem lay_25 : LAY[25]? = some (.inl (0, 3, [])) := rfl
theorem lay_26 : LAY[26]? = some (.inl (0, 12, [])) := rfl
theorem lay_27 : LAY[27]? = some (.inr (5, [some (some 17), some (some 28), some (some 29), some (some 30), none, none])) := rfl
theorem lay_28 : LAY[28]? = some (.inl (0, 64, [])) := rfl
theorem lay_29 : LAY[29]? = some (.inl (0, 5, [])) := rfl
theorem lay_30 : LAY[30]? = some (.inl (0, 5, [])) := rfl
theorem lay_31 : LAY[31]? = some (.inr (10, [some (some 1), some (some 17), none, none, none])) := rfl
theorem lay_32 : LAY[32]? = some (.inr (0, [some (some 1), some (some 33), some (some 34), some (some 35), some (some 36), none, none])) := rfl
theorem lay_33 : LAY[33]? = some (.inl (0, 40, [])) := rfl
theorem lay_34 : LAY[34]? = some (.inl (0, 40, [])) := rfl
theorem lay_35 : LAY[35]? = some (.inl (0, 40, [])) := rfl
theorem lay_36 : LAY[36]? = some (.inl (0, 40, [])) := rfl
theorem lay_37 : LAY[37]? = some (.inr (1, [some (some 1), none, none, none, some (some 38), some (some 39), some (some 40)])) := rfl
theorem lay_38 : LAY[38]? = some (.inl (0, 12, [])) := rfl
theorem lay_39 : LAY[39]? = some (.inl (0, 4, [])) := rfl
theorem lay_40 : LAY[40]? = some (.inl (0, 5, [])) := rfl
theorem lay_41 : LAY[41]? = some (.inr (8, [none, some (some 42), some (some 43), none, none, none])) := rfl
theorem lay_42 : LAY[42]? = some (.inl (0, 50, [])) := rfl
theorem lay_43 : LAY[43]? = some (.inl (0, 24, [])) := rfl
theorem lay_44 : LAY[44]? = some (.inl (2, 6, [some 45, some 47, some 49, some 51, some 53, some 55])) := rfl
theorem lay_45 : LAY[45]? = some (.inr (7, [none, none, none, some (some 46)])) := rfl
theorem lay_46 : LAY[46]? = some (.inl (1, 60, [])) := rfl
theorem lay_47 : LAY[47]? = some (.inr (7, [none, none, none, some (some 48)])) := rfl
theorem lay_48 : LAY[48]? = some (.inl (1, 60, [])) := rfl
theorem lay_49 : LAY[49]? = some (.inr (7, [none, none, none, some (some 50)])) := rfl
theorem lay_50 : LAY[50]? = some (.inl (1, 60, [])) := rfl
theorem lay_51 : LAY[51]? = some (.inr (7, [none, none, none, some (some 52)])) := rfl
theorem lay_52 : LAY[52]? = some (.inl (1, 60, [])) := rfl
theorem lay_53 : LAY[53]? = some (.inr (7, [none, none, none, some (some 54)])) := rfl
theorem lay_54 : LAY[54]? = some (.inl (1, 60, [])) := rfl
theorem lay_55 : LAY[55]? = some (.inr (7, [none, none, none, some (some 56)])) := rfl
theorem lay_56 : LAY[56]? = some (.inl (1, 60, [])) := rfl
theorem lay_57 : LAY[57]? = some (.inr (12, [none, some (some 58), some (some 59), some (some 60), none, some (some 61), some (some 62), none, some (some 63), none, none, some (some 64), some (some 65), some (some 66), some (some 67), none, none, none, none, some (some 68), some (some 69), some (some 70), some (some 71), some (some 72), some (some 73), some (some 74), none, none, none, some (some 75), some (some 76), some (some 77), none, none, some (some 78), none, some (some 79), none, some (some 80), some (some 81), some (some 82), some (some 83), some (some 84), some (some 85), some (some 86), some (some 87), none, none, none, some (some 88), none, some (some 89), some (some 90), some (some 91), none, some (some 92)])) := rfl
theorem lay_58 : LAY[58]? = some (.inl (0, 12, [])) := rfl
theorem lay_59 : LAY[59]? = some (.inl (0, 12, [])) := rfl
theorem lay_60 : LAY[60]? = some (.inl (0, 48, [])) := rfl
theorem lay_61 : LAY[61]? = some (.inl (0, 4, [])) := rfl
theorem lay_62 : LAY[62]? = some (.inl (0, 4, [])) := rfl
theorem lay_63 : LAY[63]? = some (.inl (0, 120, [])) := rfl
theorem lay_64 : LAY[64]? = some (.inl (0, 60, [])) := rfl
theorem lay_65 : LAY[65]? = some (.inl (0, 60, [])) := rfl
theorem lay_66 : LAY[66]? = some (.inl (0, 60, [])) := rfl
theorem lay_67 : LAY[67]? = some (.inl (0, 200, [])) := rfl
theorem lay_68 : LAY[68]? = some (.inl (0, 61, [])) := rfl
theorem lay_69 : LAY[69]? = some (.inl (0, 61, [])) := rfl
theorem lay_70 : LAY[70]? = some (.inl (0, 61, [])) := rfl
theorem lay_71 : LAY[71]? = some (.inl (0, 200, [])) := rfl
theorem lay_72 : LAY[72]? = some (.inl (0, 200, [])) := rfl
theorem lay_73 : LAY[73]? = some (.inl (0, 6, [])) := rfl
theorem lay_74 : LAY[74]? = some (.inl (0, 5, [])) := rfl
theorem lay_75 : LAY[75]? = some (.inl (0, 12, [])) := rfl
theorem lay_76 : LAY[76]? = some (.inl (0, 4, [])) := rfl
theorem lay_77 : LAY[77]? = some (.inl (0, 5, [])) := rfl
theorem lay_78 : LAY[78]? = some (.inl (0, 160, [])) := rfl
theorem lay_79 : LAY[79]? = some (.inl (0, 50, [])) := rfl
theorem lay_80 : LAY[80]? = some (.inl (0, 24, [])) := rfl
theorem lay_81 : LAY[81]? = some (.inl (0, 6, [])) := rfl
theorem lay_82 : LAY[82]? = some (.inl (0, 6, [])) := rfl
theorem lay_83 : LAY[83]? = some (.inl (1, 360, [])) := rfl
theorem lay_84 : LAY[84]? = some (.inl (0, 12, [])) := rfl
theorem lay_85 : LAY[85]? = some (.inl (0, 8, [])) := rfl
theorem lay_86 : LAY[86]? = some (.inl (0, 12, [])) := rfl
theorem lay_87 : LAY[87]? = some (.inl (0, 12, [])) := rfl
theorem lay_88 : LAY[88]? = some (.inl (0, 64, [])) := rfl
theorem lay_89 : LAY[89]? = some (.inl (0, 8, [])) := rfl
theorem lay_90 : LAY[90]? = some (.inl (0, 8, [])) := rfl
theorem lay_91 : LAY[91]? = some (.inl (0, 8, [])) := rfl
theorem lay_92 : LAY[92]? = some (.inl (0, 3, [])) := rfl
theorem cls_0_11 : zcls LAY 0 11 = true := rfl
theorem cls_1_3 : zcls LAY 1 3 = true := rfl
theorem cls_11_4 : zcls LAY 11 4 = true := rfl
theorem cls_14_2 : zcls LAY 14 2 = true := rfl
theorem cls_17_9 : zcls LAY 17 9 = true := rfl
theorem cls_24_6 : zcls LAY 24 6 = true := rfl
theorem cls_27_5 : zcls LAY 27 5 = true := rfl
theorem cls_31_10 : zcls LAY 31 10 = true := rfl
theorem cls_32_0 : zcls LAY 32 0 = true := rfl
theorem cls_37_1 : zcls LAY 37 1 = true := rfl
theorem cls_41_8 : zcls LAY 41 8 = true := rfl
theorem cls_45_7 : zcls LAY 45 7 = true := rfl
theorem cls_47_7 : zcls LAY 47 7 = true := rfl
theorem cls_49_7 : zcls LAY 49 7 = true := rfl
theorem cls_51_7 : zcls LAY 51 7 = true := rfl
theorem cls_53_7 : zcls LAY 53 7 = true := rfl
theorem cls_55_7 : zcls LAY 55 7 = true := rfl
theorem cls_57_12 : zcls LAY 57 12 = true := rfl
theorem lay_shelf : ∀ (o : Nat) (fs : List (Option (Option Nat))), LAY[o]? = some (.inr (7, fs)) → ∃ t, fs = [none, none, none, some (some t)] := by
  intro o fs h
  have h2 : ∀ k, k < 93 → ∀ q, LAY[k]? = some q → (match q with | .inr (7, fs) => fs.take 3 = [none, none, none] ∧ fs.length = 4 ∧ (fs.drop 3).all (fun x => match x with | some (some _) => true | _ => false) = true | _ => True) := by
    intro k hk q hq
    have := (List.all_eq_true.mp (show LAY.all (fun q => match q with | .inr (7, fs) => decide (fs.take 3 = [none, none, none]) && (decide (fs.length = 4) && (fs.drop 3).all (fun x => match x with | some (some _) => true | _ => false)) | _ => true) = true by decide +kernel)) q (List.mem_of_getElem? hq)
    revert this
    split <;> intro this
    · simp only [Bool.and_eq_true, decide_eq_true_eq] at this
      exact this
    · trivial
  have hl : o < 93 := (List.getElem?_eq_some_iff.mp h).1
  obtain ⟨a1, a2, a3⟩ := h2 o hl _ h
  match fs, a1, a2, a3 with
  | [x, y, z, w], a1, a2, a3 =>
    simp at a1
    obtain ⟨rfl, rfl, rfl⟩ := a1
    match w, a3 with
    | some (some t), _ => exact ⟨t, rfl⟩
theorem lay_num_7_0 {o : Nat} : ∀ (t : Nat) (fs : List (Option (Option Nat))), LAY[o]? = some (.inr (7, fs)) → ¬ fs[0]? = some (some (some t)) := by
  intro t fs h
  obtain ⟨t9, rfl⟩ := lay_shelf o fs h
  simp
theorem lay_num_7_1 {o : Nat} : ∀ (t : Nat) (fs : List (Option (Option Nat))), LAY[o]? = some (.inr (7, fs)) → ¬ fs[1]? = some (some (some t)) := by
  intro t fs h
  obtain ⟨t9, rfl⟩ := lay_shelf o fs h
  simp
theorem lay_num_7_2 {o : Nat} : ∀ (t : Nat) (fs : List (Option (Option Nat))), LAY[o]? = some (.inr (7, fs)) → ¬ fs[2]? = some (some (some t)) := by
  intro t fs h
  obtain ⟨t9, rfl⟩ := lay_shelf o fs h
  simp
theorem lay_ref_7_3 {o : Nat} : ∀ (fs : List (Option (Option Nat))), LAY[o]? = some (.inr (7, fs)) → ¬ fs[3]? = some none := by
  intro fs h
  obtain ⟨t9, rfl⟩ := lay_shelf o fs h
  simp
