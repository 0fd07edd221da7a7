/-! a change of a road's or a traveller's number keeps both alike -/
theorem y_set0 {c : Int} {N : zF} {G : yG} {σ : zF} {x v : Int} (hI : yInv c N G σ) (hf : yfit (σ 1 0) (σ 1 1) x 0 v) : ∃ N', yInv c N' G (zset (zset σ 4 x v) 60 (12 * 0 + x) v) := by
  replace hf := yfit_0.1 hf
  obtain ⟨n1, n2, n3, n4⟩ := yI_n hI
  obtain ⟨⟨b1, b2, b3, b4, b5⟩, ⟨q1, q2, q3, q4, q5⟩, hT, hTr, hLd, hTp, hHs, hIm, hSt, hSh⟩ := hI
  have f : yf ([4, 60], []) σ (zset (zset σ 4 x v) 60 (12 * 0 + x) v) := yf_set (yf_set yf_rf rfl) rfl
  have eA : ∀ r, (zset (zset σ 4 x v) 60 (12 * 0 + x) v) 4 r = if r = x then v else σ 4 r := fun r => by
    show (if 4 = 4 ∧ r = x then v else σ 4 r) = _
    exact y_cc ⟨fun h => h.2, fun h => ⟨rfl, h⟩⟩
  have eM : ∀ r, (zset (zset σ 4 x v) 60 (12 * 0 + x) v) 60 r = if r = 12 * 0 + x then v else σ 60 r := fun r => by
    show (if 60 = 60 ∧ r = 12 * 0 + x then v else σ 60 r) = _
    exact y_cc ⟨fun h => h.2, fun h => ⟨rfl, h⟩⟩
  generalize zset (zset σ 4 x v) 60 (12 * 0 + x) v = t at f eA eM ⊢
  have eN : ∀ r, zset N 3 x v 3 r = if r = x then v else N 3 r := fun r => by
    show (if 3 = 3 ∧ r = x then v else N 3 r) = _
    exact y_cc ⟨fun h => h.2, fun h => ⟨rfl, h⟩⟩
  have eo : ∀ k i, ¬ k = 3 → zset N 3 x v k i = N k i := fun k i h => zset_k h
  have hB' : yBn (zset N 3 x v) := by
    unfold yBn
    rw [eo 0 0 (by decide)]
    refine ⟨n3, n4, fun r r0 r1 => ?_, fun r r0 r1 => ?_, fun r r0 r1 => ?_⟩
    · have z := b1.2.2.1 r r0 r1
      rw [eo 1 r (by decide), eo 2 r (by decide), eN r, eo 4 r (by decide), eo 5 r (by decide)]
      by_cases e : r = x
      · simp only [if_pos e]; exact ⟨z.1, z.2.1, z.2.2.1, z.2.2.2.1, z.2.2.2.2.1, hf.2.2.1, hf.2.2.2, z.2.2.2.2.2.2.2.1, z.2.2.2.2.2.2.2.2⟩
      · simp only [if_neg e]; exact z
    · rw [eo 6 r (by decide)]; exact b1.2.2.2.1 r r0 r1
    · rw [eo 6 r (by decide), eo 5 r (by decide)]; exact b1.2.2.2.2 r r0 r1
  refine ⟨zset N 3 x v, ⟨hB', ⟨?_, ?_, fun r r0 r1 => ?_⟩, yLC_g (yf_g f (by decide)) b3, by rw [f 17 5 rfl]; exact b4, fun i i0 i1 => by rw [f 20 i rfl, f 17 5 rfl]; exact b5 i i0 i1⟩, ⟨hB', hB'.2.2.2.1, fun r r0 r1 => (hB'.2.2.1 r r0 r1).2.2.2.2.2.2.2.2, ⟨?_, ?_, fun r r0 r1 => ?_⟩, yLM_g (yf_g f (by decide)) q5⟩, by rw [f 17 5 rfl]; exact hT, yTr_g (yf_g f (by decide)) hTr, yLd_g (yf_g f (by decide)) hLd, yTp_g (yf_g f (by decide)) hTp, yHs_g (yf_g f (by decide)) hHs, yIm_g (yf_g f (by decide)) hIm, ySt_g (yf_g f (by decide)) hSt, ySh_g (yf_g f (by decide)) hSh⟩
  · rw [f 1 0 rfl, eo 0 0 (by decide)]; exact b2.1
  · rw [f 10 4 rfl, eo 9 4 (by decide)]; exact b2.2.1
  · have z := b2.2.2 r r0 r1
    exact ⟨by rw [f 2 r rfl, eo 1 r (by decide)]; exact z.1, by rw [f 3 r rfl, eo 2 r (by decide)]; exact z.2.1, by rw [eA, eN, z.2.2.1], by rw [f 6 r rfl, eo 4 r (by decide)]; exact z.2.2.2.1, by rw [f 7 r rfl, eo 5 r (by decide)]; exact z.2.2.2.2.1, by rw [f 5 r rfl, eo 6 r (by decide)]; exact z.2.2.2.2.2⟩
  · rw [f 57 0 rfl, eo 0 0 (by decide)]; exact q4.1
  · rw [f 74 4 rfl, eo 9 4 (by decide)]; exact q4.2.1
  · have z := q4.2.2 r r0 r1
    exact ⟨by rw [f 58 r rfl, eo 1 r (by decide)]; exact z.1, by rw [f 59 r rfl, eo 2 r (by decide)]; exact z.2.1, by rw [eM, eN, z.2.2.1]; exact y_cc (by omega), by rw [eM, if_neg (by omega), eo 4 r (by decide)]; exact z.2.2.2.1, by rw [eM, if_neg (by omega), eo 5 r (by decide)]; exact z.2.2.2.2.1, by rw [eM, if_neg (by omega), eo 6 r (by decide)]; exact z.2.2.2.2.2⟩
theorem y_set1 {c : Int} {N : zF} {G : yG} {σ : zF} {x v : Int} (hI : yInv c N G σ) (hf : yfit (σ 1 0) (σ 1 1) x 1 v) : ∃ N', yInv c N' G (zset (zset σ 5 x v) 60 (12 * 1 + x) v) := by
  replace hf := yfit_1.1 hf
  obtain ⟨n1, n2, n3, n4⟩ := yI_n hI
  obtain ⟨⟨b1, b2, b3, b4, b5⟩, ⟨q1, q2, q3, q4, q5⟩, hT, hTr, hLd, hTp, hHs, hIm, hSt, hSh⟩ := hI
  have f : yf ([5, 60], []) σ (zset (zset σ 5 x v) 60 (12 * 1 + x) v) := yf_set (yf_set yf_rf rfl) rfl
  have eA : ∀ r, (zset (zset σ 5 x v) 60 (12 * 1 + x) v) 5 r = if r = x then v else σ 5 r := fun r => by
    show (if 5 = 5 ∧ r = x then v else σ 5 r) = _
    exact y_cc ⟨fun h => h.2, fun h => ⟨rfl, h⟩⟩
  have eM : ∀ r, (zset (zset σ 5 x v) 60 (12 * 1 + x) v) 60 r = if r = 12 * 1 + x then v else σ 60 r := fun r => by
    show (if 60 = 60 ∧ r = 12 * 1 + x then v else σ 60 r) = _
    exact y_cc ⟨fun h => h.2, fun h => ⟨rfl, h⟩⟩
  generalize zset (zset σ 5 x v) 60 (12 * 1 + x) v = t at f eA eM ⊢
  have eN : ∀ r, zset N 6 x v 6 r = if r = x then v else N 6 r := fun r => by
    show (if 6 = 6 ∧ r = x then v else N 6 r) = _
    exact y_cc ⟨fun h => h.2, fun h => ⟨rfl, h⟩⟩
  have eo : ∀ k i, ¬ k = 6 → zset N 6 x v k i = N k i := fun k i h => zset_k h
  have hB' : yBn (zset N 6 x v) := by
    unfold yBn
    rw [eo 0 0 (by decide)]
    refine ⟨n3, n4, fun r r0 r1 => ?_, fun r r0 r1 => ?_, fun r r0 r1 => ?_⟩
    · have z := b1.2.2.1 r r0 r1
      rw [eo 1 r (by decide), eo 2 r (by decide), eo 3 r (by decide), eo 4 r (by decide), eo 5 r (by decide)]
      exact z
    · rw [eN]; split
      · exact hf.2.2
      · exact b1.2.2.2.1 r r0 r1
    · rw [eN, eo 5 r (by decide), if_neg (by omega)]; exact b1.2.2.2.2 r r0 r1
  refine ⟨zset N 6 x v, ⟨hB', ⟨?_, ?_, fun r r0 r1 => ?_⟩, yLC_g (yf_g f (by decide)) b3, by rw [f 17 5 rfl]; exact b4, fun i i0 i1 => by rw [f 20 i rfl, f 17 5 rfl]; exact b5 i i0 i1⟩, ⟨hB', hB'.2.2.2.1, fun r r0 r1 => (hB'.2.2.1 r r0 r1).2.2.2.2.2.2.2.2, ⟨?_, ?_, fun r r0 r1 => ?_⟩, yLM_g (yf_g f (by decide)) q5⟩, by rw [f 17 5 rfl]; exact hT, yTr_g (yf_g f (by decide)) hTr, yLd_g (yf_g f (by decide)) hLd, yTp_g (yf_g f (by decide)) hTp, yHs_g (yf_g f (by decide)) hHs, yIm_g (yf_g f (by decide)) hIm, ySt_g (yf_g f (by decide)) hSt, ySh_g (yf_g f (by decide)) hSh⟩
  · rw [f 1 0 rfl, eo 0 0 (by decide)]; exact b2.1
  · rw [f 10 4 rfl, eo 9 4 (by decide)]; exact b2.2.1
  · have z := b2.2.2 r r0 r1
    exact ⟨by rw [f 2 r rfl, eo 1 r (by decide)]; exact z.1, by rw [f 3 r rfl, eo 2 r (by decide)]; exact z.2.1, by rw [f 4 r rfl, eo 3 r (by decide)]; exact z.2.2.1, by rw [f 6 r rfl, eo 4 r (by decide)]; exact z.2.2.2.1, by rw [f 7 r rfl, eo 5 r (by decide)]; exact z.2.2.2.2.1, by rw [eA, eN, z.2.2.2.2.2]⟩
  · rw [f 57 0 rfl, eo 0 0 (by decide)]; exact q4.1
  · rw [f 74 4 rfl, eo 9 4 (by decide)]; exact q4.2.1
  · have z := q4.2.2 r r0 r1
    exact ⟨by rw [f 58 r rfl, eo 1 r (by decide)]; exact z.1, by rw [f 59 r rfl, eo 2 r (by decide)]; exact z.2.1, by rw [eM, if_neg (by omega), eo 3 r (by decide)]; exact z.2.2.1, by rw [eM, if_neg (by omega), eo 4 r (by decide)]; exact z.2.2.2.1, by rw [eM, if_neg (by omega), eo 5 r (by decide)]; exact z.2.2.2.2.1, by rw [eM, eN, z.2.2.2.2.2]; exact y_cc (by omega)⟩
theorem y_set2 {c : Int} {N : zF} {G : yG} {σ : zF} {x v : Int} (hI : yInv c N G σ) (hf : yfit (σ 1 0) (σ 1 1) x 2 v) : ∃ N', yInv c N' G (zset (zset σ 6 x v) 60 (12 * 2 + x) v) := by
  replace hf := yfit_2.1 hf
  obtain ⟨n1, n2, n3, n4⟩ := yI_n hI
  obtain ⟨⟨b1, b2, b3, b4, b5⟩, ⟨q1, q2, q3, q4, q5⟩, hT, hTr, hLd, hTp, hHs, hIm, hSt, hSh⟩ := hI
  have f : yf ([6, 60], []) σ (zset (zset σ 6 x v) 60 (12 * 2 + x) v) := yf_set (yf_set yf_rf rfl) rfl
  have eA : ∀ r, (zset (zset σ 6 x v) 60 (12 * 2 + x) v) 6 r = if r = x then v else σ 6 r := fun r => by
    show (if 6 = 6 ∧ r = x then v else σ 6 r) = _
    exact y_cc ⟨fun h => h.2, fun h => ⟨rfl, h⟩⟩
  have eM : ∀ r, (zset (zset σ 6 x v) 60 (12 * 2 + x) v) 60 r = if r = 12 * 2 + x then v else σ 60 r := fun r => by
    show (if 60 = 60 ∧ r = 12 * 2 + x then v else σ 60 r) = _
    exact y_cc ⟨fun h => h.2, fun h => ⟨rfl, h⟩⟩
  generalize zset (zset σ 6 x v) 60 (12 * 2 + x) v = t at f eA eM ⊢
  have eN : ∀ r, zset N 4 x v 4 r = if r = x then v else N 4 r := fun r => by
    show (if 4 = 4 ∧ r = x then v else N 4 r) = _
    exact y_cc ⟨fun h => h.2, fun h => ⟨rfl, h⟩⟩
  have eo : ∀ k i, ¬ k = 4 → zset N 4 x v k i = N k i := fun k i h => zset_k h
  have hB' : yBn (zset N 4 x v) := by
    unfold yBn
    rw [eo 0 0 (by decide)]
    refine ⟨n3, n4, fun r r0 r1 => ?_, fun r r0 r1 => ?_, fun r r0 r1 => ?_⟩
    · have z := b1.2.2.1 r r0 r1
      rw [eo 1 r (by decide), eo 2 r (by decide), eo 3 r (by decide), eN r, eo 5 r (by decide)]
      by_cases e : r = x
      · simp only [if_pos e]; exact ⟨z.1, z.2.1, z.2.2.1, z.2.2.2.1, z.2.2.2.2.1, z.2.2.2.2.2.1, z.2.2.2.2.2.2.1, by rw [e, ← n1]; exact hf.2.2, z.2.2.2.2.2.2.2.2⟩
      · simp only [if_neg e]; exact z
    · rw [eo 6 r (by decide)]; exact b1.2.2.2.1 r r0 r1
    · rw [eo 6 r (by decide), eo 5 r (by decide)]; exact b1.2.2.2.2 r r0 r1
  refine ⟨zset N 4 x v, ⟨hB', ⟨?_, ?_, fun r r0 r1 => ?_⟩, yLC_g (yf_g f (by decide)) b3, by rw [f 17 5 rfl]; exact b4, fun i i0 i1 => by rw [f 20 i rfl, f 17 5 rfl]; exact b5 i i0 i1⟩, ⟨hB', hB'.2.2.2.1, fun r r0 r1 => (hB'.2.2.1 r r0 r1).2.2.2.2.2.2.2.2, ⟨?_, ?_, fun r r0 r1 => ?_⟩, yLM_g (yf_g f (by decide)) q5⟩, by rw [f 17 5 rfl]; exact hT, yTr_g (yf_g f (by decide)) hTr, yLd_g (yf_g f (by decide)) hLd, yTp_g (yf_g f (by decide)) hTp, yHs_g (yf_g f (by decide)) hHs, yIm_g (yf_g f (by decide)) hIm, ySt_g (yf_g f (by decide)) hSt, ySh_g (yf_g f (by decide)) hSh⟩
  · rw [f 1 0 rfl, eo 0 0 (by decide)]; exact b2.1
  · rw [f 10 4 rfl, eo 9 4 (by decide)]; exact b2.2.1
  · have z := b2.2.2 r r0 r1
    exact ⟨by rw [f 2 r rfl, eo 1 r (by decide)]; exact z.1, by rw [f 3 r rfl, eo 2 r (by decide)]; exact z.2.1, by rw [f 4 r rfl, eo 3 r (by decide)]; exact z.2.2.1, by rw [eA, eN, z.2.2.2.1], by rw [f 7 r rfl, eo 5 r (by decide)]; exact z.2.2.2.2.1, by rw [f 5 r rfl, eo 6 r (by decide)]; exact z.2.2.2.2.2⟩
  · rw [f 57 0 rfl, eo 0 0 (by decide)]; exact q4.1
  · rw [f 74 4 rfl, eo 9 4 (by decide)]; exact q4.2.1
  · have z := q4.2.2 r r0 r1
    exact ⟨by rw [f 58 r rfl, eo 1 r (by decide)]; exact z.1, by rw [f 59 r rfl, eo 2 r (by decide)]; exact z.2.1, by rw [eM, if_neg (by omega), eo 3 r (by decide)]; exact z.2.2.1, by rw [eM, eN, z.2.2.2.1]; exact y_cc (by omega), by rw [eM, if_neg (by omega), eo 5 r (by decide)]; exact z.2.2.2.2.1, by rw [eM, if_neg (by omega), eo 6 r (by decide)]; exact z.2.2.2.2.2⟩
theorem y_set3 {c : Int} {N : zF} {G : yG} {σ : zF} {x v : Int} (hI : yInv c N G σ) (hf : yfit (σ 1 0) (σ 1 1) x 3 v) : ∃ N', yInv c N' G (zset (zset σ 7 x v) 60 (12 * 3 + x) v) := by
  replace hf := yfit_3.1 hf
  obtain ⟨n1, n2, n3, n4⟩ := yI_n hI
  obtain ⟨⟨b1, b2, b3, b4, b5⟩, ⟨q1, q2, q3, q4, q5⟩, hT, hTr, hLd, hTp, hHs, hIm, hSt, hSh⟩ := hI
  have f : yf ([7, 60], []) σ (zset (zset σ 7 x v) 60 (12 * 3 + x) v) := yf_set (yf_set yf_rf rfl) rfl
  have eA : ∀ r, (zset (zset σ 7 x v) 60 (12 * 3 + x) v) 7 r = if r = x then v else σ 7 r := fun r => by
    show (if 7 = 7 ∧ r = x then v else σ 7 r) = _
    exact y_cc ⟨fun h => h.2, fun h => ⟨rfl, h⟩⟩
  have eM : ∀ r, (zset (zset σ 7 x v) 60 (12 * 3 + x) v) 60 r = if r = 12 * 3 + x then v else σ 60 r := fun r => by
    show (if 60 = 60 ∧ r = 12 * 3 + x then v else σ 60 r) = _
    exact y_cc ⟨fun h => h.2, fun h => ⟨rfl, h⟩⟩
  generalize zset (zset σ 7 x v) 60 (12 * 3 + x) v = t at f eA eM ⊢
  have eN : ∀ r, zset N 5 x v 5 r = if r = x then v else N 5 r := fun r => by
    show (if 5 = 5 ∧ r = x then v else N 5 r) = _
    exact y_cc ⟨fun h => h.2, fun h => ⟨rfl, h⟩⟩
  have eo : ∀ k i, ¬ k = 5 → zset N 5 x v k i = N k i := fun k i h => zset_k h
  have hB' : yBn (zset N 5 x v) := by
    unfold yBn
    rw [eo 0 0 (by decide)]
    refine ⟨n3, n4, fun r r0 r1 => ?_, fun r r0 r1 => ?_, fun r r0 r1 => ?_⟩
    · have z := b1.2.2.1 r r0 r1
      rw [eo 1 r (by decide), eo 2 r (by decide), eo 3 r (by decide), eo 4 r (by decide), eN r]
      by_cases e : r = x
      · simp only [if_pos e]; exact ⟨z.1, z.2.1, z.2.2.1, z.2.2.2.1, z.2.2.2.2.1, z.2.2.2.2.2.1, z.2.2.2.2.2.2.1, z.2.2.2.2.2.2.2.1, hf.2.2⟩
      · simp only [if_neg e]; exact z
    · rw [eo 6 r (by decide)]; exact b1.2.2.2.1 r r0 r1
    · rw [eo 6 r (by decide), eN, if_neg (by omega)]; exact b1.2.2.2.2 r r0 r1
  refine ⟨zset N 5 x v, ⟨hB', ⟨?_, ?_, fun r r0 r1 => ?_⟩, yLC_g (yf_g f (by decide)) b3, by rw [f 17 5 rfl]; exact b4, fun i i0 i1 => by rw [f 20 i rfl, f 17 5 rfl]; exact b5 i i0 i1⟩, ⟨hB', hB'.2.2.2.1, fun r r0 r1 => (hB'.2.2.1 r r0 r1).2.2.2.2.2.2.2.2, ⟨?_, ?_, fun r r0 r1 => ?_⟩, yLM_g (yf_g f (by decide)) q5⟩, by rw [f 17 5 rfl]; exact hT, yTr_g (yf_g f (by decide)) hTr, yLd_g (yf_g f (by decide)) hLd, yTp_g (yf_g f (by decide)) hTp, yHs_g (yf_g f (by decide)) hHs, yIm_g (yf_g f (by decide)) hIm, ySt_g (yf_g f (by decide)) hSt, ySh_g (yf_g f (by decide)) hSh⟩
  · rw [f 1 0 rfl, eo 0 0 (by decide)]; exact b2.1
  · rw [f 10 4 rfl, eo 9 4 (by decide)]; exact b2.2.1
  · have z := b2.2.2 r r0 r1
    exact ⟨by rw [f 2 r rfl, eo 1 r (by decide)]; exact z.1, by rw [f 3 r rfl, eo 2 r (by decide)]; exact z.2.1, by rw [f 4 r rfl, eo 3 r (by decide)]; exact z.2.2.1, by rw [f 6 r rfl, eo 4 r (by decide)]; exact z.2.2.2.1, by rw [eA, eN, z.2.2.2.2.1], by rw [f 5 r rfl, eo 6 r (by decide)]; exact z.2.2.2.2.2⟩
  · rw [f 57 0 rfl, eo 0 0 (by decide)]; exact q4.1
  · rw [f 74 4 rfl, eo 9 4 (by decide)]; exact q4.2.1
  · have z := q4.2.2 r r0 r1
    exact ⟨by rw [f 58 r rfl, eo 1 r (by decide)]; exact z.1, by rw [f 59 r rfl, eo 2 r (by decide)]; exact z.2.1, by rw [eM, if_neg (by omega), eo 3 r (by decide)]; exact z.2.2.1, by rw [eM, if_neg (by omega), eo 4 r (by decide)]; exact z.2.2.2.1, by rw [eM, eN, z.2.2.2.2.1]; exact y_cc (by omega), by rw [eM, if_neg (by omega), eo 6 r (by decide)]; exact z.2.2.2.2.2⟩
theorem y_set4 {c : Int} {N : zF} {G : yG} {σ : zF} {x v : Int} (hI : yInv c N G σ) (hf : yfit (σ 1 0) (σ 1 1) x 4 v) : ∃ N', yInv c N' G (zset (zset σ 8 x v) 61 x v) := by
  replace hf := yfit_4.1 hf
  obtain ⟨hP, hY, hT, hTr, hLd, hTp, hHs, hIm, hSt, hSh⟩ := hI
  have f : yf ([8, 61], []) σ (zset (zset σ 8 x v) 61 x v) := yf_set (yf_set yf_rf rfl) rfl
  have eA : ∀ r, (zset (zset σ 8 x v) 61 x v) 8 r = if r = x then v else σ 8 r := fun r => by
    show (if 8 = 8 ∧ r = x then v else σ 8 r) = _
    exact y_cc ⟨fun h => h.2, fun h => ⟨rfl, h⟩⟩
  have eM : ∀ r, (zset (zset σ 8 x v) 61 x v) 61 r = if r = x then v else σ 61 r := fun r => by
    show (if 61 = 61 ∧ r = x then v else σ 61 r) = _
    exact y_cc ⟨fun h => h.2, fun h => ⟨rfl, h⟩⟩
  generalize zset (zset σ 8 x v) 61 x v = t at f eA eM ⊢
  refine ⟨N, yP_f hP f (by decide), yY_f hY f (by decide), by rw [f 17 5 rfl]; exact hT, ⟨?_, ?_, ?_, fun i i0 i1 => ?_⟩, yLd_g (yf_g f (by decide)) hLd, yTp_g (yf_g f (by decide)) hTp, yHs_g (yf_g f (by decide)) hHs, yIm_g (yf_g f (by decide)) hIm, ySt_g (yf_g f (by decide)) hSt, ySh_g (yf_g f (by decide)) hSh⟩
  · rw [f 1 1 rfl, f 57 4 rfl]; exact hTr.1
  · rw [f 1 1 rfl]; exact hTr.2.1
  · rw [f 1 1 rfl]; exact hTr.2.2.1
  · have z := hTr.2.2.2 i i0 i1
    rw [f 1 1 rfl, f 9 i rfl, f 62 i rfl, eA, eM]
    by_cases e : i = x
    · simp only [if_pos e]; exact ⟨trivial, z.2.1, fun h => ⟨hf.2.2.1, hf.2.2.2, (z.2.2 h).2.2⟩⟩
    · simp only [if_neg e]; exact z
theorem y_set5 {c : Int} {N : zF} {G : yG} {σ : zF} {x v : Int} (hI : yInv c N G σ) (hf : yfit (σ 1 0) (σ 1 1) x 5 v) : ∃ N', yInv c N' G (zset (zset σ 9 x v) 62 x v) := by
  replace hf := yfit_5.1 hf
  obtain ⟨hP, hY, hT, hTr, hLd, hTp, hHs, hIm, hSt, hSh⟩ := hI
  have f : yf ([9, 62], []) σ (zset (zset σ 9 x v) 62 x v) := yf_set (yf_set yf_rf rfl) rfl
  have eA : ∀ r, (zset (zset σ 9 x v) 62 x v) 9 r = if r = x then v else σ 9 r := fun r => by
    show (if 9 = 9 ∧ r = x then v else σ 9 r) = _
    exact y_cc ⟨fun h => h.2, fun h => ⟨rfl, h⟩⟩
  have eM : ∀ r, (zset (zset σ 9 x v) 62 x v) 62 r = if r = x then v else σ 62 r := fun r => by
    show (if 62 = 62 ∧ r = x then v else σ 62 r) = _
    exact y_cc ⟨fun h => h.2, fun h => ⟨rfl, h⟩⟩
  generalize zset (zset σ 9 x v) 62 x v = t at f eA eM ⊢
  refine ⟨N, yP_f hP f (by decide), yY_f hY f (by decide), by rw [f 17 5 rfl]; exact hT, ⟨?_, ?_, ?_, fun i i0 i1 => ?_⟩, yLd_g (yf_g f (by decide)) hLd, yTp_g (yf_g f (by decide)) hTp, yHs_g (yf_g f (by decide)) hHs, yIm_g (yf_g f (by decide)) hIm, ySt_g (yf_g f (by decide)) hSt, ySh_g (yf_g f (by decide)) hSh⟩
  · rw [f 1 1 rfl, f 57 4 rfl]; exact hTr.1
  · rw [f 1 1 rfl]; exact hTr.2.1
  · rw [f 1 1 rfl]; exact hTr.2.2.1
  · have z := hTr.2.2.2 i i0 i1
    rw [f 1 1 rfl, f 8 i rfl, f 61 i rfl, eA, eM]
    by_cases e : i = x
    · simp only [if_pos e]; exact ⟨z.1, trivial, fun h => ⟨(z.2.2 h).1, (z.2.2 h).2.1, hf.2.2.1, hf.2.2.2⟩⟩
    · simp only [if_neg e]; exact z
theorem y_set {c : Int} {N : zF} {G : yG} {σ : zF} {x a v : Int} (hI : yInv c N G σ) (hf : yfit (σ 1 0) (σ 1 1) x a v) : ∃ N', yInv c N' G (zset (zset σ (ycl a) x v) (ymc a) (ymi a x) v) := by
  have h := hf
  rcases h with h | h | h | h | h | h
  · obtain ⟨rfl, -⟩ := h; exact y_set0 hI hf
  · obtain ⟨rfl, -⟩ := h; exact y_set1 hI hf
  · obtain ⟨rfl, -⟩ := h; exact y_set2 hI hf
  · obtain ⟨rfl, -⟩ := h; exact y_set3 hI hf
  · obtain ⟨rfl, -⟩ := h; exact y_set4 hI hf
  · obtain ⟨rfl, -⟩ := h; exact y_set5 hI hf
theorem yfit_a {n q k a v : Int} (hf : yfit n q k a v) : 0 ≤ a ∧ a ≤ 5 := by
  rcases hf with h | h | h | h | h | h <;> exact ⟨by omega, by omega⟩
theorem yfit_x {n q k a v : Int} (hf : yfit n q k a v) : yhas n q k a := by
  rcases hf with h | h | h | h | h | h <;> (unfold yhas; omega)
