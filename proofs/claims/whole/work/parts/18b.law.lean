/-! the law's own code -/
theorem zchunk {α : Type} {P : α → Prop} {l : List α} {a n : Nat} (h1 : ∀ e ∈ (l.drop a).take n, P e) (h2 : ∀ e ∈ l.drop (a + n), P e) : ∀ e ∈ l.drop a, P e := by
  intro e he
  rw [← List.take_append_drop n (l.drop a), List.drop_drop] at he
  exact (List.mem_append.mp he).elim (h1 e) (h2 e)
set_option maxRecDepth 100000 in
set_option maxHeartbeats 4000000 in
theorem okL_d0 : ∀ e ∈ (K_L_law.drop 0).take 26, decode code e.1 = .ok (e.2.1, e.2.2.1) := by decide +kernel
set_option maxRecDepth 100000 in
set_option maxHeartbeats 4000000 in
theorem okL_d1 : ∀ e ∈ (K_L_law.drop 26).take 26, decode code e.1 = .ok (e.2.1, e.2.2.1) := by decide +kernel
set_option maxRecDepth 100000 in
set_option maxHeartbeats 4000000 in
theorem okL_d2 : ∀ e ∈ (K_L_law.drop 52).take 26, decode code e.1 = .ok (e.2.1, e.2.2.1) := by decide +kernel
set_option maxRecDepth 100000 in
set_option maxHeartbeats 4000000 in
theorem okL_d3 : ∀ e ∈ (K_L_law.drop 78).take 26, decode code e.1 = .ok (e.2.1, e.2.2.1) := by decide +kernel
set_option maxRecDepth 100000 in
set_option maxHeartbeats 4000000 in
theorem okL_d4 : ∀ e ∈ (K_L_law.drop 104).take 26, decode code e.1 = .ok (e.2.1, e.2.2.1) := by decide +kernel
set_option maxRecDepth 100000 in
set_option maxHeartbeats 4000000 in
theorem okL_d5 : ∀ e ∈ (K_L_law.drop 130).take 26, decode code e.1 = .ok (e.2.1, e.2.2.1) := by decide +kernel
set_option maxRecDepth 100000 in
set_option maxHeartbeats 4000000 in
theorem okL_d6 : ∀ e ∈ (K_L_law.drop 156).take 26, decode code e.1 = .ok (e.2.1, e.2.2.1) := by decide +kernel
set_option maxRecDepth 100000 in
set_option maxHeartbeats 4000000 in
theorem okL_d7 : ∀ e ∈ (K_L_law.drop 182).take 26, decode code e.1 = .ok (e.2.1, e.2.2.1) := by decide +kernel
set_option maxRecDepth 100000 in
set_option maxHeartbeats 4000000 in
theorem okL_d8 : ∀ e ∈ (K_L_law.drop 208).take 26, decode code e.1 = .ok (e.2.1, e.2.2.1) := by decide +kernel
set_option maxRecDepth 100000 in
set_option maxHeartbeats 4000000 in
theorem okL_d9 : ∀ e ∈ (K_L_law.drop 234).take 26, decode code e.1 = .ok (e.2.1, e.2.2.1) := by decide +kernel
set_option maxRecDepth 100000 in
set_option maxHeartbeats 4000000 in
theorem okL_d10 : ∀ e ∈ (K_L_law.drop 260).take 26, decode code e.1 = .ok (e.2.1, e.2.2.1) := by decide +kernel
set_option maxRecDepth 100000 in
set_option maxHeartbeats 4000000 in
theorem okL_d11 : ∀ e ∈ (K_L_law.drop 286).take 26, decode code e.1 = .ok (e.2.1, e.2.2.1) := by decide +kernel
set_option maxRecDepth 100000 in
set_option maxHeartbeats 4000000 in
theorem okL_d12 : ∀ e ∈ (K_L_law.drop 312).take 26, decode code e.1 = .ok (e.2.1, e.2.2.1) := by decide +kernel
set_option maxRecDepth 100000 in
set_option maxHeartbeats 4000000 in
theorem okL_d13 : ∀ e ∈ (K_L_law.drop 338).take 26, decode code e.1 = .ok (e.2.1, e.2.2.1) := by decide +kernel
set_option maxRecDepth 100000 in
set_option maxHeartbeats 4000000 in
theorem okL_d14 : ∀ e ∈ (K_L_law.drop 364).take 26, decode code e.1 = .ok (e.2.1, e.2.2.1) := by decide +kernel
set_option maxRecDepth 100000 in
set_option maxHeartbeats 4000000 in
theorem okL_d15 : ∀ e ∈ (K_L_law.drop 390).take 26, decode code e.1 = .ok (e.2.1, e.2.2.1) := by decide +kernel
set_option maxRecDepth 100000 in
set_option maxHeartbeats 4000000 in
theorem okL_d16 : ∀ e ∈ (K_L_law.drop 416).take 26, decode code e.1 = .ok (e.2.1, e.2.2.1) := by decide +kernel
set_option maxRecDepth 100000 in
set_option maxHeartbeats 4000000 in
theorem okL_d17 : ∀ e ∈ (K_L_law.drop 442).take 26, decode code e.1 = .ok (e.2.1, e.2.2.1) := by decide +kernel
set_option maxRecDepth 100000 in
set_option maxHeartbeats 4000000 in
theorem okL_d18 : ∀ e ∈ (K_L_law.drop 468).take 26, decode code e.1 = .ok (e.2.1, e.2.2.1) := by decide +kernel
set_option maxRecDepth 100000 in
set_option maxHeartbeats 4000000 in
theorem okL_d19 : ∀ e ∈ (K_L_law.drop 494).take 26, decode code e.1 = .ok (e.2.1, e.2.2.1) := by decide +kernel
set_option maxRecDepth 100000 in
set_option maxHeartbeats 4000000 in
theorem okL_d20 : ∀ e ∈ (K_L_law.drop 520).take 26, decode code e.1 = .ok (e.2.1, e.2.2.1) := by decide +kernel
set_option maxRecDepth 100000 in
set_option maxHeartbeats 4000000 in
theorem okL_d21 : ∀ e ∈ (K_L_law.drop 546).take 26, decode code e.1 = .ok (e.2.1, e.2.2.1) := by decide +kernel
set_option maxRecDepth 100000 in
set_option maxHeartbeats 4000000 in
theorem okL_d22 : ∀ e ∈ (K_L_law.drop 572).take 26, decode code e.1 = .ok (e.2.1, e.2.2.1) := by decide +kernel
set_option maxRecDepth 100000 in
set_option maxHeartbeats 4000000 in
theorem okL_d23 : ∀ e ∈ (K_L_law.drop 598).take 26, decode code e.1 = .ok (e.2.1, e.2.2.1) := by decide +kernel
set_option maxRecDepth 100000 in
set_option maxHeartbeats 4000000 in
theorem okL_d24 : ∀ e ∈ (K_L_law.drop 624).take 26, decode code e.1 = .ok (e.2.1, e.2.2.1) := by decide +kernel
set_option maxRecDepth 100000 in
set_option maxHeartbeats 4000000 in
theorem okL_d25 : ∀ e ∈ (K_L_law.drop 650).take 26, decode code e.1 = .ok (e.2.1, e.2.2.1) := by decide +kernel
set_option maxRecDepth 100000 in
set_option maxHeartbeats 4000000 in
theorem okL_d26 : ∀ e ∈ (K_L_law.drop 676).take 26, decode code e.1 = .ok (e.2.1, e.2.2.1) := by decide +kernel
set_option maxRecDepth 100000 in
set_option maxHeartbeats 4000000 in
theorem okL_d27 : ∀ e ∈ (K_L_law.drop 702).take 26, decode code e.1 = .ok (e.2.1, e.2.2.1) := by decide +kernel
set_option maxRecDepth 100000 in
set_option maxHeartbeats 4000000 in
theorem okL_d28 : ∀ e ∈ (K_L_law.drop 728).take 26, decode code e.1 = .ok (e.2.1, e.2.2.1) := by decide +kernel
set_option maxRecDepth 100000 in
set_option maxHeartbeats 4000000 in
theorem okL_d29 : ∀ e ∈ (K_L_law.drop 754).take 26, decode code e.1 = .ok (e.2.1, e.2.2.1) := by decide +kernel
set_option maxRecDepth 100000 in
set_option maxHeartbeats 4000000 in
theorem okL_d30 : ∀ e ∈ (K_L_law.drop 780).take 26, decode code e.1 = .ok (e.2.1, e.2.2.1) := by decide +kernel
set_option maxRecDepth 100000 in
set_option maxHeartbeats 4000000 in
theorem okL_d31 : ∀ e ∈ (K_L_law.drop 806).take 26, decode code e.1 = .ok (e.2.1, e.2.2.1) := by decide +kernel
set_option maxRecDepth 100000 in
set_option maxHeartbeats 4000000 in
theorem okL_d32 : ∀ e ∈ (K_L_law.drop 832).take 26, decode code e.1 = .ok (e.2.1, e.2.2.1) := by decide +kernel
set_option maxRecDepth 100000 in
set_option maxHeartbeats 4000000 in
theorem okL_d33 : ∀ e ∈ (K_L_law.drop 858).take 26, decode code e.1 = .ok (e.2.1, e.2.2.1) := by decide +kernel
set_option maxRecDepth 100000 in
set_option maxHeartbeats 4000000 in
theorem okL_d34 : ∀ e ∈ (K_L_law.drop 884).take 26, decode code e.1 = .ok (e.2.1, e.2.2.1) := by decide +kernel
set_option maxRecDepth 100000 in
set_option maxHeartbeats 4000000 in
theorem okL_d35 : ∀ e ∈ (K_L_law.drop 910).take 26, decode code e.1 = .ok (e.2.1, e.2.2.1) := by decide +kernel
set_option maxRecDepth 100000 in
set_option maxHeartbeats 4000000 in
theorem okL_d36 : ∀ e ∈ (K_L_law.drop 936).take 26, decode code e.1 = .ok (e.2.1, e.2.2.1) := by decide +kernel
set_option maxRecDepth 100000 in
set_option maxHeartbeats 4000000 in
theorem okL_d37 : ∀ e ∈ (K_L_law.drop 962).take 26, decode code e.1 = .ok (e.2.1, e.2.2.1) := by decide +kernel
set_option maxRecDepth 100000 in
set_option maxHeartbeats 4000000 in
theorem okL_d38 : ∀ e ∈ (K_L_law.drop 988).take 26, decode code e.1 = .ok (e.2.1, e.2.2.1) := by decide +kernel
set_option maxRecDepth 100000 in
set_option maxHeartbeats 4000000 in
theorem okL_d39 : ∀ e ∈ (K_L_law.drop 1014).take 26, decode code e.1 = .ok (e.2.1, e.2.2.1) := by decide +kernel
set_option maxRecDepth 100000 in
set_option maxHeartbeats 4000000 in
theorem okL_d40 : ∀ e ∈ (K_L_law.drop 1040).take 26, decode code e.1 = .ok (e.2.1, e.2.2.1) := by decide +kernel
set_option maxRecDepth 100000 in
theorem okL_end : ∀ e ∈ K_L_law.drop 1066, decode code e.1 = .ok (e.2.1, e.2.2.1) := by decide +kernel
theorem okL_dec : ∀ e ∈ K_L_law, decode code e.1 = .ok (e.2.1, e.2.2.1) := (zchunk okL_d0 (zchunk okL_d1 (zchunk okL_d2 (zchunk okL_d3 (zchunk okL_d4 (zchunk okL_d5 (zchunk okL_d6 (zchunk okL_d7 (zchunk okL_d8 (zchunk okL_d9 (zchunk okL_d10 (zchunk okL_d11 (zchunk okL_d12 (zchunk okL_d13 (zchunk okL_d14 (zchunk okL_d15 (zchunk okL_d16 (zchunk okL_d17 (zchunk okL_d18 (zchunk okL_d19 (zchunk okL_d20 (zchunk okL_d21 (zchunk okL_d22 (zchunk okL_d23 (zchunk okL_d24 (zchunk okL_d25 (zchunk okL_d26 (zchunk okL_d27 (zchunk okL_d28 (zchunk okL_d29 (zchunk okL_d30 (zchunk okL_d31 (zchunk okL_d32 (zchunk okL_d33 (zchunk okL_d34 (zchunk okL_d35 (zchunk okL_d36 (zchunk okL_d37 (zchunk okL_d38 (zchunk okL_d39 (zchunk okL_d40 okL_end)))))))))))))))))))))))))))))))))))))))))
set_option maxRecDepth 100000 in
set_option maxHeartbeats 4000000 in
theorem okL_sim : K_L_law.all (fun e => zsimp 4 (some .boolean) e.1 e.2) = true := by decide +kernel
set_option maxRecDepth 100000 in
set_option maxHeartbeats 4000000 in
theorem okL_all : zall zMT RL "law" K_L_law := ⟨⟨RX11, TX11, 11, tyX11, rfl, rfl, tyX11_ok, by decide +kernel, lk700, lk701, lk65⟩, trivial, ⟨_, _, _, _, _, TX11, 11, mt_103, rfl, par_X11_init, Or.inl lk702, lk703, lk65, rfl⟩, trivial, ⟨RX12, TX12, 56, tyX12, rfl, rfl, tyX12_ok, by decide +kernel, lk704, lk705, lk551⟩, trivial, ⟨_, _, _, _, _, TX12, 56, mt_152, rfl, par_X12_init, Or.inl lk706, lk707, lk551, rfl⟩, trivial, trivial, trivial, trivial, trivial, trivial, trivial, trivial, trivial, trivial, trivial, trivial, trivial, trivial, trivial, trivial, trivial, trivial, trivial, trivial, trivial, trivial, trivial, trivial, trivial, trivial, ⟨_, _, _, _, _, _, TX11, 11, mt_104, rfl, par_X11_road, Or.inl lk708, lk710, lk709, lk65⟩, trivial, trivial, trivial, trivial, trivial, trivial, trivial, trivial, trivial, trivial, trivial, ⟨_, _, _, _, _, _, TX12, 56, mt_160, rfl, par_X12_road, Or.inl lk711, lk713, lk712, lk551⟩, trivial, trivial, trivial, trivial, trivial, trivial, trivial, trivial, trivial, trivial, trivial, trivial, trivial, trivial, trivial, trivial, trivial, trivial, trivial, ⟨_, _, _, _, _, _, TX11, 11, mt_105, rfl, par_X11_roads, Or.inl lk714, lk716, lk715, lk65⟩, trivial, trivial, trivial, trivial, trivial, trivial, trivial, trivial, trivial, trivial, trivial, trivial, trivial, trivial, trivial, trivial, ⟨_, _, _, _, _, _, TX12, 56, mt_161, rfl, par_X12_roads, Or.inl lk717, lk719, lk718, lk551⟩, trivial, trivial, trivial, trivial, trivial, trivial, trivial, trivial, trivial, ⟨_, _, _, _, _, _, TX11, 11, mt_107, rfl, par_X11_traveller, Or.inl lk720, lk722, lk721, lk65⟩, trivial, trivial, trivial, trivial, trivial, trivial, ⟨_, _, _, _, _, _, TX12, 56, mt_163, rfl, par_X12_traveller, Or.inl lk723, lk725, lk724, lk551⟩, trivial, trivial, trivial, trivial, trivial, trivial, trivial, trivial, trivial, trivial, trivial, trivial, trivial, trivial, trivial, trivial, trivial, trivial, trivial, ⟨_, _, _, _, _, _, TX11, 11, mt_108, rfl, par_X11_mend, Or.inl lk726, lk728, lk727, lk65⟩, trivial, trivial, trivial, trivial, trivial, trivial, trivial, trivial, trivial, trivial, trivial, trivial, trivial, trivial, trivial, trivial, ⟨_, _, _, _, _, _, TX12, 56, mt_168, rfl, par_X12_mend, Or.inl lk729, lk731, lk730, lk551⟩, trivial, trivial, trivial, trivial, trivial, trivial, trivial, trivial, trivial, trivial, trivial, trivial, trivial, trivial, ⟨_, _, _, _, _, _, TX11, 11, mt_109, rfl, par_X11_of, Or.inl lk732, lk734, lk733, lk65⟩, trivial, trivial, trivial, trivial, trivial, trivial, trivial, trivial, trivial, trivial, trivial, ⟨_, _, _, _, _, _, TX12, 56, mt_169, rfl, par_X12_of, Or.inl lk735, lk737, lk736, lk551⟩, trivial, trivial, trivial, trivial, trivial, trivial, trivial, trivial, trivial, ⟨_, _, _, _, _, _, TX11, 11, mt_110, rfl, par_X11_feed, Or.inl lk738, lk740, lk739, lk65⟩, trivial, trivial, trivial, trivial, trivial, trivial, ⟨_, _, _, _, _, _, TX12, 56, mt_172, rfl, par_X12_feed, Or.inl lk741, lk743, lk742, lk551⟩, trivial, trivial, trivial, trivial, ⟨_, _, _, _, _, _, TX11, 11, mt_111, rfl, par_X11_law, Or.inl lk744, lk746, lk745, lk65⟩, trivial, ⟨_, _, _, _, _, _, TX12, 56, mt_185, rfl, par_X12_law, Or.inl lk747, lk749, lk748, lk551⟩, trivial, trivial, trivial, trivial, trivial, trivial, trivial, trivial, trivial, ⟨_, _, _, _, _, _, TX11, 11, mt_112, rfl, par_X11_hours, Or.inl lk750, lk752, lk751, lk65⟩, trivial, trivial, trivial, trivial, trivial, trivial, ⟨_, _, _, _, _, _, TX12, 56, mt_194, rfl, par_X12_hours, Or.inl lk753, lk755, lk754, lk551⟩, trivial, trivial, trivial, trivial, trivial, trivial, trivial, trivial, trivial, trivial, trivial, trivial, trivial, trivial, ⟨_, _, _, _, _, _, TX11, 11, mt_113, rfl, par_X11_way, Or.inl lk756, lk758, lk757, lk65⟩, trivial, trivial, trivial, trivial, trivial, trivial, trivial, trivial, trivial, trivial, trivial, ⟨_, _, _, _, _, _, TX12, 56, mt_202, rfl, par_X12_way, Or.inl lk759, lk761, lk760, lk551⟩, trivial, trivial, trivial, trivial, trivial, trivial, trivial, trivial, trivial, trivial, trivial, trivial, trivial, trivial, trivial, trivial, trivial, trivial, trivial, ⟨_, _, _, _, _, _, TX11, 11, mt_114, rfl, par_X11_reach, Or.inl lk762, lk764, lk763, lk65⟩, trivial, trivial, trivial, trivial, trivial, trivial, trivial, trivial, trivial, trivial, trivial, trivial, trivial, trivial, trivial, trivial, ⟨_, _, _, _, _, _, TX12, 56, mt_203, rfl, par_X12_reach, Or.inl lk765, lk767, lk766, lk551⟩, trivial, trivial, trivial, trivial, trivial, trivial, trivial, trivial, trivial, ⟨_, _, _, _, _, _, TX11, 11, mt_115, rfl, par_X11_needed, Or.inl lk768, lk770, lk769, lk65⟩, trivial, trivial, trivial, trivial, trivial, trivial, ⟨_, _, _, _, _, _, TX12, 56, mt_205, rfl, par_X12_needed, Or.inl lk771, lk773, lk772, lk551⟩, trivial, trivial, trivial, trivial, trivial, trivial, trivial, trivial, trivial, trivial, trivial, trivial, trivial, trivial, ⟨_, _, _, _, _, _, TX11, 11, mt_116, rfl, par_X11_longer, Or.inl lk774, lk776, lk775, lk65⟩, trivial, trivial, trivial, trivial, trivial, trivial, trivial, trivial, trivial, trivial, trivial, ⟨_, _, _, _, _, _, TX12, 56, mt_206, rfl, par_X12_longer, Or.inl lk777, lk779, lk778, lk551⟩, trivial, trivial, trivial, trivial, trivial, trivial, trivial, trivial, trivial, trivial, trivial, trivial, trivial, trivial, trivial, trivial, trivial, trivial, trivial, ⟨_, _, _, _, _, _, TX11, 11, mt_117, rfl, par_X11_trip, Or.inl lk780, lk782, lk781, lk65⟩, trivial, trivial, trivial, trivial, trivial, trivial, trivial, trivial, trivial, trivial, trivial, trivial, trivial, trivial, trivial, trivial, ⟨_, _, _, _, _, _, TX12, 56, mt_208, rfl, par_X12_trip, Or.inl lk783, lk785, lk784, lk551⟩, trivial, trivial, trivial, trivial, trivial, trivial, trivial, trivial, trivial, trivial, trivial, trivial, trivial, trivial, trivial, trivial, trivial, trivial, trivial, ⟨_, _, _, _, _, _, TX11, 11, mt_119, rfl, par_X11_round, Or.inl lk786, lk788, lk787, lk65⟩, trivial, trivial, trivial, trivial, trivial, trivial, trivial, trivial, trivial, trivial, trivial, trivial, trivial, trivial, trivial, trivial, ⟨_, _, _, _, _, _, TX12, 56, mt_210, rfl, par_X12_round, Or.inl lk789, lk791, lk790, lk551⟩, trivial, trivial, trivial, trivial, trivial, trivial, trivial, trivial, trivial, trivial, trivial, trivial, trivial, trivial, trivial, trivial, trivial, trivial, trivial, ⟨_, _, _, _, _, _, TX11, 11, mt_120, rfl, par_X11_least, Or.inl lk792, lk794, lk793, lk65⟩, trivial, trivial, trivial, trivial, trivial, trivial, trivial, trivial, trivial, trivial, trivial, trivial, trivial, trivial, trivial, trivial, ⟨_, _, _, _, _, _, TX12, 56, mt_212, rfl, par_X12_least, Or.inl lk795, lk797, lk796, lk551⟩, trivial, trivial, trivial, trivial, trivial, trivial, trivial, trivial, trivial, ⟨_, _, _, _, _, _, TX11, 11, mt_121, rfl, par_X11_best, Or.inl lk798, lk800, lk799, lk65⟩, trivial, trivial, trivial, trivial, trivial, trivial, ⟨_, _, _, _, _, _, TX12, 56, mt_213, rfl, par_X12_best, Or.inl lk801, lk803, lk802, lk551⟩, trivial, trivial, trivial, trivial, trivial, trivial, trivial, trivial, trivial, ⟨_, _, _, _, _, _, TX11, 11, mt_122, rfl, par_X11_anger, Or.inl lk804, lk806, lk805, lk65⟩, trivial, trivial, trivial, trivial, trivial, trivial, ⟨_, _, _, _, _, _, TX12, 56, mt_214, rfl, par_X12_anger, Or.inl lk807, lk809, lk808, lk551⟩, trivial, trivial, trivial, trivial, trivial, trivial, trivial, trivial, trivial, ⟨_, _, _, _, _, _, TX11, 11, mt_123, rfl, par_X11_peace, Or.inl lk810, lk812, lk811, lk65⟩, trivial, trivial, trivial, trivial, trivial, trivial, ⟨_, _, _, _, _, _, TX12, 56, mt_216, rfl, par_X12_peace, Or.inl lk813, lk815, lk814, lk551⟩, trivial, trivial, trivial, trivial, trivial, trivial, trivial, trivial, trivial, trivial, trivial, trivial, trivial, trivial, ⟨_, _, _, _, _, _, TX11, 11, mt_124, rfl, par_X11_ring, Or.inl lk816, lk818, lk817, lk65⟩, trivial, trivial, trivial, trivial, trivial, trivial, trivial, trivial, trivial, trivial, trivial, ⟨_, _, _, _, _, _, TX12, 56, mt_217, rfl, par_X12_ring, Or.inl lk819, lk821, lk820, lk551⟩, trivial, trivial, trivial, trivial, trivial, trivial, trivial, trivial, trivial, ⟨_, _, _, _, _, _, TX11, 11, mt_125, rfl, par_X11_judge, Or.inl lk822, lk824, lk823, lk65⟩, trivial, trivial, trivial, trivial, trivial, trivial, ⟨_, _, _, _, _, _, TX12, 56, mt_220, rfl, par_X12_judge, Or.inl lk825, lk827, lk826, lk551⟩, trivial, trivial, trivial, trivial, trivial, trivial, trivial, trivial, trivial, trivial, trivial, trivial, trivial, trivial, ⟨_, _, _, _, _, _, TX11, 11, mt_126, rfl, par_X11_sunday, Or.inl lk828, lk830, lk829, lk65⟩, trivial, trivial, trivial, trivial, trivial, trivial, trivial, trivial, trivial, trivial, trivial, ⟨_, _, _, _, _, _, TX12, 56, mt_225, rfl, par_X12_sunday, Or.inl lk831, lk833, lk832, lk551⟩, trivial, trivial, trivial, trivial, trivial, trivial, trivial, trivial, trivial, trivial, trivial, trivial, trivial, trivial, trivial, trivial, trivial, trivial, trivial, ⟨_, _, _, _, _, _, TX11, 11, mt_127, rfl, par_X11_byTurns, Or.inl lk834, lk836, lk835, lk65⟩, trivial, trivial, trivial, trivial, trivial, trivial, trivial, trivial, trivial, trivial, trivial, trivial, trivial, trivial, trivial, trivial, ⟨_, _, _, _, _, _, TX12, 56, mt_228, rfl, par_X12_byTurns, Or.inl lk837, lk839, lk838, lk551⟩, trivial, trivial, trivial, trivial, trivial, trivial, trivial, trivial, trivial, trivial, trivial, trivial, trivial, trivial, trivial, trivial, trivial, trivial, trivial, ⟨_, _, _, _, _, _, TX11, 11, mt_128, rfl, par_X11_drawn, Or.inl lk840, lk842, lk841, lk65⟩, trivial, trivial, trivial, trivial, trivial, trivial, trivial, trivial, trivial, trivial, trivial, trivial, trivial, trivial, trivial, trivial, ⟨_, _, _, _, _, _, TX12, 56, mt_229, rfl, par_X12_drawn, Or.inl lk843, lk845, lk844, lk551⟩, trivial, trivial, trivial, trivial, trivial, trivial, trivial, trivial, trivial, trivial, trivial, trivial, trivial, trivial, trivial, trivial, trivial, trivial, trivial, ⟨_, _, _, _, _, _, TX11, 11, mt_129, rfl, par_X11_goes, Or.inl lk846, lk848, lk847, lk65⟩, trivial, trivial, trivial, trivial, trivial, trivial, trivial, trivial, trivial, trivial, trivial, trivial, trivial, trivial, trivial, trivial, ⟨_, _, _, _, _, _, TX12, 56, mt_230, rfl, par_X12_goes, Or.inl lk849, lk851, lk850, lk551⟩, trivial, trivial, trivial, trivial, ⟨_, _, _, _, _, _, TX11, 11, mt_130, rfl, par_X11_night, Or.inl lk852, lk854, lk853, lk65⟩, trivial, ⟨_, _, _, _, _, _, TX12, 56, mt_231, rfl, par_X12_night, Or.inl lk855, lk857, lk856, lk551⟩, trivial, trivial, trivial, trivial, trivial, trivial, trivial, trivial, trivial, ⟨_, _, _, _, _, _, TX11, 11, mt_131, rfl, par_X11_led, Or.inl lk858, lk860, lk859, lk65⟩, trivial, trivial, trivial, trivial, trivial, trivial, ⟨_, _, _, _, _, _, TX12, 56, mt_232, rfl, par_X12_led, Or.inl lk861, lk863, lk862, lk551⟩, trivial, trivial, trivial, trivial, ⟨_, _, _, _, _, _, TX11, 11, mt_132, rfl, par_X11_image, Or.inl lk864, lk866, lk865, lk65⟩, trivial, ⟨_, _, _, _, _, _, TX12, 56, mt_233, rfl, par_X12_image, Or.inl lk867, lk869, lk868, lk551⟩, trivial, trivial, trivial, trivial, ⟨_, _, _, _, _, _, TX11, 11, mt_133, rfl, par_X11_back, Or.inl lk870, lk872, lk871, lk65⟩, trivial, ⟨_, _, _, _, _, _, TX12, 56, mt_234, rfl, par_X12_back, Or.inl lk873, lk875, lk874, lk551⟩, trivial, trivial, trivial, trivial, ⟨_, _, _, _, _, _, TX11, 11, mt_134, rfl, par_X11_undo, Or.inl lk876, lk878, lk877, lk65⟩, trivial, ⟨_, _, _, _, _, _, TX12, 56, mt_170, rfl, par_X12_undo, Or.inl lk879, lk881, lk880, lk551⟩, trivial, trivial, trivial, trivial, ⟨_, _, _, _, _, _, TX11, 11, mt_135, rfl, par_X11_redo, Or.inl lk882, lk884, lk883, lk65⟩, trivial, ⟨_, _, _, _, _, _, TX12, 56, mt_171, rfl, par_X12_redo, Or.inl lk885, lk887, lk886, lk551⟩, trivial, trivial, trivial, trivial, trivial, trivial, trivial, trivial, trivial, ⟨_, _, _, _, _, _, TX11, 11, mt_136, rfl, par_X11_body, Or.inl lk888, lk890, lk889, lk65⟩, trivial, trivial, trivial, trivial, trivial, trivial, ⟨_, _, _, _, _, _, TX12, 56, mt_241, rfl, par_X12_body, Or.inl lk891, lk893, lk892, lk551⟩, trivial, trivial, trivial, trivial, trivial, trivial, trivial, trivial, trivial, trivial, trivial, trivial, trivial, trivial, trivial, trivial, trivial, trivial, trivial, ⟨_, _, _, _, _, _, TX11, 11, mt_137, rfl, par_X11_act, Or.inl lk894, lk896, lk895, lk65⟩, trivial, trivial, trivial, trivial, trivial, trivial, trivial, trivial, trivial, trivial, trivial, trivial, trivial, trivial, trivial, trivial, ⟨_, _, _, _, _, _, TX12, 56, mt_242, rfl, par_X12_act, Or.inl lk897, lk899, lk898, lk551⟩, trivial, trivial, trivial, trivial, trivial, trivial, trivial, trivial, trivial, ⟨_, _, _, _, _, _, TX11, 11, mt_138, rfl, par_X11_trace, Or.inl lk900, lk902, lk901, lk65⟩, trivial, trivial, trivial, trivial, trivial, trivial, ⟨_, _, _, _, _, _, TX12, 56, mt_243, rfl, par_X12_trace, Or.inl lk903, lk905, lk904, lk551⟩, trivial, trivial, trivial, trivial, trivial, trivial, trivial, trivial, trivial, trivial, trivial, trivial, trivial, trivial, ⟨_, _, _, _, _, _, TX11, 11, mt_139, rfl, par_X11_keep, Or.inl lk906, lk908, lk907, lk65⟩, trivial, trivial, trivial, trivial, trivial, trivial, trivial, trivial, trivial, trivial, trivial, ⟨_, _, _, _, _, _, TX12, 56, mt_244, rfl, par_X12_keep, Or.inl lk909, lk911, lk910, lk551⟩, trivial, trivial, trivial, trivial, trivial, trivial, trivial, trivial, trivial, trivial, trivial, trivial, trivial, trivial, trivial, trivial, trivial, trivial, trivial, ⟨_, _, _, _, _, _, TX11, 11, mt_140, rfl, par_X11_row, Or.inl lk912, lk914, lk913, lk65⟩, trivial, trivial, trivial, trivial, trivial, trivial, trivial, trivial, trivial, trivial, trivial, trivial, trivial, trivial, trivial, trivial, ⟨_, _, _, _, _, _, TX12, 56, mt_245, rfl, par_X12_row, Or.inl lk915, lk917, lk916, lk551⟩, trivial, trivial, trivial, trivial, trivial, trivial, trivial, trivial, trivial, trivial, trivial, trivial, trivial, trivial, trivial, trivial, trivial, trivial, trivial, trivial, trivial, trivial, trivial, trivial, trivial, trivial, trivial, trivial, ⟨lk918, by decide, by decide⟩, trivial, trivial, ⟨_, _, _, _, _, _, TX11, 11, mt_141, rfl, par_X11_put, Or.inl lk919, lk921, lk920, lk65⟩, trivial, trivial, trivial, trivial, trivial, trivial, trivial, trivial, trivial, trivial, trivial, trivial, trivial, trivial, trivial, trivial, trivial, trivial, trivial, trivial, trivial, trivial, trivial, trivial, trivial, ⟨lk918, by decide, by decide⟩, trivial, trivial, ⟨_, _, _, _, _, _, TX12, 56, mt_248, rfl, par_X12_put, Or.inl lk922, lk924, lk923, lk551⟩, trivial, trivial, trivial, trivial, trivial, trivial, trivial, trivial, trivial, trivial, trivial, trivial, trivial, trivial, ⟨_, _, _, _, _, _, TX11, 11, mt_142, rfl, par_X11_element, Or.inl lk925, lk927, lk926, lk65⟩, trivial, trivial, trivial, trivial, trivial, trivial, trivial, trivial, trivial, trivial, trivial, ⟨_, _, _, _, _, _, TX12, 56, mt_249, rfl, par_X12_element, Or.inl lk928, lk930, lk929, lk551⟩, trivial, trivial, trivial, trivial, trivial, trivial, trivial, trivial, trivial, trivial, trivial, trivial, trivial, trivial, trivial, trivial, trivial, trivial, trivial, trivial, trivial, trivial, trivial, trivial, trivial, trivial, trivial, trivial, trivial, trivial, ⟨_, _, _, _, _, _, TX11, 11, mt_143, rfl, par_X11_shift, Or.inl lk931, lk933, lk932, lk65⟩, trivial, trivial, trivial, trivial, trivial, trivial, trivial, trivial, trivial, trivial, trivial, trivial, trivial, trivial, trivial, trivial, trivial, trivial, trivial, trivial, trivial, trivial, trivial, trivial, trivial, trivial, ⟨_, _, _, _, _, _, TX12, 56, mt_250, rfl, par_X12_shift, Or.inl lk934, lk936, lk935, lk551⟩, trivial, trivial, trivial, trivial, trivial, trivial, trivial, trivial, trivial, trivial, trivial, trivial, trivial, trivial, ⟨_, _, _, _, _, _, TX11, 11, mt_144, rfl, par_X11_taken, Or.inl lk937, lk939, lk938, lk65⟩, trivial, trivial, trivial, trivial, trivial, trivial, trivial, trivial, trivial, trivial, trivial, ⟨_, _, _, _, _, _, TX12, 56, mt_251, rfl, par_X12_taken, Or.inl lk940, lk942, lk941, lk551⟩, trivial, trivial, trivial, trivial, trivial, trivial, trivial, trivial, trivial, ⟨_, _, _, _, _, _, TX11, 11, mt_145, rfl, par_X11_count, Or.inl lk943, lk945, lk944, lk65⟩, trivial, trivial, trivial, trivial, trivial, trivial, ⟨_, _, _, _, _, _, TX12, 56, mt_252, rfl, par_X12_count, Or.inl lk946, lk948, lk947, lk551⟩, trivial, trivial, trivial, trivial, trivial, trivial, trivial, trivial⟩
theorem okL : zcodeOK zMT yL_law code 4 (some .boolean) K_L_law := zcode_of okL_dec okL_sim okL_all
