/-! words of the tables, by their places -/
theorem zW_arri : Jvm.Cond.arrayClass .int ∈ zTb := zTb_in (List.mem_of_getElem? (i := 170) (by decide +kernel)) rfl
theorem zW_arrj : Jvm.Cond.arrayClass .long ∈ zTb := zTb_in (List.mem_of_getElem? (i := 457) (by decide +kernel)) rfl
theorem zW_nat : Jvm.Cond.native arraycopyName ∈ zTb := zTb_in (List.mem_of_getElem? (i := 577) (by decide +kernel)) rfl
theorem zW_arcst : Jvm.Cond.static arraycopyName ∈ zTb := zTb_in (List.mem_of_getElem? (i := 576) (by decide +kernel)) rfl
theorem zW_isys : Jvm.Cond.initialized "java/lang/System" ∈ zTb := zTb_in (List.mem_of_getElem? (i := 97) (by decide +kernel)) rfl
theorem zW_imath : Jvm.Cond.initialized "java/lang/Math" ∈ zTb := zTb_in (List.mem_of_getElem? (i := 98) (by decide +kernel)) rfl
theorem zW_maxst : Jvm.Cond.static Lib.Math.max.name ∈ zTb := zTb_in (List.mem_of_getElem? (i := 713) (by decide +kernel)) rfl
theorem zW_minst : Jvm.Cond.static Lib.Math.min.name ∈ zTb := zTb_in (List.mem_of_getElem? (i := 648) (by decide +kernel)) rfl
theorem zW_maxc : Jvm.Cond.code Lib.Math.max.name Lib.Math.max.code 2 (some .int) ∈ zTb := zTb_in (List.mem_of_getElem? (i := 714) (by decide +kernel)) rfl
theorem zW_minc : Jvm.Cond.code Lib.Math.min.name Lib.Math.min.code 2 (some .int) ∈ zTb := zTb_in (List.mem_of_getElem? (i := 649) (by decide +kernel)) rfl
theorem zW_oini : Jvm.Cond.instanceMethod Lib.objectInit ∈ zTb := zTb_in (List.mem_of_getElem? (i := 107) (by decide +kernel)) rfl
theorem zW_oinc : Jvm.Cond.code Lib.objectInit ⟨#[0xb1]⟩ 1 none ∈ zTb := zTb_in (List.mem_of_getElem? (i := 108) (by decide +kernel)) rfl
def zFp0 : List Nat := [356, 358, 360, 362, 364, 366, 368]
theorem zFw0 : ∀ k, k < 7 → lw_tbl[(zFp0.getD k 0)]? = some (u_lay RX0 TX0 k) := by decide +kernel
theorem zF0 : ∀ w ∈ u_ws RX0 TX0 7, w ∈ zTb := by
  intro w hw
  obtain ⟨k, hk, rfl⟩ := List.mem_map.mp hw
  have hk := List.mem_range.mp hk
  exact zTb_in (List.mem_of_getElem? (zFw0 k hk)) (by unfold u_lay; split <;> rfl)
def zFp1 : List Nat := [385, 387, 389, 391, 393, 395, 397]
theorem zFw1 : ∀ k, k < 7 → lw_tbl[(zFp1.getD k 0)]? = some (u_lay RX1 TX1 k) := by decide +kernel
theorem zF1 : ∀ w ∈ u_ws RX1 TX1 7, w ∈ zTb := by
  intro w hw
  obtain ⟨k, hk, rfl⟩ := List.mem_map.mp hw
  have hk := List.mem_range.mp hk
  exact zTb_in (List.mem_of_getElem? (zFw1 k hk)) (by unfold u_lay; split <;> rfl)
def zFp2 : List Nat := [209, 211, 213, 215]
theorem zFw2 : ∀ k, k < 4 → lw_tbl[(zFp2.getD k 0)]? = some (u_lay RX2 TX2 k) := by decide +kernel
theorem zF2 : ∀ w ∈ u_ws RX2 TX2 4, w ∈ zTb := by
  intro w hw
  obtain ⟨k, hk, rfl⟩ := List.mem_map.mp hw
  have hk := List.mem_range.mp hk
  exact zTb_in (List.mem_of_getElem? (zFw2 k hk)) (by unfold u_lay; split <;> rfl)
def zFp3 : List Nat := [147, 149, 151, 153, 155, 157, 159, 161, 163, 165, 167]
theorem zFw3 : ∀ k, k < 11 → lw_tbl[(zFp3.getD k 0)]? = some (u_lay RX3 TX3 k) := by decide +kernel
theorem zF3 : ∀ w ∈ u_ws RX3 TX3 11, w ∈ zTb := by
  intro w hw
  obtain ⟨k, hk, rfl⟩ := List.mem_map.mp hw
  have hk := List.mem_range.mp hk
  exact zTb_in (List.mem_of_getElem? (zFw3 k hk)) (by unfold u_lay; split <;> rfl)
def zFp4 : List Nat := [186, 188, 190, 192, 194, 196]
theorem zFw4 : ∀ k, k < 6 → lw_tbl[(zFp4.getD k 0)]? = some (u_lay RX4 TX4 k) := by decide +kernel
theorem zF4 : ∀ w ∈ u_ws RX4 TX4 6, w ∈ zTb := by
  intro w hw
  obtain ⟨k, hk, rfl⟩ := List.mem_map.mp hw
  have hk := List.mem_range.mp hk
  exact zTb_in (List.mem_of_getElem? (zFw4 k hk)) (by unfold u_lay; split <;> rfl)
def zFp5 : List Nat := [303, 305, 307, 309, 311, 313]
theorem zFw5 : ∀ k, k < 6 → lw_tbl[(zFp5.getD k 0)]? = some (u_lay RX5 TX5 k) := by decide +kernel
theorem zF5 : ∀ w ∈ u_ws RX5 TX5 6, w ∈ zTb := by
  intro w hw
  obtain ⟨k, hk, rfl⟩ := List.mem_map.mp hw
  have hk := List.mem_range.mp hk
  exact zTb_in (List.mem_of_getElem? (zFw5 k hk)) (by unfold u_lay; split <;> rfl)
def zFp6 : List Nat := [276, 278, 280, 282, 284, 286]
theorem zFw6 : ∀ k, k < 6 → lw_tbl[(zFp6.getD k 0)]? = some (u_lay RX6 TX6 k) := by decide +kernel
theorem zF6 : ∀ w ∈ u_ws RX6 TX6 6, w ∈ zTb := by
  intro w hw
  obtain ⟨k, hk, rfl⟩ := List.mem_map.mp hw
  have hk := List.mem_range.mp hk
  exact zTb_in (List.mem_of_getElem? (zFw6 k hk)) (by unfold u_lay; split <;> rfl)
def zFp7 : List Nat := [448, 450, 452, 454]
theorem zFw7 : ∀ k, k < 4 → lw_tbl[(zFp7.getD k 0)]? = some (u_lay RX7 TX7 k) := by decide +kernel
theorem zF7 : ∀ w ∈ u_ws RX7 TX7 4, w ∈ zTb := by
  intro w hw
  obtain ⟨k, hk, rfl⟩ := List.mem_map.mp hw
  have hk := List.mem_range.mp hk
  exact zTb_in (List.mem_of_getElem? (zFw7 k hk)) (by unfold u_lay; split <;> rfl)
def zFp8 : List Nat := [416, 418, 420, 422, 424, 426]
theorem zFw8 : ∀ k, k < 6 → lw_tbl[(zFp8.getD k 0)]? = some (u_lay RX8 TX8 k) := by decide +kernel
theorem zF8 : ∀ w ∈ u_ws RX8 TX8 6, w ∈ zTb := by
  intro w hw
  obtain ⟨k, hk, rfl⟩ := List.mem_map.mp hw
  have hk := List.mem_range.mp hk
  exact zTb_in (List.mem_of_getElem? (zFw8 k hk)) (by unfold u_lay; split <;> rfl)
def zFp9 : List Nat := [240, 242, 244, 246, 248, 250, 252, 254, 256, 258]
theorem zFw9 : ∀ k, k < 10 → lw_tbl[(zFp9.getD k 0)]? = some (u_lay RX9 TX9 k) := by decide +kernel
theorem zF9 : ∀ w ∈ u_ws RX9 TX9 10, w ∈ zTb := by
  intro w hw
  obtain ⟨k, hk, rfl⟩ := List.mem_map.mp hw
  have hk := List.mem_range.mp hk
  exact zTb_in (List.mem_of_getElem? (zFw9 k hk)) (by unfold u_lay; split <;> rfl)
def zFp10 : List Nat := [330, 332, 334, 336, 338]
theorem zFw10 : ∀ k, k < 5 → lw_tbl[(zFp10.getD k 0)]? = some (u_lay RX10 TX10 k) := by decide +kernel
theorem zF10 : ∀ w ∈ u_ws RX10 TX10 5, w ∈ zTb := by
  intro w hw
  obtain ⟨k, hk, rfl⟩ := List.mem_map.mp hw
  have hk := List.mem_range.mp hk
  exact zTb_in (List.mem_of_getElem? (zFw10 k hk)) (by unfold u_lay; split <;> rfl)
def zFp11 : List Nat := [469, 471, 473, 475, 477, 479, 481, 483, 485, 487, 489]
theorem zFw11 : ∀ k, k < 11 → lw_tbl[(zFp11.getD k 0)]? = some (u_lay RX11 TX11 k) := by decide +kernel
theorem zF11 : ∀ w ∈ u_ws RX11 TX11 11, w ∈ zTb := by
  intro w hw
  obtain ⟨k, hk, rfl⟩ := List.mem_map.mp hw
  have hk := List.mem_range.mp hk
  exact zTb_in (List.mem_of_getElem? (zFw11 k hk)) (by unfold u_lay; split <;> rfl)
def zFp12 : List Nat := [1173, 1175, 1177, 1179, 1181, 1183, 1185, 1187, 1189, 1191, 1193, 1195, 1197, 1199, 1201, 1203, 1205, 1207, 1209, 1211, 1213, 1215, 1217, 1219, 1221, 1223, 1225, 1227, 1229, 1231, 1233, 1235, 1237, 1239, 1241, 1243, 1245, 1247, 1249, 1251, 1253, 1255, 1257, 1259, 1261, 1263, 1265, 1267, 1269, 1271, 1273, 1275, 1277, 1279, 1281, 1283]
theorem zFw12 : ∀ k, k < 56 → lw_tbl[(zFp12.getD k 0)]? = some (u_lay RX12 TX12 k) := by decide +kernel
theorem zF12 : ∀ w ∈ u_ws RX12 TX12 56, w ∈ zTb := by
  intro w hw
  obtain ⟨k, hk, rfl⟩ := List.mem_map.mp hw
  have hk := List.mem_range.mp hk
  exact zTb_in (List.mem_of_getElem? (zFw12 k hk)) (by unfold u_lay; split <;> rfl)
theorem zF_all : ∀ (a : Nat) (C : String) (T : u_T) (N : Nat), vwCl[a]? = some (C, T, N) → ∀ w ∈ u_ws C T N, w ∈ zTb := by
  intro a C T N h
  match a, h with
  | 0, h => cases h; exact zF0
  | 1, h => cases h; exact zF1
  | 2, h => cases h; exact zF2
  | 3, h => cases h; exact zF3
  | 4, h => cases h; exact zF4
  | 5, h => cases h; exact zF5
  | 6, h => cases h; exact zF6
  | 7, h => cases h; exact zF7
  | 8, h => cases h; exact zF8
  | 9, h => cases h; exact zF9
  | 10, h => cases h; exact zF10
  | 11, h => cases h; exact zF11
  | 12, h => cases h; exact zF12
  | n + 13, h => simp [vwCl] at h
theorem zTy_all : ∀ (a : Nat) (C : String) (T : u_T) (N : Nat), vwCl[a]? = some (C, T, N) → ∃ ty : Nat → FieldType, zTys[a]? = some (ty, N) ∧ (∀ k, k < N → parseFieldDescriptor (T k).2.2.1 = some (ty k)) ∧ ∀ a, a < N → ∀ b, b < N → a ≠ b → (T a).2.1 ≠ (T b).2.1 := by
  intro a C T N h
  match a, h with
  | 0, h => cases h; exact ⟨tyX0, rfl, tyX0_ok, nmX0⟩
  | 1, h => cases h; exact ⟨tyX1, rfl, tyX1_ok, nmX1⟩
  | 2, h => cases h; exact ⟨tyX2, rfl, tyX2_ok, nmX2⟩
  | 3, h => cases h; exact ⟨tyX3, rfl, tyX3_ok, nmX3⟩
  | 4, h => cases h; exact ⟨tyX4, rfl, tyX4_ok, nmX4⟩
  | 5, h => cases h; exact ⟨tyX5, rfl, tyX5_ok, nmX5⟩
  | 6, h => cases h; exact ⟨tyX6, rfl, tyX6_ok, nmX6⟩
  | 7, h => cases h; exact ⟨tyX7, rfl, tyX7_ok, nmX7⟩
  | 8, h => cases h; exact ⟨tyX8, rfl, tyX8_ok, nmX8⟩
  | 9, h => cases h; exact ⟨tyX9, rfl, tyX9_ok, nmX9⟩
  | 10, h => cases h; exact ⟨tyX10, rfl, tyX10_ok, nmX10⟩
  | 11, h => cases h; exact ⟨tyX11, rfl, tyX11_ok, nmX11⟩
  | 12, h => cases h; exact ⟨tyX12, rfl, tyX12_ok, nmX12⟩
  | n + 13, h => simp [vwCl] at h
