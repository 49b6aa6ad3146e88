def zpl (k : Nat) : Nat × Nat × Nat × Nat := zpl_l.getD k (0, 0, 0, 0)
def cR (ci : Nat) : String := (vwCl.getD ci ("", fun _ => ("", "", "", false), 0)).1
def cT (ci : Nat) : u_T := (vwCl.getD ci ("", fun _ => ("", "", "", false), 0)).2.1
def cN (ci : Nat) : Nat := (vwCl.getD ci ("", fun _ => ("", "", "", false), 0)).2.2
def cty (ci j : Nat) : FieldType := (parseFieldDescriptor (cT ci j).2.2.1).getD .int
def zAll (P : Nat → Prop) : Nat → Nat → Prop
  | _, 0 => True
  | i, n + 1 => P i ∧ zAll P (i + 1) n
theorem zAll_at {P : Nat → Prop} : ∀ (n i : Nat), zAll P i n → ∀ k, i ≤ k → k < i + n → P k := by
  intro n
  induction n with
  | zero => intro i _ k h1 h2; omega
  | succ n ih =>
    intro i h k h1 h2
    by_cases e : k = i
    · subst e; exact h.1
    · exact ih (i + 1) h.2 k (by omega) (by omega)
def zPc (k : Nat) : Prop := lw_tbl[(zpl k).1]? = some (Cond.code (yk k) (bk k) (lk k) (rk k))
set_option maxRecDepth 100000 in
theorem zc_0 : lw_tbl[284]? = some (Cond.code yX0_init cX0_init 1 none) := rfl
set_option maxRecDepth 100000 in
theorem zc_1 : lw_tbl[218]? = some (Cond.code yX1_init cX1_init 1 none) := rfl
set_option maxRecDepth 100000 in
theorem zc_2 : lw_tbl[142]? = some (Cond.code yX2_init cX2_init 1 none) := rfl
set_option maxRecDepth 100000 in
theorem zc_3 : lw_tbl[136]? = some (Cond.code yX3_init cX3_init 1 none) := rfl
set_option maxRecDepth 100000 in
theorem zc_4 : lw_tbl[340]? = some (Cond.code yX4_init cX4_init 1 none) := rfl
set_option maxRecDepth 100000 in
theorem zc_5 : lw_tbl[125]? = some (Cond.code yX5_init cX5_init 2 none) := rfl
set_option maxRecDepth 100000 in
theorem zc_6 : lw_tbl[242]? = some (Cond.code yX6_init cX6_init 1 none) := rfl
set_option maxRecDepth 100000 in
theorem zc_7 : lw_tbl[360]? = some (Cond.code yX7_init cX7_init 1 none) := rfl
set_option maxRecDepth 100000 in
theorem zc_8 : lw_tbl[150]? = some (Cond.code yX8_init cX8_init 4 none) := rfl
set_option maxRecDepth 100000 in
theorem zc_9 : lw_tbl[119]? = some (Cond.code yX9_init cX9_init 1 none) := rfl
set_option maxRecDepth 100000 in
theorem zc_10 : lw_tbl[305]? = some (Cond.code yX10_init cX10_init 2 none) := rfl
set_option maxRecDepth 100000 in
theorem zc_11 : lw_tbl[111]? = some (Cond.code yX11_init cX11_init 1 none) := rfl
set_option maxRecDepth 100000 in
theorem zc_12 : lw_tbl[154]? = some (Cond.code yX11_within cX11_within 3 (some .boolean)) := rfl
set_option maxRecDepth 100000 in
theorem zt_code_0 : zAll zPc 0 13 := ⟨zc_0, zc_1, zc_2, zc_3, zc_4, zc_5, zc_6, zc_7, zc_8, zc_9, zc_10, zc_11, zc_12, trivial⟩
theorem zt_code (k : Nat) (h : k < 13) : lw_tbl[(zpl k).1]? = some (Cond.code (yk k) (bk k) (lk k) (rk k)) := by
  by_cases h13 : k < 13
  · exact zAll_at 13 0 zt_code_0 k (by omega) (by omega)
  omega
set_option maxRecDepth 100000 in
set_option maxHeartbeats 4000000 in
theorem zt_init : ∀ k, k < 13 → lw_tbl[(zpl k).2.1]? = some (Cond.initialized (yk k).cls) := by decide +kernel
set_option maxRecDepth 100000 in
set_option maxHeartbeats 4000000 in
theorem zt_inst : ∀ k, k < 13 → lw_tbl[(zpl k).2.2.1]? = some (if ik k = 0 then Cond.static (yk k) else Cond.instanceMethod (yk k)) := by decide +kernel
set_option maxRecDepth 100000 in
set_option maxHeartbeats 4000000 in
theorem zt_sel : ∀ k, k < 13 → ik k = 1 → lw_tbl[(zpl k).2.2.2]? = some (Cond.selects (yk k).cls (yk k) (yk k)) := by decide +kernel
set_option maxRecDepth 100000 in
set_option maxHeartbeats 4000000 in
theorem zt_misc : ∀ k, k < 13 → (yk k).cls = cn (ok k) ∧ (yk k).cls ≠ "java/lang/invoke/MethodHandle" ∧ (yk k).cls ≠ "java/lang/invoke/VarHandle" ∧ plainName (yk k).cls = true ∧ (parseMethodDescriptor (yk k).desc).map (fun d => d.parameters.length) = some (nk k) ∧ (ik k = 2 → (yk k).name = "<init>" ∧ rk k = none) ∧ ok k < 13 ∧ cn (ok k) = cR (ok k) := by decide +kernel
def zlc (r : Nat × Nat × Nat × Nat × Nat) : Cond := if r.2.2.1 = 0 then .methodLink (cn r.1) r.2.1 (yk r.2.2.2.1) else if r.2.2.1 = 1 then .methodLinkNest (cn r.1) r.2.1 (yk r.2.2.2.1) "ClauseDrafts" else if r.2.2.1 = 2 then .methodLink (cn r.1) r.2.1 objectInit else if r.2.2.1 = 3 then .methodLink (cn r.1) r.2.1 Lib.Math.max.name else .methodLink (cn r.1) r.2.1 Lib.Math.min.name
set_option maxRecDepth 100000 in
set_option maxHeartbeats 4000000 in
theorem zt_link_0 : ∀ r ∈ zlk_l_0, lw_tbl[r.2.2.2.2]? = some (zlc r) ∧ r.2.2.2.1 < 13 := by decide +kernel
theorem zt_link : ∀ r ∈ zlk_l, lw_tbl[r.2.2.2.2]? = some (zlc r) ∧ r.2.2.2.1 < 13 := zt_link_0
set_option maxRecDepth 100000 in
set_option maxHeartbeats 4000000 in
theorem zt_fld_0 : ∀ r ∈ zfd_l_0, lw_tbl[r.2.2.2.2]? = some (Cond.fieldLink (cn r.1) r.2.1 (cT r.2.2.1 r.2.2.2.1).1 (cT r.2.2.1 r.2.2.2.1).2.1 (cT r.2.2.1 r.2.2.2.1).2.2.1) ∧ r.2.2.1 < 13 ∧ r.2.2.2.1 < cN r.2.2.1 := by decide +kernel
theorem zt_fld : ∀ r ∈ zfd_l, lw_tbl[r.2.2.2.2]? = some (Cond.fieldLink (cn r.1) r.2.1 (cT r.2.2.1 r.2.2.2.1).1 (cT r.2.2.1 r.2.2.2.1).2.1 (cT r.2.2.1 r.2.2.2.1).2.2.1) ∧ r.2.2.1 < 13 ∧ r.2.2.2.1 < cN r.2.2.1 := zt_fld_0
set_option maxRecDepth 100000 in
set_option maxHeartbeats 4000000 in
theorem zt_lay_0 : ∀ j, j < 4 → lw_tbl[([292, 294, 296, 298] : List Nat).getD j 0]? = some (u_lay RX0 TX0 j) := by decide +kernel
theorem zt_ws_0 : ∀ w ∈ u_ws RX0 TX0 4, w ∈ lw_tbl := by
  intro w hw
  obtain ⟨j, hj, rfl⟩ := List.mem_map.mp hw
  exact List.mem_of_getElem? (zt_lay_0 j (List.mem_range.mp hj))
set_option maxRecDepth 100000 in
set_option maxHeartbeats 4000000 in
theorem zt_lay_1 : ∀ j, j < 5 → lw_tbl[([227, 229, 231, 233, 235] : List Nat).getD j 0]? = some (u_lay RX1 TX1 j) := by decide +kernel
theorem zt_ws_1 : ∀ w ∈ u_ws RX1 TX1 5, w ∈ lw_tbl := by
  intro w hw
  obtain ⟨j, hj, rfl⟩ := List.mem_map.mp hw
  exact List.mem_of_getElem? (zt_lay_1 j (List.mem_range.mp hj))
set_option maxRecDepth 100000 in
set_option maxHeartbeats 4000000 in
theorem zt_lay_2 : ∀ j, j < 4 → lw_tbl[([169, 171, 173, 175] : List Nat).getD j 0]? = some (u_lay RX2 TX2 j) := by decide +kernel
theorem zt_ws_2 : ∀ w ∈ u_ws RX2 TX2 4, w ∈ lw_tbl := by
  intro w hw
  obtain ⟨j, hj, rfl⟩ := List.mem_map.mp hw
  exact List.mem_of_getElem? (zt_lay_2 j (List.mem_range.mp hj))
set_option maxRecDepth 100000 in
set_option maxHeartbeats 4000000 in
theorem zt_lay_3 : ∀ j, j < 3 → lw_tbl[([181, 183, 185] : List Nat).getD j 0]? = some (u_lay RX3 TX3 j) := by decide +kernel
theorem zt_ws_3 : ∀ w ∈ u_ws RX3 TX3 3, w ∈ lw_tbl := by
  intro w hw
  obtain ⟨j, hj, rfl⟩ := List.mem_map.mp hw
  exact List.mem_of_getElem? (zt_lay_3 j (List.mem_range.mp hj))
set_option maxRecDepth 100000 in
set_option maxHeartbeats 4000000 in
theorem zt_lay_4 : ∀ j, j < 3 → lw_tbl[([349, 351, 353] : List Nat).getD j 0]? = some (u_lay RX4 TX4 j) := by decide +kernel
theorem zt_ws_4 : ∀ w ∈ u_ws RX4 TX4 3, w ∈ lw_tbl := by
  intro w hw
  obtain ⟨j, hj, rfl⟩ := List.mem_map.mp hw
  exact List.mem_of_getElem? (zt_lay_4 j (List.mem_range.mp hj))
set_option maxRecDepth 100000 in
set_option maxHeartbeats 4000000 in
theorem zt_lay_5 : ∀ j, j < 1 → lw_tbl[([128] : List Nat).getD j 0]? = some (u_lay RX5 TX5 j) := by decide +kernel
theorem zt_ws_5 : ∀ w ∈ u_ws RX5 TX5 1, w ∈ lw_tbl := by
  intro w hw
  obtain ⟨j, hj, rfl⟩ := List.mem_map.mp hw
  exact List.mem_of_getElem? (zt_lay_5 j (List.mem_range.mp hj))
set_option maxRecDepth 100000 in
set_option maxHeartbeats 4000000 in
theorem zt_lay_6 : ∀ j, j < 11 → lw_tbl[([257, 259, 261, 263, 265, 267, 269, 271, 273, 275, 277] : List Nat).getD j 0]? = some (u_lay RX6 TX6 j) := by decide +kernel
theorem zt_ws_6 : ∀ w ∈ u_ws RX6 TX6 11, w ∈ lw_tbl := by
  intro w hw
  obtain ⟨j, hj, rfl⟩ := List.mem_map.mp hw
  exact List.mem_of_getElem? (zt_lay_6 j (List.mem_range.mp hj))
set_option maxRecDepth 100000 in
set_option maxHeartbeats 4000000 in
theorem zt_lay_7 : ∀ j, j < 4 → lw_tbl[([370, 372, 374, 376] : List Nat).getD j 0]? = some (u_lay RX7 TX7 j) := by decide +kernel
theorem zt_ws_7 : ∀ w ∈ u_ws RX7 TX7 4, w ∈ lw_tbl := by
  intro w hw
  obtain ⟨j, hj, rfl⟩ := List.mem_map.mp hw
  exact List.mem_of_getElem? (zt_lay_7 j (List.mem_range.mp hj))
set_option maxRecDepth 100000 in
set_option maxHeartbeats 4000000 in
theorem zt_lay_8 : ∀ j, j < 3 → lw_tbl[([158, 160, 162] : List Nat).getD j 0]? = some (u_lay RX8 TX8 j) := by decide +kernel
theorem zt_ws_8 : ∀ w ∈ u_ws RX8 TX8 3, w ∈ lw_tbl := by
  intro w hw
  obtain ⟨j, hj, rfl⟩ := List.mem_map.mp hw
  exact List.mem_of_getElem? (zt_lay_8 j (List.mem_range.mp hj))
set_option maxRecDepth 100000 in
set_option maxHeartbeats 4000000 in
theorem zt_lay_9 : ∀ j, j < 7 → lw_tbl[([195, 197, 199, 201, 203, 205, 207] : List Nat).getD j 0]? = some (u_lay RX9 TX9 j) := by decide +kernel
theorem zt_ws_9 : ∀ w ∈ u_ws RX9 TX9 7, w ∈ lw_tbl := by
  intro w hw
  obtain ⟨j, hj, rfl⟩ := List.mem_map.mp hw
  exact List.mem_of_getElem? (zt_lay_9 j (List.mem_range.mp hj))
set_option maxRecDepth 100000 in
set_option maxHeartbeats 4000000 in
theorem zt_lay_10 : ∀ j, j < 8 → lw_tbl[([319, 321, 323, 325, 327, 329, 331, 333] : List Nat).getD j 0]? = some (u_lay RX10 TX10 j) := by decide +kernel
theorem zt_ws_10 : ∀ w ∈ u_ws RX10 TX10 8, w ∈ lw_tbl := by
  intro w hw
  obtain ⟨j, hj, rfl⟩ := List.mem_map.mp hw
  exact List.mem_of_getElem? (zt_lay_10 j (List.mem_range.mp hj))
set_option maxRecDepth 100000 in
set_option maxHeartbeats 4000000 in
theorem zt_lay_11 : ∀ j, j < 11 → lw_tbl[([390, 392, 394, 396, 398, 400, 402, 404, 406, 408, 410] : List Nat).getD j 0]? = some (u_lay RX11 TX11 j) := by decide +kernel
theorem zt_ws_11 : ∀ w ∈ u_ws RX11 TX11 11, w ∈ lw_tbl := by
  intro w hw
  obtain ⟨j, hj, rfl⟩ := List.mem_map.mp hw
  exact List.mem_of_getElem? (zt_lay_11 j (List.mem_range.mp hj))
set_option maxRecDepth 100000 in
set_option maxHeartbeats 4000000 in
theorem zt_lay_12 : ∀ j, j < 50 → lw_tbl[([1425, 1427, 1429, 1431, 1433, 1435, 1437, 1439, 1441, 1443, 1445, 1447, 1449, 1451, 1453, 1455, 1457, 1459, 1461, 1463, 1465, 1467, 1469, 1471, 1473, 1475, 1477, 1479, 1481, 1483, 1485, 1487, 1489, 1491, 1493, 1495, 1497, 1499, 1501, 1503, 1505, 1507, 1509, 1511, 1513, 1515, 1517, 1519, 1521, 1523] : List Nat).getD j 0]? = some (u_lay RX12 TX12 j) := by decide +kernel
theorem zt_ws_12 : ∀ w ∈ u_ws RX12 TX12 50, w ∈ lw_tbl := by
  intro w hw
  obtain ⟨j, hj, rfl⟩ := List.mem_map.mp hw
  exact List.mem_of_getElem? (zt_lay_12 j (List.mem_range.mp hj))
theorem zt_cls (ci : Nat) (h : ci < 13) : vwCl[ci]? = some (cR ci, cT ci, cN ci) := by
  have hl : ci < vwCl.length := h
  simp [cR, cT, cN, List.getD_eq_getElem?_getD, List.getElem?_eq_getElem hl]
theorem zt_ws (ci : Nat) (h : ci < 13) : ∀ w ∈ u_ws (cR ci) (cT ci) (cN ci), w ∈ lw_tbl := by
  match ci, h with
  | 0, _ => exact zt_ws_0
  | 1, _ => exact zt_ws_1
  | 2, _ => exact zt_ws_2
  | 3, _ => exact zt_ws_3
  | 4, _ => exact zt_ws_4
  | 5, _ => exact zt_ws_5
  | 6, _ => exact zt_ws_6
  | 7, _ => exact zt_ws_7
  | 8, _ => exact zt_ws_8
  | 9, _ => exact zt_ws_9
  | 10, _ => exact zt_ws_10
  | 11, _ => exact zt_ws_11
  | 12, _ => exact zt_ws_12
theorem zt_nm (ci : Nat) (h : ci < 13) : ∀ a, a < cN ci → ∀ b, b < cN ci → a ≠ b → (cT ci a).2.1 ≠ (cT ci b).2.1 := by
  match ci, h with
  | 0, _ => exact nmX0
  | 1, _ => exact nmX1
  | 2, _ => exact nmX2
  | 3, _ => exact nmX3
  | 4, _ => exact nmX4
  | 5, _ => exact nmX5
  | 6, _ => exact nmX6
  | 7, _ => exact nmX7
  | 8, _ => exact nmX8
  | 9, _ => exact nmX9
  | 10, _ => exact nmX10
  | 11, _ => exact nmX11
  | 12, _ => exact nmX12
set_option maxRecDepth 100000 in
set_option maxHeartbeats 4000000 in
theorem zt_ty0 : ∀ ci, ci < 13 → cN ci = nf ci ∧ ∀ j, j < nf ci → (parseFieldDescriptor (cT ci j).2.2.1).isSome = true ∧ (cT ci j).1 = cR ci ∧ (ft ci j ≤ 5) ∧ ((cT ci j).2.2.2 = decide (ft ci j = 2 ∨ ft ci j = 3 ∨ ft ci j = 4)) ∧ ((ft ci j = 0 ∨ ft ci j = 2) → cty ci j = .int) ∧ ((ft ci j = 1 ∨ ft ci j = 3) → cty ci j = .boolean) ∧ (4 ≤ ft ci j → (cty ci j).isReference = true) := by decide +kernel
theorem zt_ty (ci : Nat) (h : ci < 13) : ∀ j, j < cN ci → parseFieldDescriptor (cT ci j).2.2.1 = some (cty ci j) := by
  intro j hj
  have h1 := zt_ty0 ci h
  rw [h1.1] at hj
  have h2 := (h1.2 j hj).1
  unfold cty
  cases hp : parseFieldDescriptor (cT ci j).2.2.1 with
  | none => rw [hp] at h2; cases h2
  | some t => rfl
set_option maxRecDepth 100000 in
set_option maxHeartbeats 4000000 in
theorem zt_new : ∀ r ∈ znw_l, lw_tbl[r.2.2.2]? = some (Cond.classLink (cn r.1) r.2.1 (cR r.2.2.1)) ∧ r.2.2.1 < 13 := by decide +kernel
set_option maxRecDepth 100000 in
set_option maxHeartbeats 4000000 in
theorem zt_ins : ∀ ci, ci < 13 → lw_tbl[([281, 215, 139, 133, 337, 122, 239, 357, 147, 116, 302, 108, 1248] : List Nat).getD ci 0]? = some (Cond.instantiable (cR ci) (cN ci)) ∧ lw_tbl[([101, 99, 97, 96, 103, 95, 100, 104, 98, 94, 102, 93, 105] : List Nat).getD ci 0]? = some (Cond.initialized (cR ci)) := by decide +kernel
set_option maxRecDepth 100000 in
set_option maxHeartbeats 4000000 in
theorem zt_ci : ∀ r ∈ zci_l, lw_tbl[r.2.2.1]? = some (Cond.constant (cn r.1) r.2.1 (Int32.ofInt r.2.2.2)) ∧ rg r.2.2.2 := by decide +kernel
set_option maxRecDepth 100000 in
set_option maxHeartbeats 4000000 in
theorem zt_cj : ∀ r ∈ zcj_l, lw_tbl[r.2.2.1]? = some (Cond.constantLong (cn r.1) r.2.1 (Int64.ofInt r.2.2.2)) ∧ rgl r.2.2.2 := by decide +kernel
def zgw : List Cond := lw_tbl.filter goodWord
theorem zt_ai : Cond.arrayClass .int ∈ lw_tbl := List.mem_of_getElem? (i := 131) (by decide +kernel)
theorem zt_ab : Cond.arrayClass .boolean ∈ lw_tbl := List.mem_of_getElem? (i := 1526) (by decide +kernel)
theorem zt_ob1 : Cond.instanceMethod objectInit ∈ lw_tbl := List.mem_of_getElem? (i := 113) (by decide +kernel)
theorem zt_ob2 : Cond.code objectInit ⟨#[0xb1]⟩ 1 none ∈ lw_tbl := List.mem_of_getElem? (i := 114) (by decide +kernel)
theorem zt_max1 : Cond.static Lib.Math.max.name ∈ lw_tbl := List.mem_of_getElem? (i := 1060) (by decide +kernel)
theorem zt_max2 : Cond.code Lib.Math.max.name Lib.Math.max.code 2 (some .int) ∈ lw_tbl := List.mem_of_getElem? (i := 1061) (by decide +kernel)
theorem zt_min1 : Cond.static Lib.Math.min.name ∈ lw_tbl := List.mem_of_getElem? (i := 491) (by decide +kernel)
theorem zt_min2 : Cond.code Lib.Math.min.name Lib.Math.min.code 2 (some .int) ∈ lw_tbl := List.mem_of_getElem? (i := 492) (by decide +kernel)
theorem zt_mth : Cond.initialized "java/lang/Math" ∈ lw_tbl := List.mem_of_getElem? (i := 106) (by decide +kernel)
