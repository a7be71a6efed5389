/-! ia_Good of this program's tables (written by wip/whole/gen_good.py) -/
section IH
def ia_isX (w : Cond) : Bool := match w with
  | .fieldLinkNest .. => true
  | .methodLinkNest .. => true
  | .castable .. => true
  | .arrayOver (.array _) => true
  | _ => false
def ia_Xs : List Cond := lw_tbl.filter ia_isX
theorem ia_xok0 : ia_XOK ia_Xs := by
  intro w hw
  have h := (List.mem_filter.mp hw).2
  unfold ia_isX at h
  split at h
  · exact ⟨fun a U h => va_Nw.use rfl (A := a) h, fun s U hW h => va_Nw.warmF hW h, fun u U hv h => va_Nw.same rfl hv h⟩
  · exact ⟨fun a U h => va_Nw.use rfl (A := a) h, fun s U hW h => va_Nw.warmM hW h, fun u U hv h => va_Nw.same rfl hv h⟩
  · exact ⟨fun a U h => va_Nw.use rfl (A := a) h, fun s U hW h => va_Nw.warmC hW h, fun u U hv h => va_Nw.same rfl hv h⟩
  · exact ⟨fun a U h => over_moved (Vm.Alike.refl _) h, fun s U hW h => over_moved hW.alike h, fun u U hv h => over_moved (by rw [hv]; exact Vm.Alike.refl _) h⟩
  · cases h
/-- words by their places -/
def ia_wok (ps : List (Nat × Cond)) : Prop := ∀ p ∈ ps, p.2 ∈ ia_Ts ++ ia_Xs
theorem ia_wok_of {ps : List (Nat × Cond)} (h1 : ps.map (fun p => lw_tbl[p.1]?) = ps.map (fun p => some p.2)) (h2 : ps.all (fun p => goodWord p.2 || ia_isX p.2) = true) : ia_wok ps := by
  intro p hp
  have a1 := List.map_inj_left.mp h1 p hp
  have a2 := List.all_eq_true.mp h2 p hp
  simp only [Bool.or_eq_true] at a2
  rcases a2 with a2 | a2
  · exact List.mem_append_left _ (List.mem_filter.mpr ⟨List.mem_of_getElem? a1, a2⟩)
  · exact List.mem_append_right _ (List.mem_filter.mpr ⟨List.mem_of_getElem? a1, a2⟩)
theorem ia_wok_app {a b : List (Nat × Cond)} (h1 : ia_wok a) (h2 : ia_wok b) : ia_wok (a ++ b) := fun p hp => (List.mem_append.mp hp).elim (h1 p) (h2 p)
theorem ia_ts_in {i : Nat} {w : Cond} (h1 : lw_tbl[i]? = some w) (h2 : goodWord w = true) : w ∈ ia_Ts := List.mem_filter.mpr ⟨List.mem_of_getElem? h1, h2⟩
set_option maxRecDepth 100000 in
theorem ia_inX0 : ∀ w ∈ u_ws RX0 TX0 6, w ∈ ia_Ts := by
  have h1 : (u_ws RX0 TX0 6).map some = ([350, 352, 354, 356, 358, 360] : List Nat).map (fun i => lw_tbl[i]?) := rfl
  have h2 : (u_ws RX0 TX0 6).all goodWord = true := by decide +kernel
  intro w hw
  have h3 : some w ∈ (u_ws RX0 TX0 6).map some := List.mem_map.mpr ⟨w, hw, rfl⟩
  rw [h1] at h3
  obtain ⟨i, -, hi⟩ := List.mem_map.mp h3
  exact ia_ts_in hi (List.all_eq_true.mp h2 w hw)
set_option maxRecDepth 100000 in
theorem ia_inX1 : ∀ w ∈ u_ws RX1 TX1 9, w ∈ ia_Ts := by
  have h1 : (u_ws RX1 TX1 9).map some = ([284, 286, 288, 290, 292, 294, 296, 298, 300] : List Nat).map (fun i => lw_tbl[i]?) := rfl
  have h2 : (u_ws RX1 TX1 9).all goodWord = true := by decide +kernel
  intro w hw
  have h3 : some w ∈ (u_ws RX1 TX1 9).map some := List.mem_map.mpr ⟨w, hw, rfl⟩
  rw [h1] at h3
  obtain ⟨i, -, hi⟩ := List.mem_map.mp h3
  exact ia_ts_in hi (List.all_eq_true.mp h2 w hw)
set_option maxRecDepth 100000 in
theorem ia_inX2 : ∀ w ∈ u_ws RX2 TX2 3, w ∈ ia_Ts := by
  have h1 : (u_ws RX2 TX2 3).map some = ([240, 242, 244] : List Nat).map (fun i => lw_tbl[i]?) := rfl
  have h2 : (u_ws RX2 TX2 3).all goodWord = true := by decide +kernel
  intro w hw
  have h3 : some w ∈ (u_ws RX2 TX2 3).map some := List.mem_map.mpr ⟨w, hw, rfl⟩
  rw [h1] at h3
  obtain ⟨i, -, hi⟩ := List.mem_map.mp h3
  exact ia_ts_in hi (List.all_eq_true.mp h2 w hw)
set_option maxRecDepth 100000 in
theorem ia_inX3 : ∀ w ∈ u_ws RX3 TX3 3, w ∈ ia_Ts := by
  have h1 : (u_ws RX3 TX3 3).map some = ([373, 375, 377] : List Nat).map (fun i => lw_tbl[i]?) := rfl
  have h2 : (u_ws RX3 TX3 3).all goodWord = true := by decide +kernel
  intro w hw
  have h3 : some w ∈ (u_ws RX3 TX3 3).map some := List.mem_map.mpr ⟨w, hw, rfl⟩
  rw [h1] at h3
  obtain ⟨i, -, hi⟩ := List.mem_map.mp h3
  exact ia_ts_in hi (List.all_eq_true.mp h2 w hw)
set_option maxRecDepth 100000 in
theorem ia_inX4 : ∀ w ∈ u_ws RX4 TX4 2, w ∈ ia_Ts := by
  have h1 : (u_ws RX4 TX4 2).map some = ([186, 188] : List Nat).map (fun i => lw_tbl[i]?) := rfl
  have h2 : (u_ws RX4 TX4 2).all goodWord = true := by decide +kernel
  intro w hw
  have h3 : some w ∈ (u_ws RX4 TX4 2).map some := List.mem_map.mpr ⟨w, hw, rfl⟩
  rw [h1] at h3
  obtain ⟨i, -, hi⟩ := List.mem_map.mp h3
  exact ia_ts_in hi (List.all_eq_true.mp h2 w hw)
set_option maxRecDepth 100000 in
theorem ia_inX5 : ∀ w ∈ u_ws RX5 TX5 3, w ∈ ia_Ts := by
  have h1 : (u_ws RX5 TX5 3).map some = ([202, 204, 206] : List Nat).map (fun i => lw_tbl[i]?) := rfl
  have h2 : (u_ws RX5 TX5 3).all goodWord = true := by decide +kernel
  intro w hw
  have h3 : some w ∈ (u_ws RX5 TX5 3).map some := List.mem_map.mpr ⟨w, hw, rfl⟩
  rw [h1] at h3
  obtain ⟨i, -, hi⟩ := List.mem_map.mp h3
  exact ia_ts_in hi (List.all_eq_true.mp h2 w hw)
set_option maxRecDepth 100000 in
theorem ia_inX6 : ∀ w ∈ u_ws RX6 TX6 3, w ∈ ia_Ts := by
  have h1 : (u_ws RX6 TX6 3).map some = ([220, 222, 224] : List Nat).map (fun i => lw_tbl[i]?) := rfl
  have h2 : (u_ws RX6 TX6 3).all goodWord = true := by decide +kernel
  intro w hw
  have h3 : some w ∈ (u_ws RX6 TX6 3).map some := List.mem_map.mpr ⟨w, hw, rfl⟩
  rw [h1] at h3
  obtain ⟨i, -, hi⟩ := List.mem_map.mp h3
  exact ia_ts_in hi (List.all_eq_true.mp h2 w hw)
set_option maxRecDepth 100000 in
theorem ia_inX7 : ∀ w ∈ u_ws RX7 TX7 3, w ∈ ia_Ts := by
  have h1 : (u_ws RX7 TX7 3).map some = ([259, 261, 263] : List Nat).map (fun i => lw_tbl[i]?) := rfl
  have h2 : (u_ws RX7 TX7 3).all goodWord = true := by decide +kernel
  intro w hw
  have h3 : some w ∈ (u_ws RX7 TX7 3).map some := List.mem_map.mpr ⟨w, hw, rfl⟩
  rw [h1] at h3
  obtain ⟨i, -, hi⟩ := List.mem_map.mp h3
  exact ia_ts_in hi (List.all_eq_true.mp h2 w hw)
set_option maxRecDepth 100000 in
theorem ia_inX8 : ∀ w ∈ u_ws RX8 TX8 8, w ∈ ia_Ts := by
  have h1 : (u_ws RX8 TX8 8).map some = ([319, 321, 323, 325, 327, 329, 331, 333] : List Nat).map (fun i => lw_tbl[i]?) := rfl
  have h2 : (u_ws RX8 TX8 8).all goodWord = true := by decide +kernel
  intro w hw
  have h3 : some w ∈ (u_ws RX8 TX8 8).map some := List.mem_map.mpr ⟨w, hw, rfl⟩
  rw [h1] at h3
  obtain ⟨i, -, hi⟩ := List.mem_map.mp h3
  exact ia_ts_in hi (List.all_eq_true.mp h2 w hw)
set_option maxRecDepth 100000 in
theorem ia_inX9 : ∀ w ∈ u_ws RX9 TX9 4, w ∈ ia_Ts := by
  have h1 : (u_ws RX9 TX9 4).map some = ([148, 150, 152, 154] : List Nat).map (fun i => lw_tbl[i]?) := rfl
  have h2 : (u_ws RX9 TX9 4).all goodWord = true := by decide +kernel
  intro w hw
  have h3 : some w ∈ (u_ws RX9 TX9 4).map some := List.mem_map.mpr ⟨w, hw, rfl⟩
  rw [h1] at h3
  obtain ⟨i, -, hi⟩ := List.mem_map.mp h3
  exact ia_ts_in hi (List.all_eq_true.mp h2 w hw)
set_option maxRecDepth 100000 in
theorem ia_inX10 : ∀ w ∈ u_ws RX10 TX10 2, w ∈ ia_Ts := by
  have h1 : (u_ws RX10 TX10 2).map some = ([178, 180] : List Nat).map (fun i => lw_tbl[i]?) := rfl
  have h2 : (u_ws RX10 TX10 2).all goodWord = true := by decide +kernel
  intro w hw
  have h3 : some w ∈ (u_ws RX10 TX10 2).map some := List.mem_map.mpr ⟨w, hw, rfl⟩
  rw [h1] at h3
  obtain ⟨i, -, hi⟩ := List.mem_map.mp h3
  exact ia_ts_in hi (List.all_eq_true.mp h2 w hw)
set_option maxRecDepth 100000 in
theorem ia_inX11 : ∀ w ∈ u_ws RX11 TX11 19, w ∈ ia_Ts := by
  have h1 : (u_ws RX11 TX11 19).map some = ([401, 403, 405, 407, 409, 411, 413, 415, 417, 419, 421, 423, 425, 427, 429, 431, 433, 435, 437] : List Nat).map (fun i => lw_tbl[i]?) := rfl
  have h2 : (u_ws RX11 TX11 19).all goodWord = true := by decide +kernel
  intro w hw
  have h3 : some w ∈ (u_ws RX11 TX11 19).map some := List.mem_map.mpr ⟨w, hw, rfl⟩
  rw [h1] at h3
  obtain ⟨i, -, hi⟩ := List.mem_map.mp h3
  exact ia_ts_in hi (List.all_eq_true.mp h2 w hw)
set_option maxRecDepth 100000 in
theorem ia_inX12 : ∀ w ∈ u_ws RX12 TX12 54, w ∈ ia_Ts := by
  have h1 : (u_ws RX12 TX12 54).map some = ([1358, 1360, 1362, 1364, 1366, 1368, 1370, 1372, 1374, 1376, 1378, 1380, 1382, 1384, 1386, 1388, 1390, 1392, 1394, 1396, 1398, 1400, 1402, 1404, 1406, 1408, 1410, 1412, 1414, 1416, 1418, 1420, 1422, 1424, 1426, 1428, 1430, 1432, 1434, 1436, 1438, 1440, 1442, 1444, 1446, 1448, 1450, 1452, 1454, 1456, 1458, 1460, 1462, 1464] : List Nat).map (fun i => lw_tbl[i]?) := rfl
  have h2 : (u_ws RX12 TX12 54).all goodWord = true := by decide +kernel
  intro w hw
  have h3 : some w ∈ (u_ws RX12 TX12 54).map some := List.mem_map.mpr ⟨w, hw, rfl⟩
  rw [h1] at h3
  obtain ⟨i, -, hi⟩ := List.mem_map.mp h3
  exact ia_ts_in hi (List.all_eq_true.mp h2 w hw)
theorem ia_cls0 : ∀ (ci : Nat) (q : vw_C), vwCl[ci]? = some q → (∀ w ∈ u_ws q.1 q.2.1 q.2.2, w ∈ ia_Ts) ∧ (∀ j, j < q.2.2 → parseFieldDescriptor (q.2.1 j).2.2.1 = some (ia_ty0 ci j)) ∧ (∀ a, a < q.2.2 → ∀ b, b < q.2.2 → a ≠ b → (q.2.1 a).2.1 ≠ (q.2.1 b).2.1) ∧ q.1 = ia_rN0 ci := by
  intro ci q h
  match ci, h with
  | 0, h => cases h; exact ⟨ia_inX0, tyX0_ok, nmX0, rfl⟩
  | 1, h => cases h; exact ⟨ia_inX1, tyX1_ok, nmX1, rfl⟩
  | 2, h => cases h; exact ⟨ia_inX2, tyX2_ok, nmX2, rfl⟩
  | 3, h => cases h; exact ⟨ia_inX3, tyX3_ok, nmX3, rfl⟩
  | 4, h => cases h; exact ⟨ia_inX4, tyX4_ok, nmX4, rfl⟩
  | 5, h => cases h; exact ⟨ia_inX5, tyX5_ok, nmX5, rfl⟩
  | 6, h => cases h; exact ⟨ia_inX6, tyX6_ok, nmX6, rfl⟩
  | 7, h => cases h; exact ⟨ia_inX7, tyX7_ok, nmX7, rfl⟩
  | 8, h => cases h; exact ⟨ia_inX8, tyX8_ok, nmX8, rfl⟩
  | 9, h => cases h; exact ⟨ia_inX9, tyX9_ok, nmX9, rfl⟩
  | 10, h => cases h; exact ⟨ia_inX10, tyX10_ok, nmX10, rfl⟩
  | 11, h => cases h; exact ⟨ia_inX11, tyX11_ok, nmX11, rfl⟩
  | 12, h => cases h; exact ⟨ia_inX12, tyX12_ok, nmX12, rfl⟩
  | k + 13, h => cases h
def ia_wF (r : Nat × Nat × Nat × Nat) : List (Nat × Cond) := match vwCl[r.2.1]? with
  | some q => [(r.2.2.2, Cond.fieldLink (ia_rN0 (r.1 / 100000)) (r.1 % 100000) (q.2.1 r.2.2.1).1 (q.2.1 r.2.2.1).2.1 (q.2.1 r.2.2.1).2.2.1)]
  | none => []
set_option maxRecDepth 100000 in
theorem ia_wF_ok_0 : ia_wok (((ia_LF).drop 0).take 25 |>.flatMap ia_wF) := ia_wok_of rfl (by decide +kernel)
set_option maxRecDepth 100000 in
theorem ia_wF_ok_1 : ia_wok (((ia_LF).drop 25).take 25 |>.flatMap ia_wF) := ia_wok_of rfl (by decide +kernel)
set_option maxRecDepth 100000 in
theorem ia_wF_ok_2 : ia_wok (((ia_LF).drop 50).take 25 |>.flatMap ia_wF) := ia_wok_of rfl (by decide +kernel)
set_option maxRecDepth 100000 in
theorem ia_wF_ok_3 : ia_wok (((ia_LF).drop 75).take 25 |>.flatMap ia_wF) := ia_wok_of rfl (by decide +kernel)
set_option maxRecDepth 100000 in
theorem ia_wF_ok_4 : ia_wok (((ia_LF).drop 100).take 25 |>.flatMap ia_wF) := ia_wok_of rfl (by decide +kernel)
set_option maxRecDepth 100000 in
theorem ia_wF_ok_5 : ia_wok (((ia_LF).drop 125).take 25 |>.flatMap ia_wF) := ia_wok_of rfl (by decide +kernel)
theorem ia_wF_ok : ∀ r ∈ ia_LF, ia_wok (ia_wF r) := by
  intro r hr
  obtain ⟨i, hi⟩ := List.getElem?_of_mem hr
  have hlt : i < (ia_LF).length := (List.getElem?_eq_some_iff.mp hi).1
  have hlen : (ia_LF).length = 150 := by decide +kernel
  have key : ∀ s, s ≤ i → i < s + 25 → ia_wok ((((ia_LF).drop s).take 25).flatMap ia_wF) → ia_wok (ia_wF r) := by
    intro s h1 h2 h p hp
    refine h p (List.mem_flatMap.mpr ⟨r, ?_, hp⟩)
    apply List.mem_of_getElem? (i := i - s)
    rw [List.getElem?_take_of_lt (by omega), List.getElem?_drop, show s + (i - s) = i by omega, hi]
  by_cases h0 : i < 25
  · exact key 0 (by omega) h0 ia_wF_ok_0
  by_cases h1 : i < 50
  · exact key 25 (by omega) h1 ia_wF_ok_1
  by_cases h2 : i < 75
  · exact key 50 (by omega) h2 ia_wF_ok_2
  by_cases h3 : i < 100
  · exact key 75 (by omega) h3 ia_wF_ok_3
  by_cases h4 : i < 125
  · exact key 100 (by omega) h4 ia_wF_ok_4
  exact key 125 (by omega) (by omega) ia_wF_ok_5
set_option maxRecDepth 100000 in
theorem ia_cF_all : ia_LF.all (fun r => decide (900 ≤ r.2.1) || (match vwCl[r.2.1]? with
  | some q => decide (r.2.2.1 < q.2.2)
  | none => false)) = true := by decide +kernel
theorem ia_own0 : ∀ (ci : Nat) (q : vw_C), vwCl[ci]? = some q → ∀ k, k < q.2.2 → (q.2.1 k).1 = ia_rN0 ci := by
  intro ci q h
  match ci, h with
  | 0, h => cases h; intro k hk; have hk : k < 6 := hk; match k, hk with
    | 0, _ => rfl
    | 1, _ => rfl
    | 2, _ => rfl
    | 3, _ => rfl
    | 4, _ => rfl
    | 5, _ => rfl
    | k + 6, hk => exact absurd hk (by omega)
  | 1, h => cases h; intro k hk; have hk : k < 9 := hk; match k, hk with
    | 0, _ => rfl
    | 1, _ => rfl
    | 2, _ => rfl
    | 3, _ => rfl
    | 4, _ => rfl
    | 5, _ => rfl
    | 6, _ => rfl
    | 7, _ => rfl
    | 8, _ => rfl
    | k + 9, hk => exact absurd hk (by omega)
  | 2, h => cases h; intro k hk; have hk : k < 3 := hk; match k, hk with
    | 0, _ => rfl
    | 1, _ => rfl
    | 2, _ => rfl
    | k + 3, hk => exact absurd hk (by omega)
  | 3, h => cases h; intro k hk; have hk : k < 3 := hk; match k, hk with
    | 0, _ => rfl
    | 1, _ => rfl
    | 2, _ => rfl
    | k + 3, hk => exact absurd hk (by omega)
  | 4, h => cases h; intro k hk; have hk : k < 2 := hk; match k, hk with
    | 0, _ => rfl
    | 1, _ => rfl
    | k + 2, hk => exact absurd hk (by omega)
  | 5, h => cases h; intro k hk; have hk : k < 3 := hk; match k, hk with
    | 0, _ => rfl
    | 1, _ => rfl
    | 2, _ => rfl
    | k + 3, hk => exact absurd hk (by omega)
  | 6, h => cases h; intro k hk; have hk : k < 3 := hk; match k, hk with
    | 0, _ => rfl
    | 1, _ => rfl
    | 2, _ => rfl
    | k + 3, hk => exact absurd hk (by omega)
  | 7, h => cases h; intro k hk; have hk : k < 3 := hk; match k, hk with
    | 0, _ => rfl
    | 1, _ => rfl
    | 2, _ => rfl
    | k + 3, hk => exact absurd hk (by omega)
  | 8, h => cases h; intro k hk; have hk : k < 8 := hk; match k, hk with
    | 0, _ => rfl
    | 1, _ => rfl
    | 2, _ => rfl
    | 3, _ => rfl
    | 4, _ => rfl
    | 5, _ => rfl
    | 6, _ => rfl
    | 7, _ => rfl
    | k + 8, hk => exact absurd hk (by omega)
  | 9, h => cases h; intro k hk; have hk : k < 4 := hk; match k, hk with
    | 0, _ => rfl
    | 1, _ => rfl
    | 2, _ => rfl
    | 3, _ => rfl
    | k + 4, hk => exact absurd hk (by omega)
  | 10, h => cases h; intro k hk; have hk : k < 2 := hk; match k, hk with
    | 0, _ => rfl
    | 1, _ => rfl
    | k + 2, hk => exact absurd hk (by omega)
  | 11, h => cases h; intro k hk; have hk : k < 19 := hk; match k, hk with
    | 0, _ => rfl
    | 1, _ => rfl
    | 2, _ => rfl
    | 3, _ => rfl
    | 4, _ => rfl
    | 5, _ => rfl
    | 6, _ => rfl
    | 7, _ => rfl
    | 8, _ => rfl
    | 9, _ => rfl
    | 10, _ => rfl
    | 11, _ => rfl
    | 12, _ => rfl
    | 13, _ => rfl
    | 14, _ => rfl
    | 15, _ => rfl
    | 16, _ => rfl
    | 17, _ => rfl
    | 18, _ => rfl
    | k + 19, hk => exact absurd hk (by omega)
  | 12, h => cases h; intro k hk; have hk : k < 54 := hk; match k, hk with
    | 0, _ => rfl
    | 1, _ => rfl
    | 2, _ => rfl
    | 3, _ => rfl
    | 4, _ => rfl
    | 5, _ => rfl
    | 6, _ => rfl
    | 7, _ => rfl
    | 8, _ => rfl
    | 9, _ => rfl
    | 10, _ => rfl
    | 11, _ => rfl
    | 12, _ => rfl
    | 13, _ => rfl
    | 14, _ => rfl
    | 15, _ => rfl
    | 16, _ => rfl
    | 17, _ => rfl
    | 18, _ => rfl
    | 19, _ => rfl
    | 20, _ => rfl
    | 21, _ => rfl
    | 22, _ => rfl
    | 23, _ => rfl
    | 24, _ => rfl
    | 25, _ => rfl
    | 26, _ => rfl
    | 27, _ => rfl
    | 28, _ => rfl
    | 29, _ => rfl
    | 30, _ => rfl
    | 31, _ => rfl
    | 32, _ => rfl
    | 33, _ => rfl
    | 34, _ => rfl
    | 35, _ => rfl
    | 36, _ => rfl
    | 37, _ => rfl
    | 38, _ => rfl
    | 39, _ => rfl
    | 40, _ => rfl
    | 41, _ => rfl
    | 42, _ => rfl
    | 43, _ => rfl
    | 44, _ => rfl
    | 45, _ => rfl
    | 46, _ => rfl
    | 47, _ => rfl
    | 48, _ => rfl
    | 49, _ => rfl
    | 50, _ => rfl
    | 51, _ => rfl
    | 52, _ => rfl
    | 53, _ => rfl
    | k + 54, hk => exact absurd hk (by omega)
  | k + 13, h => cases h
theorem ia_key {own x : Nat} (h : x < 100000) : (own * 100000 + x) / 100000 = own ∧ (own * 100000 + x) % 100000 = x := by omega
theorem ia_gF0 (L : Nat) (xs : Nat → Int32) (fm : Bool) : ia_gF (ia_P0 L xs fm) (ia_Ts ++ ia_Xs) := by
  intro own x ci k h hci
  have h : ia_tF0 own x = some (ci, k) := h
  unfold ia_tF0 at h
  split at h
  · next hx =>
    obtain ⟨⟨c0, k0, i⟩, hr, he⟩ := Option.map_eq_some_iff.mp h
    dsimp only at he
    obtain ⟨rfl, rfl⟩ := Prod.mk.inj (Option.some.inj (congrArg some he))
    have hm := ia_lk_mem _ _ _ hr
    have hc := List.all_eq_true.mp ia_cF_all _ hm
    have hw := ia_wF_ok _ hm
    simp only [Bool.or_eq_true, decide_eq_true_eq] at hc
    rcases hc with hc | hc
    · exact absurd hci (by omega)
    · unfold ia_wF at hw
      cases hq : vwCl[c0]? with
      | none => rw [hq] at hc; cases hc
      | some q =>
        dsimp only at hw
        rw [hq] at hc hw
        have hc : k0 < q.2.2 := of_decide_eq_true hc
        obtain ⟨e1, e2⟩ := ia_key (own := own) hx
        obtain ⟨c1, c2, c3, c4⟩ := ia_cls0 c0 q hq
        have hw := hw _ List.mem_cons_self
        dsimp only at hw
        rw [e1, e2] at hw
        exact ⟨q, hq, hc, fun w z => List.mem_append_left _ (c1 w z), hw, c2, c3, ia_own0 c0 q hq k0 hc⟩
  · cases h
def ia_wK (r : Nat × Value × Nat) : List (Nat × Cond) := match r.2.1 with
  | .int v => [(r.2.2, Cond.constant (ia_rN0 (r.1 / 100000)) (r.1 % 100000) v)]
  | .long v => [(r.2.2, Cond.constantLong (ia_rN0 (r.1 / 100000)) (r.1 % 100000) v)]
  | _ => []
set_option maxRecDepth 100000 in
theorem ia_wK_ok_0 : ia_wok (((ia_LK).drop 0).take 20 |>.flatMap ia_wK) := ia_wok_of rfl (by decide +kernel)
set_option maxRecDepth 100000 in
theorem ia_wK_ok_1 : ia_wok (((ia_LK).drop 20).take 20 |>.flatMap ia_wK) := ia_wok_of rfl (by decide +kernel)
theorem ia_wK_ok : ∀ r ∈ ia_LK, ia_wok (ia_wK r) := by
  intro r hr
  obtain ⟨i, hi⟩ := List.getElem?_of_mem hr
  have hlt : i < (ia_LK).length := (List.getElem?_eq_some_iff.mp hi).1
  have hlen : (ia_LK).length = 38 := by decide +kernel
  have key : ∀ s, s ≤ i → i < s + 20 → ia_wok ((((ia_LK).drop s).take 20).flatMap ia_wK) → ia_wok (ia_wK r) := by
    intro s h1 h2 h p hp
    refine h p (List.mem_flatMap.mpr ⟨r, ?_, hp⟩)
    apply List.mem_of_getElem? (i := i - s)
    rw [List.getElem?_take_of_lt (by omega), List.getElem?_drop, show s + (i - s) = i by omega, hi]
  by_cases h0 : i < 20
  · exact key 0 (by omega) h0 ia_wK_ok_0
  exact key 20 (by omega) (by omega) ia_wK_ok_1
theorem ia_gK0 (L : Nat) (xs : Nat → Int32) (fm : Bool) : ia_gK (ia_P0 L xs fm) (ia_Ts ++ ia_Xs) := by
  intro own x v h
  have h : ia_tK0 own x = some v := h
  unfold ia_tK0 at h
  split at h
  · next hx =>
    obtain ⟨⟨v0, i⟩, hr, he⟩ := Option.map_eq_some_iff.mp h
    have he : v0 = v := he
    subst he
    have hw := ia_wK_ok _ (ia_lk_mem _ _ _ hr)
    unfold ia_wK at hw
    obtain ⟨e1, e2⟩ := ia_key (own := own) hx
    dsimp only at hw
    rw [e1, e2] at hw
    cases v0 with
    | int v => exact hw _ List.mem_cons_self
    | long v => exact hw _ List.mem_cons_self
    | _ => trivial
  · cases h
def ia_wC (r : Nat × Nat × Nat × Nat × Nat) : List (Nat × Cond) := if r.2.1 = 950 then [(r.2.2.1, Cond.classLink (ia_rN0 (r.1 / 100000)) (r.1 % 100000) (FieldType.array .int).toString)] else (match vwCl[r.2.1]? with
  | some q => [(r.2.2.1, Cond.classLink (ia_rN0 (r.1 / 100000)) (r.1 % 100000) q.1), (r.2.2.2.1, Cond.instantiable q.1 q.2.2), (r.2.2.2.2, Cond.initialized q.1)]
  | none => [])
set_option maxRecDepth 100000 in
theorem ia_wC_ok_0 : ia_wok (((ia_LC).drop 0).take 20 |>.flatMap ia_wC) := ia_wok_of rfl (by decide +kernel)
theorem ia_wC_ok : ∀ r ∈ ia_LC, ia_wok (ia_wC r) := by
  intro r hr
  obtain ⟨i, hi⟩ := List.getElem?_of_mem hr
  have hlt : i < (ia_LC).length := (List.getElem?_eq_some_iff.mp hi).1
  have hlen : (ia_LC).length = 17 := by decide +kernel
  have key : ∀ s, s ≤ i → i < s + 20 → ia_wok ((((ia_LC).drop s).take 20).flatMap ia_wC) → ia_wok (ia_wC r) := by
    intro s h1 h2 h p hp
    refine h p (List.mem_flatMap.mpr ⟨r, ?_, hp⟩)
    apply List.mem_of_getElem? (i := i - s)
    rw [List.getElem?_take_of_lt (by omega), List.getElem?_drop, show s + (i - s) = i by omega, hi]
  exact key 0 (by omega) (by omega) ia_wC_ok_0
set_option maxRecDepth 100000 in
theorem ia_wA_ok : ia_wok [(157, Cond.arrayClass .int), (705, Cond.arrayClass .byte), (1467, Cond.arrayClass .boolean), (1946, Cond.arrayClass .long), (381, Cond.arrayOver (.array .int))] := ia_wok_of rfl (by decide +kernel)
theorem ia_gC0 (L : Nat) (xs : Nat → Int32) (fm : Bool) : ia_gC (ia_P0 L xs fm) (ia_Ts ++ ia_Xs) := by
  have key : ∀ own x ci, ia_tC0 own x = some ci → ∃ i j k, ia_wok (ia_wC (own * 100000 + x, ci, i, j, k)) ∧ x < 100000 := by
    intro own x ci h
    unfold ia_tC0 at h
    split at h
    · next hx =>
      obtain ⟨⟨c0, i, j, k⟩, hr, he⟩ := Option.map_eq_some_iff.mp h
      have he : c0 = ci := he
      subst he
      exact ⟨i, j, k, ia_wC_ok _ (ia_lk_mem _ _ _ hr), hx⟩
    · cases h
  refine ⟨?_, ?_, ?_⟩
  · intro own x ci q h hq
    have hq : vwCl[ci]? = some q := hq
    obtain ⟨i, j, k, hc, hx⟩ := key own x ci h
    obtain ⟨e1, e2⟩ := ia_key (own := own) hx
    have hlt : ci < 13 := (List.getElem?_eq_some_iff.mp hq).1
    unfold ia_wC at hc
    dsimp only at hc
    rw [if_neg (by omega), hq, e1, e2] at hc
    obtain ⟨c1, c2, c3, c4⟩ := ia_cls0 ci q hq
    exact ⟨fun w z => List.mem_append_left _ (c1 w z), hc _ List.mem_cons_self, hc _ (List.mem_cons_of_mem _ List.mem_cons_self), hc _ (List.mem_cons_of_mem _ (List.mem_cons_of_mem _ List.mem_cons_self)), c2⟩
  · intro own x h
    obtain ⟨i, j, k, hc, hx⟩ := key own x 950 h
    obtain ⟨e1, e2⟩ := ia_key (own := own) hx
    unfold ia_wC at hc
    dsimp only at hc
    rw [if_pos rfl, e1, e2] at hc
    exact hc _ List.mem_cons_self
  · have h := ia_wA_ok
    exact ⟨h _ List.mem_cons_self, h _ (List.mem_cons_of_mem _ List.mem_cons_self), h _ (List.mem_cons_of_mem _ (List.mem_cons_of_mem _ List.mem_cons_self)), h _ (List.mem_cons_of_mem _ (List.mem_cons_of_mem _ (List.mem_cons_of_mem _ List.mem_cons_self))), h _ (List.mem_cons_of_mem _ (List.mem_cons_of_mem _ (List.mem_cons_of_mem _ (List.mem_cons_of_mem _ List.mem_cons_self))))⟩
end IH
