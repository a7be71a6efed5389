/-! ia_Good of this program's tables (written by wip/whole/gen_good.py) -/
section IH
theorem ia_inX0 : ∀ w ∈ u_ws RX0 TX0 6, w ∈ ia_Ts := by
  have h : (u_ws RX0 TX0 6).all (fun w => decide (w ∈ lw_tbl) && goodWord w) = true := by decide +kernel
  intro w hw
  have h1 := List.all_eq_true.mp h w hw
  simp only [Bool.and_eq_true, decide_eq_true_eq] at h1
  exact List.mem_filter.mpr h1
theorem ia_inX1 : ∀ w ∈ u_ws RX1 TX1 9, w ∈ ia_Ts := by
  have h : (u_ws RX1 TX1 9).all (fun w => decide (w ∈ lw_tbl) && goodWord w) = true := by decide +kernel
  intro w hw
  have h1 := List.all_eq_true.mp h w hw
  simp only [Bool.and_eq_true, decide_eq_true_eq] at h1
  exact List.mem_filter.mpr h1
theorem ia_inX2 : ∀ w ∈ u_ws RX2 TX2 3, w ∈ ia_Ts := by
  have h : (u_ws RX2 TX2 3).all (fun w => decide (w ∈ lw_tbl) && goodWord w) = true := by decide +kernel
  intro w hw
  have h1 := List.all_eq_true.mp h w hw
  simp only [Bool.and_eq_true, decide_eq_true_eq] at h1
  exact List.mem_filter.mpr h1
theorem ia_inX3 : ∀ w ∈ u_ws RX3 TX3 3, w ∈ ia_Ts := by
  have h : (u_ws RX3 TX3 3).all (fun w => decide (w ∈ lw_tbl) && goodWord w) = true := by decide +kernel
  intro w hw
  have h1 := List.all_eq_true.mp h w hw
  simp only [Bool.and_eq_true, decide_eq_true_eq] at h1
  exact List.mem_filter.mpr h1
theorem ia_inX4 : ∀ w ∈ u_ws RX4 TX4 2, w ∈ ia_Ts := by
  have h : (u_ws RX4 TX4 2).all (fun w => decide (w ∈ lw_tbl) && goodWord w) = true := by decide +kernel
  intro w hw
  have h1 := List.all_eq_true.mp h w hw
  simp only [Bool.and_eq_true, decide_eq_true_eq] at h1
  exact List.mem_filter.mpr h1
theorem ia_inX5 : ∀ w ∈ u_ws RX5 TX5 3, w ∈ ia_Ts := by
  have h : (u_ws RX5 TX5 3).all (fun w => decide (w ∈ lw_tbl) && goodWord w) = true := by decide +kernel
  intro w hw
  have h1 := List.all_eq_true.mp h w hw
  simp only [Bool.and_eq_true, decide_eq_true_eq] at h1
  exact List.mem_filter.mpr h1
theorem ia_inX6 : ∀ w ∈ u_ws RX6 TX6 3, w ∈ ia_Ts := by
  have h : (u_ws RX6 TX6 3).all (fun w => decide (w ∈ lw_tbl) && goodWord w) = true := by decide +kernel
  intro w hw
  have h1 := List.all_eq_true.mp h w hw
  simp only [Bool.and_eq_true, decide_eq_true_eq] at h1
  exact List.mem_filter.mpr h1
theorem ia_inX7 : ∀ w ∈ u_ws RX7 TX7 3, w ∈ ia_Ts := by
  have h : (u_ws RX7 TX7 3).all (fun w => decide (w ∈ lw_tbl) && goodWord w) = true := by decide +kernel
  intro w hw
  have h1 := List.all_eq_true.mp h w hw
  simp only [Bool.and_eq_true, decide_eq_true_eq] at h1
  exact List.mem_filter.mpr h1
theorem ia_inX8 : ∀ w ∈ u_ws RX8 TX8 8, w ∈ ia_Ts := by
  have h : (u_ws RX8 TX8 8).all (fun w => decide (w ∈ lw_tbl) && goodWord w) = true := by decide +kernel
  intro w hw
  have h1 := List.all_eq_true.mp h w hw
  simp only [Bool.and_eq_true, decide_eq_true_eq] at h1
  exact List.mem_filter.mpr h1
theorem ia_inX9 : ∀ w ∈ u_ws RX9 TX9 4, w ∈ ia_Ts := by
  have h : (u_ws RX9 TX9 4).all (fun w => decide (w ∈ lw_tbl) && goodWord w) = true := by decide +kernel
  intro w hw
  have h1 := List.all_eq_true.mp h w hw
  simp only [Bool.and_eq_true, decide_eq_true_eq] at h1
  exact List.mem_filter.mpr h1
theorem ia_inX10 : ∀ w ∈ u_ws RX10 TX10 2, w ∈ ia_Ts := by
  have h : (u_ws RX10 TX10 2).all (fun w => decide (w ∈ lw_tbl) && goodWord w) = true := by decide +kernel
  intro w hw
  have h1 := List.all_eq_true.mp h w hw
  simp only [Bool.and_eq_true, decide_eq_true_eq] at h1
  exact List.mem_filter.mpr h1
theorem ia_inX11 : ∀ w ∈ u_ws RX11 TX11 19, w ∈ ia_Ts := by
  have h : (u_ws RX11 TX11 19).all (fun w => decide (w ∈ lw_tbl) && goodWord w) = true := by decide +kernel
  intro w hw
  have h1 := List.all_eq_true.mp h w hw
  simp only [Bool.and_eq_true, decide_eq_true_eq] at h1
  exact List.mem_filter.mpr h1
theorem ia_inX12 : ∀ w ∈ u_ws RX12 TX12 54, w ∈ ia_Ts := by
  have h : (u_ws RX12 TX12 54).all (fun w => decide (w ∈ lw_tbl) && goodWord w) = true := by decide +kernel
  intro w hw
  have h1 := List.all_eq_true.mp h w hw
  simp only [Bool.and_eq_true, decide_eq_true_eq] at h1
  exact List.mem_filter.mpr h1
theorem ia_cls0 : ∀ (ci : Nat) (q : vw_C), vwCl[ci]? = some q → (∀ w ∈ u_ws q.1 q.2.1 q.2.2, w ∈ ia_Ts) ∧ (∀ j, j < q.2.2 → parseFieldDescriptor (q.2.1 j).2.2.1 = some (ia_ty0 ci j)) ∧ (∀ a, a < q.2.2 → ∀ b, b < q.2.2 → a ≠ b → (q.2.1 a).2.1 ≠ (q.2.1 b).2.1) ∧ q.1 = ia_rN0 ci := by
  intro ci q h
  match ci, h with
  | 0, h => cases h; exact ⟨ia_inX0, tyX0_ok, nmX0, by decide +kernel⟩
  | 1, h => cases h; exact ⟨ia_inX1, tyX1_ok, nmX1, by decide +kernel⟩
  | 2, h => cases h; exact ⟨ia_inX2, tyX2_ok, nmX2, by decide +kernel⟩
  | 3, h => cases h; exact ⟨ia_inX3, tyX3_ok, nmX3, by decide +kernel⟩
  | 4, h => cases h; exact ⟨ia_inX4, tyX4_ok, nmX4, by decide +kernel⟩
  | 5, h => cases h; exact ⟨ia_inX5, tyX5_ok, nmX5, by decide +kernel⟩
  | 6, h => cases h; exact ⟨ia_inX6, tyX6_ok, nmX6, by decide +kernel⟩
  | 7, h => cases h; exact ⟨ia_inX7, tyX7_ok, nmX7, by decide +kernel⟩
  | 8, h => cases h; exact ⟨ia_inX8, tyX8_ok, nmX8, by decide +kernel⟩
  | 9, h => cases h; exact ⟨ia_inX9, tyX9_ok, nmX9, by decide +kernel⟩
  | 10, h => cases h; exact ⟨ia_inX10, tyX10_ok, nmX10, by decide +kernel⟩
  | 11, h => cases h; exact ⟨ia_inX11, tyX11_ok, nmX11, by decide +kernel⟩
  | 12, h => cases h; exact ⟨ia_inX12, tyX12_ok, nmX12, by decide +kernel⟩
  | k + 13, h => cases h
def ia_cF (r : Nat × Nat × Nat × Nat) : Bool := decide (900 ≤ r.2.1) || (match vwCl[r.2.1]? with
  | some q => decide (r.2.2.1 < q.2.2) && ia_ck r.2.2.2 (Cond.fieldLink (ia_rN0 (r.1 / 100000)) (r.1 % 100000) (q.2.1 r.2.2.1).1 (q.2.1 r.2.2.1).2.1 (q.2.1 r.2.2.1).2.2.1) && decide ((q.2.1 r.2.2.1).1 = ia_rN0 r.2.1)
  | none => false)
theorem ia_cF_all : ia_LF.all ia_cF = true := by decide +kernel
theorem ia_key {own x : Nat} (h : x < 100000) : (own * 100000 + x) / 100000 = own ∧ (own * 100000 + x) % 100000 = x := by omega
theorem ia_gF0 (L : Nat) (xs : Nat → Int32) (fm : Value) : ia_gF (ia_P0 L xs fm) ia_Ts := by
  intro own x ci k h hci
  have h : ia_tF0 own x = some (ci, k) := h
  unfold ia_tF0 at h
  split at h
  · next hx =>
    obtain ⟨⟨ci', k', i⟩, hr, he⟩ := Option.map_eq_some_iff.mp h
    cases he
    have hc := List.all_eq_true.mp ia_cF_all _ (ia_lk_mem _ _ _ hr)
    unfold ia_cF at hc
    simp only [Bool.or_eq_true, decide_eq_true_eq] at hc
    rcases hc with hc | hc
    · omega
    · cases hq : vwCl[ci]? with
      | none => rw [hq] at hc; cases hc
      | some q =>
        rw [hq] at hc
        simp only [Bool.and_eq_true, decide_eq_true_eq] at hc
        obtain ⟨e1, e2⟩ := ia_key (own := own) hx
        rw [e1, e2] at hc
        obtain ⟨c1, c2, c3, c4⟩ := ia_cls0 ci q hq
        exact ⟨q, hq, hc.1.1, c1, ia_ck_in hc.1.2, c2, c3, hc.2⟩
  · cases h
def ia_cK (r : Nat × Value × Nat) : Bool := match r.2.1 with
  | .int v => ia_ck r.2.2 (Cond.constant (ia_rN0 (r.1 / 100000)) (r.1 % 100000) v)
  | .long v => ia_ck r.2.2 (Cond.constantLong (ia_rN0 (r.1 / 100000)) (r.1 % 100000) v)
  | _ => true
theorem ia_cK_all : ia_LK.all ia_cK = true := by decide +kernel
theorem ia_gK0 (L : Nat) (xs : Nat → Int32) (fm : Value) : ia_gK (ia_P0 L xs fm) ia_Ts := by
  intro own x v h
  have h : ia_tK0 own x = some v := h
  unfold ia_tK0 at h
  split at h
  · next hx =>
    obtain ⟨⟨v', i⟩, hr, he⟩ := Option.map_eq_some_iff.mp h
    cases he
    have hc := List.all_eq_true.mp ia_cK_all _ (ia_lk_mem _ _ _ hr)
    unfold ia_cK at hc
    obtain ⟨e1, e2⟩ := ia_key (own := own) hx
    dsimp only at hc
    rw [e1, e2] at hc
    cases v' with
    | int v => exact ia_ck_in hc
    | long v => exact ia_ck_in hc
    | _ => trivial
  · cases h
def ia_cC (r : Nat × Nat × Nat × Nat × Nat) : Bool := if r.2.1 = 950 then ia_ck r.2.2.1 (Cond.classLink (ia_rN0 (r.1 / 100000)) (r.1 % 100000) (FieldType.array .int).toString) else (match vwCl[r.2.1]? with
  | some q => ia_ck r.2.2.1 (Cond.classLink (ia_rN0 (r.1 / 100000)) (r.1 % 100000) q.1) && ia_ck r.2.2.2.1 (Cond.instantiable q.1 q.2.2) && ia_ck r.2.2.2.2 (Cond.initialized q.1)
  | none => false)
theorem ia_cC_all : ia_LC.all ia_cC = true := by decide +kernel
theorem ia_gC0 (L : Nat) (xs : Nat → Int32) (fm : Value) : ia_gC (ia_P0 L xs fm) ia_Ts := by
  have key : ∀ own x ci, ia_tC0 own x = some ci → ∃ i j k, ia_cC (own * 100000 + x, ci, i, j, k) = true ∧ x < 100000 := by
    intro own x ci h
    unfold ia_tC0 at h
    split at h
    · next hx =>
      obtain ⟨⟨ci', i, j, k⟩, hr, he⟩ := Option.map_eq_some_iff.mp h
      cases he
      exact ⟨i, j, k, List.all_eq_true.mp ia_cC_all _ (ia_lk_mem _ _ _ hr), hx⟩
    · cases h
  refine ⟨?_, ?_, ?_⟩
  · intro own x ci q h hq
    have hq : vwCl[ci]? = some q := hq
    obtain ⟨i, j, k, hc, hx⟩ := key own x ci h
    obtain ⟨e1, e2⟩ := ia_key (own := own) hx
    have hlt : ci < 13 := (List.getElem?_eq_some_iff.mp hq).1
    unfold ia_cC at hc
    dsimp only at hc
    rw [if_neg (by omega), hq, e1, e2] at hc
    simp only [Bool.and_eq_true] at hc
    obtain ⟨c1, c2, c3, c4⟩ := ia_cls0 ci q hq
    exact ⟨c1, ia_ck_in hc.1.1, ia_ck_in hc.1.2, ia_ck_in hc.2, c2⟩
  · intro own x h
    obtain ⟨i, j, k, hc, hx⟩ := key own x 950 h
    obtain ⟨e1, e2⟩ := ia_key (own := own) hx
    unfold ia_cC at hc
    dsimp only at hc
    rw [if_pos rfl, e1, e2] at hc
    exact ia_ck_in hc
  · exact ⟨ia_ck_in (i := 157) (by decide +kernel), ia_ck_in (i := 705) (by decide +kernel), ia_ck_in (i := 1467) (by decide +kernel), ia_ck_in (i := 1946) (by decide +kernel), ia_ck_in (i := 381) (by decide +kernel)⟩
def ia_cMy (own x k i a b d kd : Nat) (y : MethodName) (ret : Option FieldType) : Bool :=
  if kd = 0 then ia_ck i (Cond.methodLink (ia_rN0 own) x y) && ia_ck a (Cond.static y) && ia_ck b (Cond.initialized y.cls)
  else if kd = 1 then ia_ck i (Cond.methodLink (ia_rN0 own) x y) && ia_ck a (Cond.instanceMethod y) && ia_ck d (Cond.selects y.cls y y) && ia_ck b (Cond.initialized y.cls)
  else if kd = 2 then ia_ck i (Cond.methodLink (ia_rN0 own) x y) && ia_ck a (Cond.instanceMethod y) && ia_ck b (Cond.initialized y.cls) && decide (y.name = "<init>") && decide (ret = none)
  else if kd = 3 then ia_ck i (Cond.methodLinkNest (ia_rN0 own) x y "TightLid") && ia_ck a (Cond.static y) && ia_ck b (Cond.initialized y.cls)
  else if kd = 4 then ia_ck i (Cond.methodLinkNest (ia_rN0 own) x y "TightLid") && ia_ck a (Cond.instanceMethod y) && ia_ck b (Cond.initialized y.cls) && decide (y.name = "<init>") && decide (ret = none)
  else true
def ia_cM (r : Nat × Nat × Nat × Nat × Nat × Nat × Nat) : Bool := match r with
  | (key, k, kd, i, a, b, d) => if kd = 6 then ia_ck i (Cond.methodLink (ia_rN0 (key / 100000)) (key % 100000) objectInit) && ia_ck a (Cond.instanceMethod objectInit) && ia_ck b (Cond.code objectInit ⟨#[0xb1]⟩ 1 none)
    else if kd = 7 then ia_ck i (Cond.methodLink (ia_rN0 (key / 100000)) (key % 100000) arraycopyName) && ia_ck a (Cond.native arraycopyName) && ia_ck b (Cond.static arraycopyName) && ia_ck d (Cond.initialized "java/lang/System")
    else if kd = 8 then ia_ck i (Cond.methodLink (ia_rN0 (key / 100000)) (key % 100000) ⟨(FieldType.array .int).toString, "clone", "()Ljava/lang/Object;"⟩)
    else match ia_mt0 k with
      | some (_, y, _, _, ret, _) => ia_cMy (key / 100000) (key % 100000) k i a b d kd y ret
      | none => true
theorem ia_cM_all0 : ia_LM0.all ia_cM = true := by decide +kernel
theorem ia_cM_all1 : ia_LM1.all ia_cM = true := by decide +kernel
theorem ia_cM_all2 : ia_LM2.all ia_cM = true := by decide +kernel
theorem ia_cM_all3 : ia_LM3.all ia_cM = true := by decide +kernel
theorem ia_cM_all : ∀ r ∈ ia_LM, ia_cM r = true := by
  intro r hr
  simp only [ia_LM, List.mem_append] at hr
  rcases hr with ((h0 | h1) | h2) | h3
  · exact List.all_eq_true.mp ia_cM_all0 r h0
  · exact List.all_eq_true.mp ia_cM_all1 r h1
  · exact List.all_eq_true.mp ia_cM_all2 r h2
  · exact List.all_eq_true.mp ia_cM_all3 r h3
theorem ia_gM0 (L : Nat) (xs : Nat → Int32) (fm : Value) : ia_gM (ia_P0 L xs fm) ia_Ts := by
  intro own x k kd h
  have h : ia_tM0 own x = some (k, kd) := h
  unfold ia_tM0 at h
  split at h
  · next hx =>
    obtain ⟨⟨k', kd', i, a, b, d⟩, hr, he⟩ := Option.map_eq_some_iff.mp h
    cases he
    have hc := ia_cM_all _ (ia_lk_mem _ _ _ hr)
    unfold ia_cM at hc
    obtain ⟨e1, e2⟩ := ia_key (own := own) hx
    dsimp only at hc
    rw [e1, e2] at hc
    have hmy : ∀ {ck : Nat} {y : MethodName} {cc : ByteArray} {nL : Nat} {ret : Option FieldType} {np : Nat}, kd ≠ 6 → kd ≠ 7 → kd ≠ 8 → ia_mt0 k = some (ck, y, cc, nL, ret, np) → ia_cMy own x k i a b d kd y ret = true := fun n6 n7 n8 hm => by
      rw [if_neg n6, if_neg n7, if_neg n8, hm] at hc
      exact hc
    refine ⟨?_, ?_, ?_, ?_, ?_, ?_, ?_, ?_⟩
    · rintro rfl ck y cc nL ret np hm
      have := hmy (by decide) (by decide) (by decide) hm
      simp only [ia_cMy, if_pos, Bool.and_eq_true] at this
      exact ⟨ia_ck_in this.1.1, ia_ck_in this.1.2, ia_ck_in this.2⟩
    · rintro rfl ck y cc nL ret np hm
      have := hmy (by decide) (by decide) (by decide) hm
      simp [ia_cMy] at this
      exact ⟨ia_ck_in this.1.1.1, ia_ck_in this.1.1.2, ia_ck_in this.1.2, ia_ck_in this.2⟩
    · rintro rfl ck y cc nL ret np hm
      have := hmy (by decide) (by decide) (by decide) hm
      simp [ia_cMy] at this
      exact ⟨ia_ck_in this.1.1.1.1, ia_ck_in this.1.1.1.2, ia_ck_in this.1.1.2, this.1.2, this.2⟩
    · rintro rfl ck y cc nL ret np hm
      have := hmy (by decide) (by decide) (by decide) hm
      simp [ia_cMy] at this
      exact ⟨_, ia_ck_in this.1.1, ia_ck_in this.1.2, ia_ck_in this.2⟩
    · rintro rfl ck y cc nL ret np hm
      have := hmy (by decide) (by decide) (by decide) hm
      simp [ia_cMy] at this
      exact ⟨_, ia_ck_in this.1.1.1.1, ia_ck_in this.1.1.1.2, ia_ck_in this.1.1.2, this.1.2, this.2⟩
    · rintro rfl
      simp at hc
      exact ⟨ia_ck_in hc.1.1, ia_ck_in hc.1.2, ia_ck_in hc.2⟩
    · rintro rfl
      simp at hc
      exact ⟨ia_ck_in hc, ia_ck_in (i := 751) (by decide +kernel), ia_ck_in (i := 752) (by decide +kernel), ia_ck_in (i := 753) (by decide +kernel), ia_ck_in (i := 754) (by decide +kernel), ia_ck_in (i := 755) (by decide +kernel)⟩
    · rintro rfl
      simp at hc
      exact ⟨ia_ck_in hc.1.1.1, ia_ck_in hc.1.1.2, ia_ck_in hc.1.2, ia_ck_in hc.2⟩
  · cases h
def ia_cm (r : (Nat × Nat × MethodName × ByteArray × Nat × Option FieldType × Nat) × Nat) : Bool := match r with
  | ((_, own, y, cc, nL, ret, np), i) => plainName y.cls && decide (y.cls = ia_rN0 own) && ia_ck i (Cond.code y cc nL ret) && decide (nL ≤ 40) && decide (y.cls ≠ "java/lang/invoke/MethodHandle") && decide (y.cls ≠ "java/lang/invoke/VarHandle") && decide ((parseMethodDescriptor y.desc).map (fun d => d.parameters.length) = some np)
theorem ia_cm_all0 : (ia_mL0.zip ia_mI0).all ia_cm = true := by decide +kernel
theorem ia_cm_len0 : ia_mL0.length = ia_mI0.length := by decide +kernel
theorem ia_cm_all1 : (ia_mL1.zip ia_mI1).all ia_cm = true := by decide +kernel
theorem ia_cm_len1 : ia_mL1.length = ia_mI1.length := by decide +kernel
theorem ia_cm_all2 : (ia_mL2.zip ia_mI2).all ia_cm = true := by decide +kernel
theorem ia_cm_len2 : ia_mL2.length = ia_mI2.length := by decide +kernel
theorem ia_cm_all3 : (ia_mL3.zip ia_mI3).all ia_cm = true := by decide +kernel
theorem ia_cm_len3 : ia_mL3.length = ia_mI3.length := by decide +kernel
theorem ia_cm_all4 : (ia_mL4.zip ia_mI4).all ia_cm = true := by decide +kernel
theorem ia_cm_len4 : ia_mL4.length = ia_mI4.length := by decide +kernel
theorem ia_zip {α β : Type} : ∀ (l : List α) (m : List β), l.length = m.length → ∀ a ∈ l, ∃ b, (a, b) ∈ l.zip m
  | [], _, _, a, h => by cases h
  | x :: l, [], h, _, _ => by cases h
  | x :: l, y :: m, h, a, ha => by
    rcases List.mem_cons.mp ha with rfl | ha
    · exact ⟨y, List.mem_cons_self⟩
    · obtain ⟨b, hb⟩ := ia_zip l m (Nat.succ.inj h) a ha
      exact ⟨b, List.mem_cons_of_mem _ hb⟩
theorem ia_cm_all : ∀ r ∈ ia_mL, ∃ i, ia_cm (r, i) = true := by
  intro r hr
  simp only [ia_mL, List.mem_append] at hr
  rcases hr with (((h0 | h1) | h2) | h3) | h4
  · obtain ⟨i, hi⟩ := ia_zip _ _ ia_cm_len0 r h0; exact ⟨i, List.all_eq_true.mp ia_cm_all0 _ hi⟩
  · obtain ⟨i, hi⟩ := ia_zip _ _ ia_cm_len1 r h1; exact ⟨i, List.all_eq_true.mp ia_cm_all1 _ hi⟩
  · obtain ⟨i, hi⟩ := ia_zip _ _ ia_cm_len2 r h2; exact ⟨i, List.all_eq_true.mp ia_cm_all2 _ hi⟩
  · obtain ⟨i, hi⟩ := ia_zip _ _ ia_cm_len3 r h3; exact ⟨i, List.all_eq_true.mp ia_cm_all3 _ hi⟩
  · obtain ⟨i, hi⟩ := ia_zip _ _ ia_cm_len4 r h4; exact ⟨i, List.all_eq_true.mp ia_cm_all4 _ hi⟩
theorem ia_gm0 (L : Nat) (xs : Nat → Int32) (fm : Value) : ia_gm (ia_P0 L xs fm) ia_Ts := by
  intro k own y cc nL ret np h
  have h : ia_lk ia_mL k = some (own, y, cc, nL, ret, np) := h
  obtain ⟨i, hc⟩ := ia_cm_all _ (ia_lk_mem _ _ _ h)
  simp only [ia_cm, Bool.and_eq_true, decide_eq_true_eq] at hc
  exact ⟨hc.1.1.1.1.1.1, hc.1.1.1.1.1.2, ia_ck_in hc.1.1.1.1.2, hc.1.1.1.2, hc.1.1.2, hc.1.2, hc.2⟩
theorem ia_good0 (L : Nat) (xs : Nat → Int32) (fm : Value) : ia_Good (ia_P0 L xs fm) ia_Ts :=
  ⟨ia_gF0 L xs fm, ia_gK0 L xs fm, ia_gC0 L xs fm, ia_gM0 L xs fm, ia_gm0 L xs fm, fun _ h => (List.mem_filter.mp h).2, fun ci q h => (ia_cls0 ci q h).2.2.2, by show vwCl.length ≤ 900; decide⟩
end IH
