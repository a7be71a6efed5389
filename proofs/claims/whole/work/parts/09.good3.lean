section IJ
abbrev ia_mR : Type := (Nat × Nat × MethodName × ByteArray × Nat × Option FieldType × Nat) × Nat
def ia_wm (r : ia_mR) : List (Nat × Cond) := match r with
  | ((_, _, y, cc, nL, ret, _), i) => [(i, Cond.code y cc nL ret)]
def ia_cm (r : ia_mR) : Bool := match r with
  | ((_, own, _, _, nL, _, _), _) => plainName (ia_rN0 own) && decide (nL ≤ 40) && decide (ia_rN0 own ≠ "java/lang/invoke/MethodHandle") && decide (ia_rN0 own ≠ "java/lang/invoke/VarHandle")
def ia_okc (own : Nat) : Bool := plainName (ia_rN0 own) && decide (ia_rN0 own ≠ "java/lang/invoke/MethodHandle") && decide (ia_rN0 own ≠ "java/lang/invoke/VarHandle")
set_option maxRecDepth 100000 in
theorem ia_okc0 : ia_okc 0 = true := by decide +kernel
set_option maxRecDepth 100000 in
theorem ia_okc1 : ia_okc 1 = true := by decide +kernel
set_option maxRecDepth 100000 in
theorem ia_okc2 : ia_okc 2 = true := by decide +kernel
set_option maxRecDepth 100000 in
theorem ia_okc3 : ia_okc 3 = true := by decide +kernel
set_option maxRecDepth 100000 in
theorem ia_okc4 : ia_okc 4 = true := by decide +kernel
set_option maxRecDepth 100000 in
theorem ia_okc5 : ia_okc 5 = true := by decide +kernel
set_option maxRecDepth 100000 in
theorem ia_okc6 : ia_okc 6 = true := by decide +kernel
set_option maxRecDepth 100000 in
theorem ia_okc7 : ia_okc 7 = true := by decide +kernel
set_option maxRecDepth 100000 in
theorem ia_okc8 : ia_okc 8 = true := by decide +kernel
set_option maxRecDepth 100000 in
theorem ia_okc9 : ia_okc 9 = true := by decide +kernel
set_option maxRecDepth 100000 in
theorem ia_okc10 : ia_okc 10 = true := by decide +kernel
set_option maxRecDepth 100000 in
theorem ia_okc11 : ia_okc 11 = true := by decide +kernel
set_option maxRecDepth 100000 in
theorem ia_okc12 : ia_okc 12 = true := by decide +kernel
set_option maxRecDepth 100000 in
theorem ia_okc900 : ia_okc 900 = true := by decide +kernel
set_option maxRecDepth 100000 in
theorem ia_okc901 : ia_okc 901 = true := by decide +kernel
set_option maxRecDepth 100000 in
theorem ia_okc903 : ia_okc 903 = true := by decide +kernel
set_option maxRecDepth 100000 in
theorem ia_okc904 : ia_okc 904 = true := by decide +kernel
set_option maxRecDepth 100000 in
theorem ia_okc905 : ia_okc 905 = true := by decide +kernel
theorem ia_okc_all : ∀ own ∈ ([0, 1, 2, 3, 4, 5, 6, 7, 8, 9, 10, 11, 12, 900, 901, 903, 904, 905] : List Nat), ia_okc own = true := by
  intro own h
  simp only [List.mem_cons, List.not_mem_nil, or_false] at h
  rcases h with rfl | rfl | rfl | rfl | rfl | rfl | rfl | rfl | rfl | rfl | rfl | rfl | rfl | rfl | rfl | rfl | rfl | rfl
  · exact ia_okc0
  · exact ia_okc1
  · exact ia_okc2
  · exact ia_okc3
  · exact ia_okc4
  · exact ia_okc5
  · exact ia_okc6
  · exact ia_okc7
  · exact ia_okc8
  · exact ia_okc9
  · exact ia_okc10
  · exact ia_okc11
  · exact ia_okc12
  · exact ia_okc900
  · exact ia_okc901
  · exact ia_okc903
  · exact ia_okc904
  · exact ia_okc905
set_option maxRecDepth 100000 in
theorem ia_wm_0_0 : ia_wok ((((ia_mL0.zip ia_mI0).drop 0).take 20).flatMap ia_wm) := ia_wok_of rfl (by decide +kernel)
set_option maxRecDepth 100000 in
theorem ia_wn_0_0 : (((ia_mL0.zip ia_mI0).drop 0).take 20).map (fun r => r.1.2.2.1.cls) = (((ia_mL0.zip ia_mI0).drop 0).take 20).map (fun r => ia_rN0 r.1.2.1) := rfl
set_option maxRecDepth 100000 in
theorem ia_wp_0_0 : (((ia_mL0.zip ia_mI0).drop 0).take 20).all (fun r => decide (r.1.2.2.2.2.1 ≤ 40) && decide (r.1.2.1 ∈ ([0, 1, 2, 3, 4, 5, 6, 7, 8, 9, 10, 11, 12, 900, 901, 903, 904, 905] : List Nat)) && decide ((parseMethodDescriptor r.1.2.2.1.desc).map (fun d => d.parameters.length) = some r.1.2.2.2.2.2.2)) = true := by decide +kernel
set_option maxRecDepth 100000 in
theorem ia_wm_0_20 : ia_wok ((((ia_mL0.zip ia_mI0).drop 20).take 20).flatMap ia_wm) := ia_wok_of rfl (by decide +kernel)
set_option maxRecDepth 100000 in
theorem ia_wn_0_20 : (((ia_mL0.zip ia_mI0).drop 20).take 20).map (fun r => r.1.2.2.1.cls) = (((ia_mL0.zip ia_mI0).drop 20).take 20).map (fun r => ia_rN0 r.1.2.1) := rfl
set_option maxRecDepth 100000 in
theorem ia_wp_0_20 : (((ia_mL0.zip ia_mI0).drop 20).take 20).all (fun r => decide (r.1.2.2.2.2.1 ≤ 40) && decide (r.1.2.1 ∈ ([0, 1, 2, 3, 4, 5, 6, 7, 8, 9, 10, 11, 12, 900, 901, 903, 904, 905] : List Nat)) && decide ((parseMethodDescriptor r.1.2.2.1.desc).map (fun d => d.parameters.length) = some r.1.2.2.2.2.2.2)) = true := by decide +kernel
set_option maxRecDepth 100000 in
theorem ia_wm_0_40 : ia_wok ((((ia_mL0.zip ia_mI0).drop 40).take 20).flatMap ia_wm) := ia_wok_of rfl (by decide +kernel)
set_option maxRecDepth 100000 in
theorem ia_wn_0_40 : (((ia_mL0.zip ia_mI0).drop 40).take 20).map (fun r => r.1.2.2.1.cls) = (((ia_mL0.zip ia_mI0).drop 40).take 20).map (fun r => ia_rN0 r.1.2.1) := rfl
set_option maxRecDepth 100000 in
theorem ia_wp_0_40 : (((ia_mL0.zip ia_mI0).drop 40).take 20).all (fun r => decide (r.1.2.2.2.2.1 ≤ 40) && decide (r.1.2.1 ∈ ([0, 1, 2, 3, 4, 5, 6, 7, 8, 9, 10, 11, 12, 900, 901, 903, 904, 905] : List Nat)) && decide ((parseMethodDescriptor r.1.2.2.1.desc).map (fun d => d.parameters.length) = some r.1.2.2.2.2.2.2)) = true := by decide +kernel
set_option maxRecDepth 100000 in
theorem ia_wm_1_0 : ia_wok ((((ia_mL1.zip ia_mI1).drop 0).take 20).flatMap ia_wm) := ia_wok_of rfl (by decide +kernel)
set_option maxRecDepth 100000 in
theorem ia_wn_1_0 : (((ia_mL1.zip ia_mI1).drop 0).take 20).map (fun r => r.1.2.2.1.cls) = (((ia_mL1.zip ia_mI1).drop 0).take 20).map (fun r => ia_rN0 r.1.2.1) := rfl
set_option maxRecDepth 100000 in
theorem ia_wp_1_0 : (((ia_mL1.zip ia_mI1).drop 0).take 20).all (fun r => decide (r.1.2.2.2.2.1 ≤ 40) && decide (r.1.2.1 ∈ ([0, 1, 2, 3, 4, 5, 6, 7, 8, 9, 10, 11, 12, 900, 901, 903, 904, 905] : List Nat)) && decide ((parseMethodDescriptor r.1.2.2.1.desc).map (fun d => d.parameters.length) = some r.1.2.2.2.2.2.2)) = true := by decide +kernel
set_option maxRecDepth 100000 in
theorem ia_wm_1_20 : ia_wok ((((ia_mL1.zip ia_mI1).drop 20).take 20).flatMap ia_wm) := ia_wok_of rfl (by decide +kernel)
set_option maxRecDepth 100000 in
theorem ia_wn_1_20 : (((ia_mL1.zip ia_mI1).drop 20).take 20).map (fun r => r.1.2.2.1.cls) = (((ia_mL1.zip ia_mI1).drop 20).take 20).map (fun r => ia_rN0 r.1.2.1) := rfl
set_option maxRecDepth 100000 in
theorem ia_wp_1_20 : (((ia_mL1.zip ia_mI1).drop 20).take 20).all (fun r => decide (r.1.2.2.2.2.1 ≤ 40) && decide (r.1.2.1 ∈ ([0, 1, 2, 3, 4, 5, 6, 7, 8, 9, 10, 11, 12, 900, 901, 903, 904, 905] : List Nat)) && decide ((parseMethodDescriptor r.1.2.2.1.desc).map (fun d => d.parameters.length) = some r.1.2.2.2.2.2.2)) = true := by decide +kernel
set_option maxRecDepth 100000 in
theorem ia_wm_1_40 : ia_wok ((((ia_mL1.zip ia_mI1).drop 40).take 20).flatMap ia_wm) := ia_wok_of rfl (by decide +kernel)
set_option maxRecDepth 100000 in
theorem ia_wn_1_40 : (((ia_mL1.zip ia_mI1).drop 40).take 20).map (fun r => r.1.2.2.1.cls) = (((ia_mL1.zip ia_mI1).drop 40).take 20).map (fun r => ia_rN0 r.1.2.1) := rfl
set_option maxRecDepth 100000 in
theorem ia_wp_1_40 : (((ia_mL1.zip ia_mI1).drop 40).take 20).all (fun r => decide (r.1.2.2.2.2.1 ≤ 40) && decide (r.1.2.1 ∈ ([0, 1, 2, 3, 4, 5, 6, 7, 8, 9, 10, 11, 12, 900, 901, 903, 904, 905] : List Nat)) && decide ((parseMethodDescriptor r.1.2.2.1.desc).map (fun d => d.parameters.length) = some r.1.2.2.2.2.2.2)) = true := by decide +kernel
set_option maxRecDepth 100000 in
theorem ia_wm_2_0 : ia_wok ((((ia_mL2.zip ia_mI2).drop 0).take 20).flatMap ia_wm) := ia_wok_of rfl (by decide +kernel)
set_option maxRecDepth 100000 in
theorem ia_wn_2_0 : (((ia_mL2.zip ia_mI2).drop 0).take 20).map (fun r => r.1.2.2.1.cls) = (((ia_mL2.zip ia_mI2).drop 0).take 20).map (fun r => ia_rN0 r.1.2.1) := rfl
set_option maxRecDepth 100000 in
theorem ia_wp_2_0 : (((ia_mL2.zip ia_mI2).drop 0).take 20).all (fun r => decide (r.1.2.2.2.2.1 ≤ 40) && decide (r.1.2.1 ∈ ([0, 1, 2, 3, 4, 5, 6, 7, 8, 9, 10, 11, 12, 900, 901, 903, 904, 905] : List Nat)) && decide ((parseMethodDescriptor r.1.2.2.1.desc).map (fun d => d.parameters.length) = some r.1.2.2.2.2.2.2)) = true := by decide +kernel
set_option maxRecDepth 100000 in
theorem ia_wm_2_20 : ia_wok ((((ia_mL2.zip ia_mI2).drop 20).take 20).flatMap ia_wm) := ia_wok_of rfl (by decide +kernel)
set_option maxRecDepth 100000 in
theorem ia_wn_2_20 : (((ia_mL2.zip ia_mI2).drop 20).take 20).map (fun r => r.1.2.2.1.cls) = (((ia_mL2.zip ia_mI2).drop 20).take 20).map (fun r => ia_rN0 r.1.2.1) := rfl
set_option maxRecDepth 100000 in
theorem ia_wp_2_20 : (((ia_mL2.zip ia_mI2).drop 20).take 20).all (fun r => decide (r.1.2.2.2.2.1 ≤ 40) && decide (r.1.2.1 ∈ ([0, 1, 2, 3, 4, 5, 6, 7, 8, 9, 10, 11, 12, 900, 901, 903, 904, 905] : List Nat)) && decide ((parseMethodDescriptor r.1.2.2.1.desc).map (fun d => d.parameters.length) = some r.1.2.2.2.2.2.2)) = true := by decide +kernel
set_option maxRecDepth 100000 in
theorem ia_wm_2_40 : ia_wok ((((ia_mL2.zip ia_mI2).drop 40).take 20).flatMap ia_wm) := ia_wok_of rfl (by decide +kernel)
set_option maxRecDepth 100000 in
theorem ia_wn_2_40 : (((ia_mL2.zip ia_mI2).drop 40).take 20).map (fun r => r.1.2.2.1.cls) = (((ia_mL2.zip ia_mI2).drop 40).take 20).map (fun r => ia_rN0 r.1.2.1) := rfl
set_option maxRecDepth 100000 in
theorem ia_wp_2_40 : (((ia_mL2.zip ia_mI2).drop 40).take 20).all (fun r => decide (r.1.2.2.2.2.1 ≤ 40) && decide (r.1.2.1 ∈ ([0, 1, 2, 3, 4, 5, 6, 7, 8, 9, 10, 11, 12, 900, 901, 903, 904, 905] : List Nat)) && decide ((parseMethodDescriptor r.1.2.2.1.desc).map (fun d => d.parameters.length) = some r.1.2.2.2.2.2.2)) = true := by decide +kernel
set_option maxRecDepth 100000 in
theorem ia_wm_3_0 : ia_wok ((((ia_mL3.zip ia_mI3).drop 0).take 20).flatMap ia_wm) := ia_wok_of rfl (by decide +kernel)
set_option maxRecDepth 100000 in
theorem ia_wn_3_0 : (((ia_mL3.zip ia_mI3).drop 0).take 20).map (fun r => r.1.2.2.1.cls) = (((ia_mL3.zip ia_mI3).drop 0).take 20).map (fun r => ia_rN0 r.1.2.1) := rfl
set_option maxRecDepth 100000 in
theorem ia_wp_3_0 : (((ia_mL3.zip ia_mI3).drop 0).take 20).all (fun r => decide (r.1.2.2.2.2.1 ≤ 40) && decide (r.1.2.1 ∈ ([0, 1, 2, 3, 4, 5, 6, 7, 8, 9, 10, 11, 12, 900, 901, 903, 904, 905] : List Nat)) && decide ((parseMethodDescriptor r.1.2.2.1.desc).map (fun d => d.parameters.length) = some r.1.2.2.2.2.2.2)) = true := by decide +kernel
set_option maxRecDepth 100000 in
theorem ia_wm_3_20 : ia_wok ((((ia_mL3.zip ia_mI3).drop 20).take 20).flatMap ia_wm) := ia_wok_of rfl (by decide +kernel)
set_option maxRecDepth 100000 in
theorem ia_wn_3_20 : (((ia_mL3.zip ia_mI3).drop 20).take 20).map (fun r => r.1.2.2.1.cls) = (((ia_mL3.zip ia_mI3).drop 20).take 20).map (fun r => ia_rN0 r.1.2.1) := rfl
set_option maxRecDepth 100000 in
theorem ia_wp_3_20 : (((ia_mL3.zip ia_mI3).drop 20).take 20).all (fun r => decide (r.1.2.2.2.2.1 ≤ 40) && decide (r.1.2.1 ∈ ([0, 1, 2, 3, 4, 5, 6, 7, 8, 9, 10, 11, 12, 900, 901, 903, 904, 905] : List Nat)) && decide ((parseMethodDescriptor r.1.2.2.1.desc).map (fun d => d.parameters.length) = some r.1.2.2.2.2.2.2)) = true := by decide +kernel
set_option maxRecDepth 100000 in
theorem ia_wm_3_40 : ia_wok ((((ia_mL3.zip ia_mI3).drop 40).take 20).flatMap ia_wm) := ia_wok_of rfl (by decide +kernel)
set_option maxRecDepth 100000 in
theorem ia_wn_3_40 : (((ia_mL3.zip ia_mI3).drop 40).take 20).map (fun r => r.1.2.2.1.cls) = (((ia_mL3.zip ia_mI3).drop 40).take 20).map (fun r => ia_rN0 r.1.2.1) := rfl
set_option maxRecDepth 100000 in
theorem ia_wp_3_40 : (((ia_mL3.zip ia_mI3).drop 40).take 20).all (fun r => decide (r.1.2.2.2.2.1 ≤ 40) && decide (r.1.2.1 ∈ ([0, 1, 2, 3, 4, 5, 6, 7, 8, 9, 10, 11, 12, 900, 901, 903, 904, 905] : List Nat)) && decide ((parseMethodDescriptor r.1.2.2.1.desc).map (fun d => d.parameters.length) = some r.1.2.2.2.2.2.2)) = true := by decide +kernel
set_option maxRecDepth 100000 in
theorem ia_wm_4_0 : ia_wok ((((ia_mL4.zip ia_mI4).drop 0).take 20).flatMap ia_wm) := ia_wok_of rfl (by decide +kernel)
set_option maxRecDepth 100000 in
theorem ia_wn_4_0 : (((ia_mL4.zip ia_mI4).drop 0).take 20).map (fun r => r.1.2.2.1.cls) = (((ia_mL4.zip ia_mI4).drop 0).take 20).map (fun r => ia_rN0 r.1.2.1) := rfl
set_option maxRecDepth 100000 in
theorem ia_wp_4_0 : (((ia_mL4.zip ia_mI4).drop 0).take 20).all (fun r => decide (r.1.2.2.2.2.1 ≤ 40) && decide (r.1.2.1 ∈ ([0, 1, 2, 3, 4, 5, 6, 7, 8, 9, 10, 11, 12, 900, 901, 903, 904, 905] : List Nat)) && decide ((parseMethodDescriptor r.1.2.2.1.desc).map (fun d => d.parameters.length) = some r.1.2.2.2.2.2.2)) = true := by decide +kernel
set_option maxRecDepth 100000 in
theorem ia_wm_4_20 : ia_wok ((((ia_mL4.zip ia_mI4).drop 20).take 20).flatMap ia_wm) := ia_wok_of rfl (by decide +kernel)
set_option maxRecDepth 100000 in
theorem ia_wn_4_20 : (((ia_mL4.zip ia_mI4).drop 20).take 20).map (fun r => r.1.2.2.1.cls) = (((ia_mL4.zip ia_mI4).drop 20).take 20).map (fun r => ia_rN0 r.1.2.1) := rfl
set_option maxRecDepth 100000 in
theorem ia_wp_4_20 : (((ia_mL4.zip ia_mI4).drop 20).take 20).all (fun r => decide (r.1.2.2.2.2.1 ≤ 40) && decide (r.1.2.1 ∈ ([0, 1, 2, 3, 4, 5, 6, 7, 8, 9, 10, 11, 12, 900, 901, 903, 904, 905] : List Nat)) && decide ((parseMethodDescriptor r.1.2.2.1.desc).map (fun d => d.parameters.length) = some r.1.2.2.2.2.2.2)) = true := by decide +kernel
set_option maxRecDepth 100000 in
theorem ia_wm_4_40 : ia_wok ((((ia_mL4.zip ia_mI4).drop 40).take 20).flatMap ia_wm) := ia_wok_of rfl (by decide +kernel)
set_option maxRecDepth 100000 in
theorem ia_wn_4_40 : (((ia_mL4.zip ia_mI4).drop 40).take 20).map (fun r => r.1.2.2.1.cls) = (((ia_mL4.zip ia_mI4).drop 40).take 20).map (fun r => ia_rN0 r.1.2.1) := rfl
set_option maxRecDepth 100000 in
theorem ia_wp_4_40 : (((ia_mL4.zip ia_mI4).drop 40).take 20).all (fun r => decide (r.1.2.2.2.2.1 ≤ 40) && decide (r.1.2.1 ∈ ([0, 1, 2, 3, 4, 5, 6, 7, 8, 9, 10, 11, 12, 900, 901, 903, 904, 905] : List Nat)) && decide ((parseMethodDescriptor r.1.2.2.1.desc).map (fun d => d.parameters.length) = some r.1.2.2.2.2.2.2)) = true := by decide +kernel
def ia_mok (r : ia_mR) : Prop := ia_wok (ia_wm r) ∧ r.1.2.2.1.cls = ia_rN0 r.1.2.1 ∧ r.1.2.2.2.2.1 ≤ 40 ∧ ia_okc r.1.2.1 = true ∧ (parseMethodDescriptor r.1.2.2.1.desc).map (fun d => d.parameters.length) = some r.1.2.2.2.2.2.2
theorem ia_mok_of {l : List ia_mR} (h1 : ia_wok (l.flatMap ia_wm)) (h2 : l.map (fun r => r.1.2.2.1.cls) = l.map (fun r => ia_rN0 r.1.2.1)) (h3 : l.all (fun r => decide (r.1.2.2.2.2.1 ≤ 40) && decide (r.1.2.1 ∈ ([0, 1, 2, 3, 4, 5, 6, 7, 8, 9, 10, 11, 12, 900, 901, 903, 904, 905] : List Nat)) && decide ((parseMethodDescriptor r.1.2.2.1.desc).map (fun d => d.parameters.length) = some r.1.2.2.2.2.2.2)) = true) : ∀ r ∈ l, ia_mok r := by
  intro r hr
  have a3 := List.all_eq_true.mp h3 r hr
  simp only [Bool.and_eq_true, decide_eq_true_eq] at a3
  exact ⟨fun p hp => h1 p (List.mem_flatMap.mpr ⟨r, hr, hp⟩), List.map_inj_left.mp h2 r hr, a3.1.1, ia_okc_all _ a3.1.2, a3.2⟩
theorem ia_zip {α β : Type} : ∀ (l : List α) (m : List β), l.length = m.length → ∀ a ∈ l, ∃ b, (a, b) ∈ l.zip m
  | [], _, _, a, h => by cases h
  | x :: l, [], h, _, _ => by cases h
  | x :: l, y :: m, h, a, ha => by
    rcases List.mem_cons.mp ha with rfl | ha
    · exact ⟨y, List.mem_cons_self⟩
    · obtain ⟨b, hb⟩ := ia_zip l m (Nat.succ.inj h) a ha
      exact ⟨b, List.mem_cons_of_mem _ hb⟩
theorem ia_split {α : Type} (l : List α) (P : α → Prop) (s : Nat) (h1 : ∀ r ∈ (l.drop s).take 20, P r) (h2 : ∀ r ∈ l.drop (s + 20), P r) : ∀ r ∈ l.drop s, P r := by
  intro r hr
  rw [← List.take_append_drop 20 (l.drop s), List.drop_drop] at hr
  exact (List.mem_append.mp hr).elim (h1 r) (h2 r)
theorem ia_mall0 : ∀ r ∈ ia_mL0, ∃ i, ia_mok (r, i) := by
  intro r hr
  obtain ⟨i, hi⟩ := ia_zip _ ia_mI0 (by decide +kernel) r hr
  refine ⟨i, ?_⟩
  have h : ∀ q ∈ (ia_mL0.zip ia_mI0).drop 0, ia_mok q := by
    refine ia_split _ _ 0 (ia_mok_of ia_wm_0_0 ia_wn_0_0 ia_wp_0_0) ?_
    refine ia_split _ _ 20 (ia_mok_of ia_wm_0_20 ia_wn_0_20 ia_wp_0_20) ?_
    refine ia_split _ _ 40 (ia_mok_of ia_wm_0_40 ia_wn_0_40 ia_wp_0_40) ?_
    intro q hq
    rw [List.drop_eq_nil_of_le (by decide +kernel)] at hq
    cases hq
  exact h _ hi
theorem ia_mall1 : ∀ r ∈ ia_mL1, ∃ i, ia_mok (r, i) := by
  intro r hr
  obtain ⟨i, hi⟩ := ia_zip _ ia_mI1 (by decide +kernel) r hr
  refine ⟨i, ?_⟩
  have h : ∀ q ∈ (ia_mL1.zip ia_mI1).drop 0, ia_mok q := by
    refine ia_split _ _ 0 (ia_mok_of ia_wm_1_0 ia_wn_1_0 ia_wp_1_0) ?_
    refine ia_split _ _ 20 (ia_mok_of ia_wm_1_20 ia_wn_1_20 ia_wp_1_20) ?_
    refine ia_split _ _ 40 (ia_mok_of ia_wm_1_40 ia_wn_1_40 ia_wp_1_40) ?_
    intro q hq
    rw [List.drop_eq_nil_of_le (by decide +kernel)] at hq
    cases hq
  exact h _ hi
theorem ia_mall2 : ∀ r ∈ ia_mL2, ∃ i, ia_mok (r, i) := by
  intro r hr
  obtain ⟨i, hi⟩ := ia_zip _ ia_mI2 (by decide +kernel) r hr
  refine ⟨i, ?_⟩
  have h : ∀ q ∈ (ia_mL2.zip ia_mI2).drop 0, ia_mok q := by
    refine ia_split _ _ 0 (ia_mok_of ia_wm_2_0 ia_wn_2_0 ia_wp_2_0) ?_
    refine ia_split _ _ 20 (ia_mok_of ia_wm_2_20 ia_wn_2_20 ia_wp_2_20) ?_
    refine ia_split _ _ 40 (ia_mok_of ia_wm_2_40 ia_wn_2_40 ia_wp_2_40) ?_
    intro q hq
    rw [List.drop_eq_nil_of_le (by decide +kernel)] at hq
    cases hq
  exact h _ hi
theorem ia_mall3 : ∀ r ∈ ia_mL3, ∃ i, ia_mok (r, i) := by
  intro r hr
  obtain ⟨i, hi⟩ := ia_zip _ ia_mI3 (by decide +kernel) r hr
  refine ⟨i, ?_⟩
  have h : ∀ q ∈ (ia_mL3.zip ia_mI3).drop 0, ia_mok q := by
    refine ia_split _ _ 0 (ia_mok_of ia_wm_3_0 ia_wn_3_0 ia_wp_3_0) ?_
    refine ia_split _ _ 20 (ia_mok_of ia_wm_3_20 ia_wn_3_20 ia_wp_3_20) ?_
    refine ia_split _ _ 40 (ia_mok_of ia_wm_3_40 ia_wn_3_40 ia_wp_3_40) ?_
    intro q hq
    rw [List.drop_eq_nil_of_le (by decide +kernel)] at hq
    cases hq
  exact h _ hi
theorem ia_mall4 : ∀ r ∈ ia_mL4, ∃ i, ia_mok (r, i) := by
  intro r hr
  obtain ⟨i, hi⟩ := ia_zip _ ia_mI4 (by decide +kernel) r hr
  refine ⟨i, ?_⟩
  have h : ∀ q ∈ (ia_mL4.zip ia_mI4).drop 0, ia_mok q := by
    refine ia_split _ _ 0 (ia_mok_of ia_wm_4_0 ia_wn_4_0 ia_wp_4_0) ?_
    refine ia_split _ _ 20 (ia_mok_of ia_wm_4_20 ia_wn_4_20 ia_wp_4_20) ?_
    refine ia_split _ _ 40 (ia_mok_of ia_wm_4_40 ia_wn_4_40 ia_wp_4_40) ?_
    intro q hq
    rw [List.drop_eq_nil_of_le (by decide +kernel)] at hq
    cases hq
  exact h _ hi
theorem ia_mall : ∀ r ∈ ia_mL, ∃ i, ia_mok (r, i) := by
  intro r hr
  simp only [ia_mL, List.mem_append] at hr
  rcases hr with (((h0 | h1) | h2) | h3) | h4
  · exact ia_mall0 r h0
  · exact ia_mall1 r h1
  · exact ia_mall2 r h2
  · exact ia_mall3 r h3
  · exact ia_mall4 r h4
theorem ia_gm0 (L : Nat) (xs : Nat → Int32) (fm : Bool) : ia_gm (ia_P0 L xs fm) ia_Ts := by
  intro k own y cc nL ret np h
  have h : ia_lk ia_mL k = some (own, y, cc, nL, ret, np) := h
  obtain ⟨i, h1, h2, h3, h4, h5⟩ := ia_mall _ (ia_lk_mem _ _ _ h)
  have h2 : y.cls = ia_rN0 own := h2
  simp only [ia_okc, Bool.and_eq_true, decide_eq_true_eq] at h4
  have h6 := h1 (i, Cond.code y cc nL ret) List.mem_cons_self
  have h7 : Cond.code y cc nL ret ∈ ia_Ts := (List.mem_append.mp h6).elim id (fun q => by
    have := (List.mem_filter.mp q).2
    cases this)
  exact ⟨by rw [h2]; exact h4.1.1, h2, h7, h3, by rw [h2]; exact h4.1.2, by rw [h2]; exact h4.2, h5⟩
theorem ia_good0 (L : Nat) (xs : Nat → Int32) (fm : Bool) : ia_Good (ia_P0 L xs fm) ia_Ts ia_Xs :=
  ⟨ia_gF0 L xs fm, ia_gK0 L xs fm, ia_gC0 L xs fm, ia_gM0 L xs fm, ia_gm0 L xs fm, fun _ h => (List.mem_filter.mp h).2, fun ci q h => (ia_cls0 ci q h).2.2.2, by show vwCl.length ≤ 900; decide, ia_xok0⟩
end IJ
