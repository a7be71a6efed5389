section ZX
def f_X12_openersOf_L5 (ex : Int32 → Int32 → zS → Option (Int32 × zS)) (i1 : Int32) (i2 : Int32) : Nat → Int32 → Int32 → zS → Option (Int32 × zS)
  | 0, _, _, _ => none
  | k + 1, x3, x4, S =>
    if (S.1 41 25) ≤ x4 then
    ex x3 x4 S
    else
    zb (f_X12_opensTold x4 (-1) i1 i2 S) fun r3 S2 =>
    zl (fun (q7 : Int32) =>
    zl (x3 + q7) fun (y8 : Int32) =>
    zl (x4 + 1) fun (y9 : Int32) =>
    f_X12_openersOf_L5 ex i1 i2 k y8 y9 S2) fun J6 =>
    if r3 = 0 then
    J6 0
    else
    J6 1
def f_X12_openersOf (v1 : Int32) (v2 : Int32) (S : zS) : Option (Int32 × zS) :=
f_X12_openersOf_L5 (fun (q11 : Int32) (q12 : Int32) (S10 : zS) =>
some (q11, S10)) v1 v2 zN 0 0 S
theorem w_X12_openersOf_L5 {L : Nat} {xs : Nat → Int32} {fm : Bool} {h0 : Nat → va_E} {t : Nat × Nat × Nat} (hn1 : 64 ≤ t.1) (hn2 : t.1 ≤ 1000000) (d : Nat) {ex : Int32 → Int32 → zS → Option (Int32 × zS)} {i1 : Int32} {i2 : Int32} {R : Int32 × zS} (hex : ∀ (x3 : Int32) (x4 : Int32) (S : zS) (h : Nat → va_E), zE zDr h0 S (h, t) → ex x3 x4 S = some R → zW (ia_P0 L xs fm) ia_nx (d + 112) 12 false cX12_openersOf 5 (some .int) 40 [(0, .ref 41), (1, .int i1), (2, .int i2), (3, .int x3), (4, .int x4)] [] (h, t) (zQi zDr h0 t R)) : ∀ (k : Nat) (x3 : Int32) (x4 : Int32) (S : zS) (h : Nat → va_E), zE zDr h0 S (h, t) → f_X12_openersOf_L5 ex i1 i2 k x3 x4 S = some R → zW (ia_P0 L xs fm) ia_nx (d + 112) 12 false cX12_openersOf 5 (some .int) 5 [(0, .ref 41), (1, .int i1), (2, .int i2), (3, .int x3), (4, .int x4)] [] (h, t) (zQi zDr h0 t R) := by
  intro k
  induction k with
  | zero => intro x3 x4 S h hE hf; cases hf
  | succ k ih =>
    intro x3 x4 S h hE hf
    unfold f_X12_openersOf_L5 at hf
    refine z_iload dX12_openersOf_5 rfl ?_
    refine z_aload_n dX12_openersOf_7 rfl ?_
    refine z_getI dX12_openersOf_8 tF_12_288 hE dr_41 rfl rfl ?_
    by_cases c1 : (S.1 41 25) ≤ x4
    · have hf := zif_t hf c1
      refine z_icmp_ge_t (tgt := 40) dX12_openersOf_11 (by decide) c1 ?_
      exact zW.sub (hex x3 x4 S _ hE hf) [0, 1, 2, 3, 4] rfl rfl rfl rfl
    · have hf := zif_f hf c1
      refine z_icmp_ge_f (tgt := 40) dX12_openersOf_11 (by decide) c1 ?_
      refine z_iload_n dX12_openersOf_14 rfl ?_
      refine z_aload_n dX12_openersOf_15 rfl ?_
      refine z_iload dX12_openersOf_16 rfl ?_
      refine z_iconst (v := (-1)) dX12_openersOf_18 (by decide) ?_
      refine z_iload_n dX12_openersOf_19 rfl ?_
      refine z_iload_n dX12_openersOf_20 rfl ?_
      obtain ⟨r3, S2, k4, hf⟩ := zb_some hf
      refine z_callVi dX12_openersOf_21 tM_12_445 mt_12093 (Nat.le_of_ble_eq_true rfl) rfl rfl (z_recv hE dr_41 rfl) rfl (ia_oks_le hn1 rfl) (Nat.le_of_ble_eq_true rfl) (w_X12_opensTold hn1 hn2 (d + 0) hE k4) (fun h hE => ?_)
      obtain ⟨J6, eJ6, hf⟩ := zl_some hf
      have hJ6 : ∀ (q7 : Int32) (h : Nat → va_E), zE zDr h0 S2 (h, t) → J6 q7 = some R → zW (ia_P0 L xs fm) ia_nx (d + 112) 12 false cX12_openersOf 5 (some .int) 32 [(0, .ref 41), (1, .int i1), (2, .int i2), (3, .int x3), (4, .int x4)] [.int q7, .int x3] (h, t) (zQi zDr h0 t R) := by
        intro q7 h hE hf
        rw [eJ6] at hf
        refine z_iadd dX12_openersOf_32 ?_
        obtain ⟨y8, ey8, hf⟩ := zl_some hf
        refine z_topi ey8 ?_
        refine z_istore_n (lv' := [(3, .int y8), (0, .ref 41), (1, .int i1), (2, .int i2), (4, .int x4)]) dX12_openersOf_33 (by decide) rfl ?_
        obtain ⟨y9, ey9, hf⟩ := zl_some hf
        refine z_iincY (v := 1) (y := y9) (lv' := [(4, .int y9), (3, .int y8), (0, .ref 41), (1, .int i1), (2, .int i2)]) dX12_openersOf_34 rfl (by decide) (by decide) ey9 rfl ?_
        refine z_goto (tgt := 5) dX12_openersOf_37 (by decide) ?_
        exact zW.sub (ih y8 y9 S2 _ hE hf) [2, 3, 4, 1, 0] rfl rfl rfl rfl
      by_cases c5 : r3 = 0
      · have hf := zif_t hf c5
        refine z_if_eq_t (tgt := 31) dX12_openersOf_24 (by decide) c5 ?_
        refine z_iconst (v := 0) dX12_openersOf_31 (by decide) ?_
        exact zW.sub (hJ6 0 _ hE hf) [0, 1, 2, 3, 4] rfl rfl rfl rfl
      · have hf := zif_f hf c5
        refine z_if_eq_f (tgt := 31) dX12_openersOf_24 (by decide) c5 ?_
        refine z_iconst (v := 1) dX12_openersOf_27 (by decide) ?_
        refine z_goto (tgt := 32) dX12_openersOf_28 (by decide) ?_
        exact zW.sub (hJ6 1 _ hE hf) [0, 1, 2, 3, 4] rfl rfl rfl rfl
theorem w_X12_openersOf {L : Nat} {xs : Nat → Int32} {fm : Bool} {h0 : Nat → va_E} {t : Nat × Nat × Nat} (hn1 : 64 ≤ t.1) (hn2 : t.1 ≤ 1000000) (d : Nat) {h : Nat → va_E} {S : zS} (hE : zE zDr h0 S (h, t)) {v1 : Int32} {v2 : Int32} {R : Int32 × zS} (hf : f_X12_openersOf v1 v2 S = some R) : zC (ia_P0 L xs fm) (d + 113) 12097 [.ref 41, .int v1, .int v2] (h, t) (zQi zDr h0 t R) := by
  refine zC_of mt_12097 nn_12097 (Nat.le_of_ble_eq_true rfl) ?_
  refine zW_lv (lv' := [(0, .ref 41), (1, .int v1), (2, .int v2)]) rfl ?_
  unfold f_X12_openersOf at hf
  refine z_iconst (v := 0) dX12_openersOf_0 (by decide) ?_
  refine z_istore_n (lv' := [(3, .int 0), (0, .ref 41), (1, .int v1), (2, .int v2)]) dX12_openersOf_1 (by decide) rfl ?_
  refine z_iconst (v := 0) dX12_openersOf_2 (by decide) ?_
  refine z_istore (lv' := [(4, .int 0), (3, .int 0), (0, .ref 41), (1, .int v1), (2, .int v2)]) dX12_openersOf_3 (by decide) rfl ?_
  refine zW.sub (w_X12_openersOf_L5 hn1 hn2 d (fun q11 q12 S10 h hE hf => ?_) zN 0 0 S h hE hf) [2, 3, 4, 1, 0] rfl rfl rfl rfl
  try dsimp only at hf
  refine z_iload_n dX12_openersOf_40 rfl ?_
  have e_ := Option.some.inj hf
  subst e_
  exact z_ireturn dX12_openersOf_41 rfl ⟨h, rfl, rfl, hE⟩
def f_X12_openers (v1 : Int32) (v2 : Int32) (S : zS) : Option (Int32 × zS) :=
zl (sV S 41 0 0) fun S1 =>
zb (f_X12_isJar v1 S1) fun r3 S2 =>
if r3 = 0 then
some ((-1), S2)
else
zb (f_X12_isIn (v2.toInt64) 0 99 S2) fun r7 S6 =>
if r7 = 0 then
some ((-1), S6)
else
zb (f_X12_openersOf v1 v2 S6) fun r11 S10 =>
some (r11, S10)
theorem w_X12_openers {L : Nat} {xs : Nat → Int32} {fm : Bool} {h0 : Nat → va_E} {t : Nat × Nat × Nat} (hn1 : 64 ≤ t.1) (hn2 : t.1 ≤ 1000000) (d : Nat) {h : Nat → va_E} {S : zS} (hE : zE zDr h0 S (h, t)) {v1 : Int32} {v2 : Int32} {R : Int32 × zS} (hf : f_X12_openers v1 v2 S = some R) : zC (ia_P0 L xs fm) (d + 114) 12096 [.ref 41, .int v1, .int v2] (h, t) (zQi zDr h0 t R) := by
  refine zC_of mt_12096 nn_12096 (Nat.le_of_ble_eq_true rfl) ?_
  refine zW_lv (lv' := [(0, .ref 41), (1, .int v1), (2, .int v2)]) rfl ?_
  unfold f_X12_openers at hf
  refine z_aload_n dX12_openers_0 rfl ?_
  refine z_iconst (v := 0) dX12_openers_1 (by decide) ?_
  obtain ⟨S1, eS1, hf⟩ := zl_some hf
  refine z_putI dX12_openers_2 tF_12_93 hE dr_41 rfl rfl rfl rfl (fun h hE => ?_)
  rw [← eS1] at hE
  refine z_aload_n dX12_openers_5 rfl ?_
  refine z_iload_n dX12_openers_6 rfl ?_
  obtain ⟨r3, S2, k4, hf⟩ := zb_some hf
  refine z_callVi dX12_openers_7 tM_12_316 mt_12040 (Nat.le_of_ble_eq_true rfl) rfl rfl (z_recv hE dr_41 rfl) rfl (ia_oks_le hn1 rfl) (Nat.le_of_ble_eq_true rfl) (w_X12_isJar hn1 hn2 (d + 112) hE k4) (fun h hE => ?_)
  by_cases c5 : r3 = 0
  · have hf := zif_t hf c5
    refine z_if_eq_t (tgt := 34) dX12_openers_10 (by decide) c5 ?_
    refine z_iconst (v := (-1)) dX12_openers_34 (by decide) ?_
    have e_ := Option.some.inj hf
    subst e_
    exact z_ireturn dX12_openers_35 rfl ⟨h, rfl, rfl, hE⟩
  · have hf := zif_f hf c5
    refine z_if_eq_f (tgt := 34) dX12_openers_10 (by decide) c5 ?_
    refine z_iload_n dX12_openers_13 rfl ?_
    refine z_i2l dX12_openers_14 ?_
    refine z_lconst (v := 0) dX12_openers_15 (by decide) ?_
    refine z_ldc2 dX12_openers_16 tK_12_449 ?_
    obtain ⟨r7, S6, k8, hf⟩ := zb_some hf
    refine z_callSi dX12_openers_19 tM_12_214 (by decide) mt_12007 (Nat.le_of_ble_eq_true rfl) rfl rfl (ia_oks_le hn1 rfl) (Nat.le_of_ble_eq_true rfl) (w_X12_isIn hn1 hn2 (d + 112) hE k8) (fun h hE => ?_)
    by_cases c9 : r7 = 0
    · have hf := zif_t hf c9
      refine z_if_eq_t (tgt := 34) dX12_openers_22 (by decide) c9 ?_
      refine z_iconst (v := (-1)) dX12_openers_34 (by decide) ?_
      have e_ := Option.some.inj hf
      subst e_
      exact z_ireturn dX12_openers_35 rfl ⟨h, rfl, rfl, hE⟩
    · have hf := zif_f hf c9
      refine z_if_eq_f (tgt := 34) dX12_openers_22 (by decide) c9 ?_
      refine z_aload_n dX12_openers_25 rfl ?_
      refine z_iload_n dX12_openers_26 rfl ?_
      refine z_iload_n dX12_openers_27 rfl ?_
      obtain ⟨r11, S10, k12, hf⟩ := zb_some hf
      refine z_callVi dX12_openers_28 tM_12_451 mt_12097 (Nat.le_of_ble_eq_true rfl) rfl rfl (z_recv hE dr_41 rfl) rfl (ia_oks_le hn1 rfl) (Nat.le_of_ble_eq_true rfl) (w_X12_openersOf hn1 hn2 (d + 0) hE k12) (fun h hE => ?_)
      refine z_goto (tgt := 35) dX12_openers_31 (by decide) ?_
      have e_ := Option.some.inj hf
      subst e_
      exact z_ireturn dX12_openers_35 rfl ⟨h, rfl, rfl, hE⟩
def f_X12_factory_L43 (ex : Int32 → zS → Option (Int32 × zS)) (i1 : Int32) (i2 : Int32) (i3 : Int32) : Nat → Int32 → zS → Option (Int32 × zS)
  | 0, _, _ => none
  | k + 1, x4, S =>
    if x4 < i2 then
    ex x4 S
    else
    zb (f_X12_openersOf i1 x4 S) fun r16 S15 =>
    if (100 * r16) < ((S15.1 41 25) * i3) then
    zl (x4 + (-1)) fun (y19 : Int32) =>
    f_X12_factory_L43 ex i1 i2 i3 k y19 S15
    else
    some (x4, S15)
def f_X12_factory (v1 : Int32) (v2 : Int32) (v3 : Int32) (S : zS) : Option (Int32 × zS) :=
zl (sV S 41 0 0) fun S1 =>
zb (f_X12_isJar v1 S1) fun r3 S2 =>
if r3 = 0 then
some ((-1), S2)
else
zb (f_X12_isIn (v2.toInt64) 0 99 S2) fun r7 S6 =>
if r7 = 0 then
some ((-1), S6)
else
zb (f_X12_isIn (v3.toInt64) 0 100 S6) fun r11 S10 =>
if ¬ r11 = 0 then
f_X12_factory_L43 (fun (q21 : Int32) (S20 : zS) =>
some ((-1), S20)) v1 v2 v3 zN 99 S10
else
some ((-1), S10)
theorem w_X12_factory_L43 {L : Nat} {xs : Nat → Int32} {fm : Bool} {h0 : Nat → va_E} {t : Nat × Nat × Nat} (hn1 : 64 ≤ t.1) (hn2 : t.1 ≤ 1000000) (d : Nat) {ex : Int32 → zS → Option (Int32 × zS)} {i1 : Int32} {i2 : Int32} {i3 : Int32} {R : Int32 × zS} (hex : ∀ (x4 : Int32) (S : zS) (h : Nat → va_E), zE zDr h0 S (h, t) → ex x4 S = some R → zW (ia_P0 L xs fm) ia_nx (d + 113) 12 false cX12_factory 5 (some .int) 77 [(0, .ref 41), (1, .int i1), (2, .int i2), (3, .int i3), (4, .int x4)] [] (h, t) (zQi zDr h0 t R)) : ∀ (k : Nat) (x4 : Int32) (S : zS) (h : Nat → va_E), zE zDr h0 S (h, t) → f_X12_factory_L43 ex i1 i2 i3 k x4 S = some R → zW (ia_P0 L xs fm) ia_nx (d + 113) 12 false cX12_factory 5 (some .int) 43 [(0, .ref 41), (1, .int i1), (2, .int i2), (3, .int i3), (4, .int x4)] [] (h, t) (zQi zDr h0 t R) := by
  intro k
  induction k with
  | zero => intro x4 S h hE hf; cases hf
  | succ k ih =>
    intro x4 S h hE hf
    unfold f_X12_factory_L43 at hf
    refine z_iload dX12_factory_43 rfl ?_
    refine z_iload_n dX12_factory_45 rfl ?_
    by_cases c14 : x4 < i2
    · have hf := zif_t hf c14
      refine z_icmp_lt_t (tgt := 77) dX12_factory_46 (by decide) c14 ?_
      exact zW.sub (hex x4 S _ hE hf) [0, 1, 2, 3, 4] rfl rfl rfl rfl
    · have hf := zif_f hf c14
      refine z_icmp_lt_f (tgt := 77) dX12_factory_46 (by decide) c14 ?_
      refine z_bipush (v := 100) dX12_factory_49 (by decide) ?_
      refine z_aload_n dX12_factory_51 rfl ?_
      refine z_iload_n dX12_factory_52 rfl ?_
      refine z_iload dX12_factory_53 rfl ?_
      obtain ⟨r16, S15, k17, hf⟩ := zb_some hf
      refine z_callVi dX12_factory_55 tM_12_451 mt_12097 (Nat.le_of_ble_eq_true rfl) rfl rfl (z_recv hE dr_41 rfl) rfl (ia_oks_le hn1 rfl) (Nat.le_of_ble_eq_true rfl) (w_X12_openersOf hn1 hn2 (d + 0) hE k17) (fun h hE => ?_)
      refine z_imul dX12_factory_58 ?_
      refine z_aload_n dX12_factory_59 rfl ?_
      refine z_getI dX12_factory_60 tF_12_288 hE dr_41 rfl rfl ?_
      refine z_iload_n dX12_factory_63 rfl ?_
      refine z_imul dX12_factory_64 ?_
      by_cases c18 : (100 * r16) < ((S15.1 41 25) * i3)
      · have hf := zif_t hf c18
        refine z_icmp_lt_t (tgt := 71) dX12_factory_65 (by decide) c18 ?_
        obtain ⟨y19, ey19, hf⟩ := zl_some hf
        refine z_iincY (v := (-1)) (y := y19) (lv' := [(4, .int y19), (0, .ref 41), (1, .int i1), (2, .int i2), (3, .int i3)]) dX12_factory_71 rfl (by decide) (by decide) ey19 rfl ?_
        refine z_goto (tgt := 43) dX12_factory_74 (by decide) ?_
        exact zW.sub (ih y19 S15 _ hE hf) [1, 2, 3, 4, 0] rfl rfl rfl rfl
      · have hf := zif_f hf c18
        refine z_icmp_lt_f (tgt := 71) dX12_factory_65 (by decide) c18 ?_
        refine z_iload dX12_factory_68 rfl ?_
        have e_ := Option.some.inj hf
        subst e_
        exact z_ireturn dX12_factory_70 rfl ⟨h, rfl, rfl, hE⟩
theorem w_X12_factory {L : Nat} {xs : Nat → Int32} {fm : Bool} {h0 : Nat → va_E} {t : Nat × Nat × Nat} (hn1 : 64 ≤ t.1) (hn2 : t.1 ≤ 1000000) (d : Nat) {h : Nat → va_E} {S : zS} (hE : zE zDr h0 S (h, t)) {v1 : Int32} {v2 : Int32} {v3 : Int32} {R : Int32 × zS} (hf : f_X12_factory v1 v2 v3 S = some R) : zC (ia_P0 L xs fm) (d + 114) 12098 [.ref 41, .int v1, .int v2, .int v3] (h, t) (zQi zDr h0 t R) := by
  refine zC_of mt_12098 nn_12098 (Nat.le_of_ble_eq_true rfl) ?_
  refine zW_lv (lv' := [(0, .ref 41), (1, .int v1), (2, .int v2), (3, .int v3)]) rfl ?_
  unfold f_X12_factory at hf
  refine z_aload_n dX12_factory_0 rfl ?_
  refine z_iconst (v := 0) dX12_factory_1 (by decide) ?_
  obtain ⟨S1, eS1, hf⟩ := zl_some hf
  refine z_putI dX12_factory_2 tF_12_93 hE dr_41 rfl rfl rfl rfl (fun h hE => ?_)
  rw [← eS1] at hE
  refine z_aload_n dX12_factory_5 rfl ?_
  refine z_iload_n dX12_factory_6 rfl ?_
  obtain ⟨r3, S2, k4, hf⟩ := zb_some hf
  refine z_callVi dX12_factory_7 tM_12_316 mt_12040 (Nat.le_of_ble_eq_true rfl) rfl rfl (z_recv hE dr_41 rfl) rfl (ia_oks_le hn1 rfl) (Nat.le_of_ble_eq_true rfl) (w_X12_isJar hn1 hn2 (d + 112) hE k4) (fun h hE => ?_)
  by_cases c5 : r3 = 0
  · have hf := zif_t hf c5
    refine z_if_eq_t (tgt := 37) dX12_factory_10 (by decide) c5 ?_
    refine z_iconst (v := (-1)) dX12_factory_37 (by decide) ?_
    have e_ := Option.some.inj hf
    subst e_
    exact z_ireturn dX12_factory_38 rfl ⟨h, rfl, rfl, hE⟩
  · have hf := zif_f hf c5
    refine z_if_eq_f (tgt := 37) dX12_factory_10 (by decide) c5 ?_
    refine z_iload_n dX12_factory_13 rfl ?_
    refine z_i2l dX12_factory_14 ?_
    refine z_lconst (v := 0) dX12_factory_15 (by decide) ?_
    refine z_ldc2 dX12_factory_16 tK_12_449 ?_
    obtain ⟨r7, S6, k8, hf⟩ := zb_some hf
    refine z_callSi dX12_factory_19 tM_12_214 (by decide) mt_12007 (Nat.le_of_ble_eq_true rfl) rfl rfl (ia_oks_le hn1 rfl) (Nat.le_of_ble_eq_true rfl) (w_X12_isIn hn1 hn2 (d + 112) hE k8) (fun h hE => ?_)
    by_cases c9 : r7 = 0
    · have hf := zif_t hf c9
      refine z_if_eq_t (tgt := 37) dX12_factory_22 (by decide) c9 ?_
      refine z_iconst (v := (-1)) dX12_factory_37 (by decide) ?_
      have e_ := Option.some.inj hf
      subst e_
      exact z_ireturn dX12_factory_38 rfl ⟨h, rfl, rfl, hE⟩
    · have hf := zif_f hf c9
      refine z_if_eq_f (tgt := 37) dX12_factory_22 (by decide) c9 ?_
      refine z_iload_n dX12_factory_25 rfl ?_
      refine z_i2l dX12_factory_26 ?_
      refine z_lconst (v := 0) dX12_factory_27 (by decide) ?_
      refine z_ldc2 dX12_factory_28 tK_12_454 ?_
      obtain ⟨r11, S10, k12, hf⟩ := zb_some hf
      refine z_callSi dX12_factory_31 tM_12_214 (by decide) mt_12007 (Nat.le_of_ble_eq_true rfl) rfl rfl (ia_oks_le hn1 rfl) (Nat.le_of_ble_eq_true rfl) (w_X12_isIn hn1 hn2 (d + 112) hE k12) (fun h hE => ?_)
      by_cases c13 : ¬ r11 = 0
      · have hf := zif_t hf c13
        refine z_if_ne_t (tgt := 39) dX12_factory_34 (by decide) c13 ?_
        refine z_bipush (v := 99) dX12_factory_39 (by decide) ?_
        refine z_istore (lv' := [(4, .int 99), (0, .ref 41), (1, .int v1), (2, .int v2), (3, .int v3)]) dX12_factory_41 (by decide) rfl ?_
        refine zW.sub (w_X12_factory_L43 hn1 hn2 d (fun q21 S20 h hE hf => ?_) zN 99 S10 h hE hf) [1, 2, 3, 4, 0] rfl rfl rfl rfl
        try dsimp only at hf
        refine z_iconst (v := (-1)) dX12_factory_77 (by decide) ?_
        have e_ := Option.some.inj hf
        subst e_
        exact z_ireturn dX12_factory_78 rfl ⟨h, rfl, rfl, hE⟩
      · have hf := zif_f hf c13
        refine z_if_ne_f (tgt := 39) dX12_factory_34 (by decide) c13 ?_
        refine z_iconst (v := (-1)) dX12_factory_37 (by decide) ?_
        have e_ := Option.some.inj hf
        subst e_
        exact z_ireturn dX12_factory_38 rfl ⟨h, rfl, rfl, hE⟩
def f_X12_tried (v1 : Int32) (v2 : Int32) (S : zS) : Option (Int32 × zS) :=
zl (sV S 41 0 0) fun S1 =>
zb (f_X12_isIn (v1.toInt64) 0 999 S1) fun r3 S2 =>
if r3 = 0 then
some ((-1), S2)
else
if (S2.1 41 50) = 20 then
some ((-1), S2)
else
zl (fun (u9 : Unit) =>
if ia_in (S2.1 41 50) 20 = true then
zl (sV S2 60 ((S2.1 41 50).toNatClampNeg) v1) fun S11 =>
if ia_in (S11.1 41 50) 20 = true then
zl (sV S11 61 ((S11.1 41 50).toNatClampNeg) (vp_nar .boolean v2)) fun S13 =>
zl (sV S13 41 50 ((S13.1 41 50) + 1)) fun S14 =>
some (S14.1 41 50, S14)
else none
else none) fun J8 =>
if (S2.1 41 50) ≤ 0 then
J8 ()
else
if ia_in ((S2.1 41 50) - 1) 20 = true then
if (S2.1 61 ((S2.1 41 50) - 1).toNatClampNeg) = 0 then
J8 ()
else
some ((-1), S2)
else none
theorem w_X12_tried {L : Nat} {xs : Nat → Int32} {fm : Bool} {h0 : Nat → va_E} {t : Nat × Nat × Nat} (hn1 : 64 ≤ t.1) (hn2 : t.1 ≤ 1000000) (d : Nat) {h : Nat → va_E} {S : zS} (hE : zE zDr h0 S (h, t)) {v1 : Int32} {v2 : Int32} {R : Int32 × zS} (hf : f_X12_tried v1 v2 S = some R) : zC (ia_P0 L xs fm) (d + 2) 12099 [.ref 41, .int v1, .int v2] (h, t) (zQi zDr h0 t R) := by
  refine zC_of mt_12099 nn_12099 (Nat.le_of_ble_eq_true rfl) ?_
  refine zW_lv (lv' := [(0, .ref 41), (1, .int v1), (2, .int v2)]) rfl ?_
  unfold f_X12_tried at hf
  refine z_aload_n dX12_tried_0 rfl ?_
  refine z_iconst (v := 0) dX12_tried_1 (by decide) ?_
  obtain ⟨S1, eS1, hf⟩ := zl_some hf
  refine z_putI dX12_tried_2 tF_12_93 hE dr_41 rfl rfl rfl rfl (fun h hE => ?_)
  rw [← eS1] at hE
  refine z_iload_n dX12_tried_5 rfl ?_
  refine z_i2l dX12_tried_6 ?_
  refine z_lconst (v := 0) dX12_tried_7 (by decide) ?_
  refine z_ldc2 dX12_tried_8 tK_12_456 ?_
  obtain ⟨r3, S2, k4, hf⟩ := zb_some hf
  refine z_callSi dX12_tried_11 tM_12_214 (by decide) mt_12007 (Nat.le_of_ble_eq_true rfl) rfl rfl (ia_oks_le hn1 rfl) (Nat.le_of_ble_eq_true rfl) (w_X12_isIn hn1 hn2 (d + 0) hE k4) (fun h hE => ?_)
  by_cases c5 : r3 = 0
  · have hf := zif_t hf c5
    refine z_if_eq_t (tgt := 47) dX12_tried_14 (by decide) c5 ?_
    refine z_iconst (v := (-1)) dX12_tried_47 (by decide) ?_
    have e_ := Option.some.inj hf
    subst e_
    exact z_ireturn dX12_tried_48 rfl ⟨h, rfl, rfl, hE⟩
  · have hf := zif_f hf c5
    refine z_if_eq_f (tgt := 47) dX12_tried_14 (by decide) c5 ?_
    refine z_aload_n dX12_tried_17 rfl ?_
    refine z_getI dX12_tried_18 tF_12_294 hE dr_41 rfl rfl ?_
    refine z_bipush (v := 20) dX12_tried_21 (by decide) ?_
    by_cases c6 : (S2.1 41 50) = 20
    · have hf := zif_t hf c6
      refine z_icmp_eq_t (tgt := 47) dX12_tried_23 (by decide) c6 ?_
      refine z_iconst (v := (-1)) dX12_tried_47 (by decide) ?_
      have e_ := Option.some.inj hf
      subst e_
      exact z_ireturn dX12_tried_48 rfl ⟨h, rfl, rfl, hE⟩
    · have hf := zif_f hf c6
      refine z_icmp_eq_f (tgt := 47) dX12_tried_23 (by decide) c6 ?_
      refine z_aload_n dX12_tried_26 rfl ?_
      refine z_getI dX12_tried_27 tF_12_294 hE dr_41 rfl rfl ?_
      obtain ⟨J8, eJ8, hf⟩ := zl_some hf
      have hJ8 : ∀ (u9 : Unit) (h : Nat → va_E), zE zDr h0 S2 (h, t) → J8 u9 = some R → zW (ia_P0 L xs fm) ia_nx (d + 1) 12 false cX12_tried 3 (some .int) 49 [(0, .ref 41), (1, .int v1), (2, .int v2)] [] (h, t) (zQi zDr h0 t R) := by
        intro u9 h hE hf
        rw [eJ8] at hf
        refine z_aload_n dX12_tried_49 rfl ?_
        refine z_getC dX12_tried_50 tF_12_83 hE dr_41 rfl rfl ?_
        refine z_aload_n dX12_tried_53 rfl ?_
        refine z_getI dX12_tried_54 tF_12_294 hE dr_41 rfl rfl ?_
        refine z_iload_n dX12_tried_57 rfl ?_
        obtain ⟨b10, hf⟩ := zchk hf
        obtain ⟨S11, eS11, hf⟩ := zl_some hf
        refine z_iastoreL (i := (S2.1 41 50).toNatClampNeg) dX12_tried_58 hE dr_60 b10 rfl (fun h hE => ?_)
        rw [← eS11] at hE
        refine z_aload_n dX12_tried_59 rfl ?_
        refine z_getC dX12_tried_60 tF_12_86 hE dr_41 rfl rfl ?_
        refine z_aload_n dX12_tried_63 rfl ?_
        refine z_getI dX12_tried_64 tF_12_294 hE dr_41 rfl rfl ?_
        refine z_iload_n dX12_tried_67 rfl ?_
        obtain ⟨b12, hf⟩ := zchk hf
        obtain ⟨S13, eS13, hf⟩ := zl_some hf
        refine z_zastore dX12_tried_68 hE dr_61 b12 (fun h hE => ?_)
        rw [← eS13] at hE
        refine z_aload_n dX12_tried_69 rfl ?_
        refine z_dup dX12_tried_70 rfl ?_
        refine z_getI dX12_tried_71 tF_12_294 hE dr_41 rfl rfl ?_
        refine z_iconst (v := 1) dX12_tried_74 (by decide) ?_
        refine z_iadd dX12_tried_75 ?_
        obtain ⟨S14, eS14, hf⟩ := zl_some hf
        refine z_putI dX12_tried_76 tF_12_294 hE dr_41 rfl rfl rfl rfl (fun h hE => ?_)
        rw [← eS14] at hE
        refine z_aload_n dX12_tried_79 rfl ?_
        refine z_getI dX12_tried_80 tF_12_294 hE dr_41 rfl rfl ?_
        have e_ := Option.some.inj hf
        subst e_
        exact z_ireturn dX12_tried_83 rfl ⟨h, rfl, rfl, hE⟩
      by_cases c7 : (S2.1 41 50) ≤ 0
      · have hf := zif_t hf c7
        refine z_if_le_t (tgt := 49) dX12_tried_30 (by decide) c7 ?_
        exact zW.sub (hJ8 () _ hE hf) [0, 1, 2] rfl rfl rfl rfl
      · have hf := zif_f hf c7
        refine z_if_le_f (tgt := 49) dX12_tried_30 (by decide) c7 ?_
        refine z_aload_n dX12_tried_33 rfl ?_
        refine z_getC dX12_tried_34 tF_12_86 hE dr_41 rfl rfl ?_
        refine z_aload_n dX12_tried_37 rfl ?_
        refine z_getI dX12_tried_38 tF_12_294 hE dr_41 rfl rfl ?_
        refine z_iconst (v := 1) dX12_tried_41 (by decide) ?_
        refine z_isub dX12_tried_42 ?_
        obtain ⟨b15, hf⟩ := zchk hf
        refine z_zaload dX12_tried_43 hE dr_61 b15 ?_
        by_cases c16 : (S2.1 61 ((S2.1 41 50) - 1).toNatClampNeg) = 0
        · have hf := zif_t hf c16
          refine z_if_eq_t (tgt := 49) dX12_tried_44 (by decide) c16 ?_
          exact zW.sub (hJ8 () _ hE hf) [0, 1, 2] rfl rfl rfl rfl
        · have hf := zif_f hf c16
          refine z_if_eq_f (tgt := 49) dX12_tried_44 (by decide) c16 ?_
          refine z_iconst (v := (-1)) dX12_tried_47 (by decide) ?_
          have e_ := Option.some.inj hf
          subst e_
          exact z_ireturn dX12_tried_48 rfl ⟨h, rfl, rfl, hE⟩
def f_X12_forgive  (S : zS) : Option (Int32 × zS) :=
zl (sV S 41 0 0) fun S1 =>
if ¬ (S1.1 41 50) = 0 then
zl (sV S1 41 50 0) fun S3 =>
some (1, S3)
else
some (0, S1)
theorem w_X12_forgive {L : Nat} {xs : Nat → Int32} {fm : Bool} {h0 : Nat → va_E} {t : Nat × Nat × Nat} (hn1 : 64 ≤ t.1) (hn2 : t.1 ≤ 1000000) (d : Nat) {h : Nat → va_E} {S : zS} (hE : zE zDr h0 S (h, t)) {R : Int32 × zS} (hf : f_X12_forgive  S = some R) : zC (ia_P0 L xs fm) (d + 1) 12100 [.ref 41] (h, t) (zQi zDr h0 t R) := by
  refine zC_of mt_12100 nn_12100 (Nat.le_of_ble_eq_true rfl) ?_
  refine zW_lv (lv' := [(0, .ref 41)]) rfl ?_
  unfold f_X12_forgive at hf
  refine z_aload_n dX12_forgive_0 rfl ?_
  refine z_iconst (v := 0) dX12_forgive_1 (by decide) ?_
  obtain ⟨S1, eS1, hf⟩ := zl_some hf
  refine z_putI dX12_forgive_2 tF_12_93 hE dr_41 rfl rfl rfl rfl (fun h hE => ?_)
  rw [← eS1] at hE
  refine z_aload_n dX12_forgive_5 rfl ?_
  refine z_getI dX12_forgive_6 tF_12_294 hE dr_41 rfl rfl ?_
  by_cases c2 : ¬ (S1.1 41 50) = 0
  · have hf := zif_t hf c2
    refine z_if_ne_t (tgt := 14) dX12_forgive_9 (by decide) c2 ?_
    refine z_aload_n dX12_forgive_14 rfl ?_
    refine z_iconst (v := 0) dX12_forgive_15 (by decide) ?_
    obtain ⟨S3, eS3, hf⟩ := zl_some hf
    refine z_putI dX12_forgive_16 tF_12_294 hE dr_41 rfl rfl rfl rfl (fun h hE => ?_)
    rw [← eS3] at hE
    refine z_iconst (v := 1) dX12_forgive_19 (by decide) ?_
    have e_ := Option.some.inj hf
    subst e_
    exact z_zreturn dX12_forgive_20 rfl (by decide) ⟨h, rfl, rfl, hE⟩
  · have hf := zif_f hf c2
    refine z_if_ne_f (tgt := 14) dX12_forgive_9 (by decide) c2 ?_
    refine z_iconst (v := 0) dX12_forgive_12 (by decide) ?_
    have e_ := Option.some.inj hf
    subst e_
    exact z_zreturn dX12_forgive_13 rfl (by decide) ⟨h, rfl, rfl, hE⟩
def f_X12_leftOf_L4 (ex : Int32 → Int32 → zS → Option (Int32 × zS)) (i1 : Int32) : Nat → Int32 → Int32 → zS → Option (Int32 × zS)
  | 0, _, _, _ => none
  | k + 1, x2, x3, S =>
    if (S.1 41 50) ≤ x3 then
    ex x2 x3 S
    else
    if ia_in x3 20 = true then
    if ia_in x3 20 = true then
    zl (fun (q6 : Int32) =>
    if (S.1 61 x3.toNatClampNeg) = q6 then
    if ia_in x3 20 = true then
    zl (fun (q11 : Int32) =>
    zl (x3 + 1) fun (y12 : Int32) =>
    f_X12_leftOf_L4 ex i1 k q11 y12 S) fun J10 =>
    if ¬ (S.1 61 x3.toNatClampNeg) = 0 then
    J10 x2
    else
    if ia_in x3 20 = true then
    zl (if 0 < (x2 - ((S.1 60 x3.toNatClampNeg) / 10)) then (x2 - ((S.1 60 x3.toNatClampNeg) / 10)) else 0) fun (y14 : Int32) =>
    J10 y14
    else none
    else none
    else
    some ((-1), S)) fun J5 =>
    if (S.1 60 x3.toNatClampNeg) < x2 then
    J5 0
    else
    J5 1
    else none
    else none
def f_X12_leftOf (v1 : Int32) (S : zS) : Option (Int32 × zS) :=
f_X12_leftOf_L4 (fun (q16 : Int32) (q17 : Int32) (S15 : zS) =>
some (q16, S15)) v1 zN v1 0 S
theorem w_X12_leftOf_L4 {L : Nat} {xs : Nat → Int32} {fm : Bool} {h0 : Nat → va_E} {t : Nat × Nat × Nat} (hn1 : 64 ≤ t.1) (hn2 : t.1 ≤ 1000000) (d : Nat) {ex : Int32 → Int32 → zS → Option (Int32 × zS)} {i1 : Int32} {R : Int32 × zS} (hex : ∀ (x2 : Int32) (x3 : Int32) (S : zS) (h : Nat → va_E), zE zDr h0 S (h, t) → ex x2 x3 S = some R → zW (ia_P0 L xs fm) ia_nx (d + 0) 12 false cX12_leftOf 4 (some .int) 69 [(0, .ref 41), (1, .int i1), (2, .int x2), (3, .int x3)] [] (h, t) (zQi zDr h0 t R)) : ∀ (k : Nat) (x2 : Int32) (x3 : Int32) (S : zS) (h : Nat → va_E), zE zDr h0 S (h, t) → f_X12_leftOf_L4 ex i1 k x2 x3 S = some R → zW (ia_P0 L xs fm) ia_nx (d + 0) 12 false cX12_leftOf 4 (some .int) 4 [(0, .ref 41), (1, .int i1), (2, .int x2), (3, .int x3)] [] (h, t) (zQi zDr h0 t R) := by
  intro k
  induction k with
  | zero => intro x2 x3 S h hE hf; cases hf
  | succ k ih =>
    intro x2 x3 S h hE hf
    unfold f_X12_leftOf_L4 at hf
    refine z_iload_n dX12_leftOf_4 rfl ?_
    refine z_aload_n dX12_leftOf_5 rfl ?_
    refine z_getI dX12_leftOf_6 tF_12_294 hE dr_41 rfl rfl ?_
    by_cases c1 : (S.1 41 50) ≤ x3
    · have hf := zif_t hf c1
      refine z_icmp_ge_t (tgt := 69) dX12_leftOf_9 (by decide) c1 ?_
      exact zW.sub (hex x2 x3 S _ hE hf) [0, 1, 2, 3] rfl rfl rfl rfl
    · have hf := zif_f hf c1
      refine z_icmp_ge_f (tgt := 69) dX12_leftOf_9 (by decide) c1 ?_
      refine z_aload_n dX12_leftOf_12 rfl ?_
      refine z_getC dX12_leftOf_13 tF_12_86 hE dr_41 rfl rfl ?_
      refine z_iload_n dX12_leftOf_16 rfl ?_
      obtain ⟨b2, hf⟩ := zchk hf
      refine z_zaload dX12_leftOf_17 hE dr_61 b2 ?_
      refine z_aload_n dX12_leftOf_18 rfl ?_
      refine z_getC dX12_leftOf_19 tF_12_83 hE dr_41 rfl rfl ?_
      refine z_iload_n dX12_leftOf_22 rfl ?_
      obtain ⟨b3, hf⟩ := zchk hf
      refine z_ialoadL dX12_leftOf_23 hE dr_60 b3 rfl ?_
      refine z_iload_n dX12_leftOf_24 rfl ?_
      obtain ⟨J5, eJ5, hf⟩ := zl_some hf
      have hJ5 : ∀ (q6 : Int32) (h : Nat → va_E), zE zDr h0 S (h, t) → J5 q6 = some R → zW (ia_P0 L xs fm) ia_nx (d + 0) 12 false cX12_leftOf 4 (some .int) 33 [(0, .ref 41), (1, .int i1), (2, .int x2), (3, .int x3)] [.int q6, .int (S.1 61 x3.toNatClampNeg)] (h, t) (zQi zDr h0 t R) := by
        intro q6 h hE hf
        rw [eJ5] at hf
        by_cases c7 : (S.1 61 x3.toNatClampNeg) = q6
        · have hf := zif_t hf c7
          refine z_icmp_eq_t (tgt := 38) dX12_leftOf_33 (by decide) c7 ?_
          refine z_aload_n dX12_leftOf_38 rfl ?_
          refine z_getC dX12_leftOf_39 tF_12_86 hE dr_41 rfl rfl ?_
          refine z_iload_n dX12_leftOf_42 rfl ?_
          obtain ⟨b8, hf⟩ := zchk hf
          refine z_zaload dX12_leftOf_43 hE dr_61 b8 ?_
          obtain ⟨J10, eJ10, hf⟩ := zl_some hf
          have hJ10 : ∀ (q11 : Int32) (h : Nat → va_E), zE zDr h0 S (h, t) → J10 q11 = some R → zW (ia_P0 L xs fm) ia_nx (d + 0) 12 false cX12_leftOf 4 (some .int) 63 [(0, .ref 41), (1, .int i1), (2, .int q11), (3, .int x3)] [] (h, t) (zQi zDr h0 t R) := by
            intro q11 h hE hf
            rw [eJ10] at hf
            obtain ⟨y12, ey12, hf⟩ := zl_some hf
            refine z_iincY (v := 1) (y := y12) (lv' := [(3, .int y12), (0, .ref 41), (1, .int i1), (2, .int q11)]) dX12_leftOf_63 rfl (by decide) (by decide) ey12 rfl ?_
            refine z_goto (tgt := 4) dX12_leftOf_66 (by decide) ?_
            exact zW.sub (ih q11 y12 S _ hE hf) [1, 2, 3, 0] rfl rfl rfl rfl
          by_cases c9 : ¬ (S.1 61 x3.toNatClampNeg) = 0
          · have hf := zif_t hf c9
            refine z_if_ne_t (tgt := 63) dX12_leftOf_44 (by decide) c9 ?_
            exact zW.sub (hJ10 x2 _ hE hf) [0, 1, 2, 3] rfl rfl rfl rfl
          · have hf := zif_f hf c9
            refine z_if_ne_f (tgt := 63) dX12_leftOf_44 (by decide) c9 ?_
            refine z_iconst (v := 0) dX12_leftOf_47 (by decide) ?_
            refine z_iload_n dX12_leftOf_48 rfl ?_
            refine z_aload_n dX12_leftOf_49 rfl ?_
            refine z_getC dX12_leftOf_50 tF_12_83 hE dr_41 rfl rfl ?_
            refine z_iload_n dX12_leftOf_53 rfl ?_
            obtain ⟨b13, hf⟩ := zchk hf
            refine z_ialoadL dX12_leftOf_54 hE dr_60 b13 rfl ?_
            refine z_bipush (v := 10) dX12_leftOf_55 (by decide) ?_
            refine z_idiv dX12_leftOf_57 (by decide) ?_
            refine z_isub dX12_leftOf_58 ?_
            refine z_mmax dX12_leftOf_59 tM_12_308 (Nat.le_of_ble_eq_true rfl) ?_
            obtain ⟨y14, ey14, hf⟩ := zl_some hf
            refine z_topi ey14 ?_
            refine z_istore_n (lv' := [(2, .int y14), (0, .ref 41), (1, .int i1), (3, .int x3)]) dX12_leftOf_62 (by decide) rfl ?_
            exact zW.sub (hJ10 y14 _ hE hf) [1, 2, 0, 3] rfl rfl rfl rfl
        · have hf := zif_f hf c7
          refine z_icmp_eq_f (tgt := 38) dX12_leftOf_33 (by decide) c7 ?_
          refine z_iconst (v := (-1)) dX12_leftOf_36 (by decide) ?_
          have e_ := Option.some.inj hf
          subst e_
          exact z_ireturn dX12_leftOf_37 rfl ⟨h, rfl, rfl, hE⟩
      by_cases c4 : (S.1 60 x3.toNatClampNeg) < x2
      · have hf := zif_t hf c4
        refine z_icmp_lt_t (tgt := 32) dX12_leftOf_25 (by decide) c4 ?_
        refine z_iconst (v := 0) dX12_leftOf_32 (by decide) ?_
        exact zW.sub (hJ5 0 _ hE hf) [0, 1, 2, 3] rfl rfl rfl rfl
      · have hf := zif_f hf c4
        refine z_icmp_lt_f (tgt := 32) dX12_leftOf_25 (by decide) c4 ?_
        refine z_iconst (v := 1) dX12_leftOf_28 (by decide) ?_
        refine z_goto (tgt := 33) dX12_leftOf_29 (by decide) ?_
        exact zW.sub (hJ5 1 _ hE hf) [0, 1, 2, 3] rfl rfl rfl rfl
theorem w_X12_leftOf {L : Nat} {xs : Nat → Int32} {fm : Bool} {h0 : Nat → va_E} {t : Nat × Nat × Nat} (hn1 : 64 ≤ t.1) (hn2 : t.1 ≤ 1000000) (d : Nat) {h : Nat → va_E} {S : zS} (hE : zE zDr h0 S (h, t)) {v1 : Int32} {R : Int32 × zS} (hf : f_X12_leftOf v1 S = some R) : zC (ia_P0 L xs fm) (d + 1) 12102 [.ref 41, .int v1] (h, t) (zQi zDr h0 t R) := by
  refine zC_of mt_12102 nn_12102 (Nat.le_of_ble_eq_true rfl) ?_
  refine zW_lv (lv' := [(0, .ref 41), (1, .int v1)]) rfl ?_
  unfold f_X12_leftOf at hf
  refine z_iload_n dX12_leftOf_0 rfl ?_
  refine z_istore_n (lv' := [(2, .int v1), (0, .ref 41), (1, .int v1)]) dX12_leftOf_1 (by decide) rfl ?_
  refine z_iconst (v := 0) dX12_leftOf_2 (by decide) ?_
  refine z_istore_n (lv' := [(3, .int 0), (2, .int v1), (0, .ref 41), (1, .int v1)]) dX12_leftOf_3 (by decide) rfl ?_
  refine zW.sub (w_X12_leftOf_L4 hn1 hn2 d (fun q16 q17 S15 h hE hf => ?_) zN v1 0 S h hE hf) [2, 3, 1, 0] rfl rfl rfl rfl
  try dsimp only at hf
  refine z_iload_n dX12_leftOf_69 rfl ?_
  have e_ := Option.some.inj hf
  subst e_
  exact z_ireturn dX12_leftOf_70 rfl ⟨h, rfl, rfl, hE⟩
def f_X12_tight_L31 (ex : Int32 → Int32 → Int32 → Int32 → zS → Option (Int32 × zS)) (i1 : Int32) : Nat → Int32 → Int32 → Int32 → Int32 → zS → Option (Int32 × zS)
  | 0, _, _, _, _, _ => none
  | k + 1, x2, x3, x4, x5, S =>
    if 300 < x5 then
    ex x2 x3 x4 x5 S
    else
    zb (f_X12_leftOf x5 S) fun r8 S7 =>
    zl (fun (q12 : Int32) (q13 : Int32) (q14 : Int32) =>
    zl (x5 + 1) fun (y15 : Int32) =>
    f_X12_tight_L31 ex i1 k q12 q13 q14 y15 S7) fun J11 =>
    if ¬ r8 = (-1) then
    zl (x2 + 1) fun (y16 : Int32) =>
    zl (fun (q19 : Int32) =>
    J11 y16 q19 x5) fun J18 =>
    if ¬ x3 = (-1) then
    J18 x3
    else
    J18 x5
    else
    J11 x2 x3 x4
def f_X12_tight (v1 : Int32) (S : zS) : Option (Int32 × zS) :=
zl (sV S 41 0 0) fun S1 =>
zb (f_X12_isIn (v1.toInt64) 0 2 S1) fun r3 S2 =>
if ¬ r3 = 0 then
f_X12_tight_L31 (fun (q21 : Int32) (q22 : Int32) (q23 : Int32) (q24 : Int32) (S20 : zS) =>
if ¬ v1 = 0 then
if ¬ v1 = 1 then
some (q23, S20)
else
some (q22, S20)
else
some (q21, S20)) v1 zN 0 (-1) (-1) 0 S2
else
some ((-1000000), S2)
theorem w_X12_tight_L31 {L : Nat} {xs : Nat → Int32} {fm : Bool} {h0 : Nat → va_E} {t : Nat × Nat × Nat} (hn1 : 64 ≤ t.1) (hn2 : t.1 ≤ 1000000) (d : Nat) {ex : Int32 → Int32 → Int32 → Int32 → zS → Option (Int32 × zS)} {i1 : Int32} {R : Int32 × zS} (hex : ∀ (x2 : Int32) (x3 : Int32) (x4 : Int32) (x5 : Int32) (S : zS) (h : Nat → va_E), zE zDr h0 S (h, t) → ex x2 x3 x4 x5 S = some R → zW (ia_P0 L xs fm) ia_nx (d + 1) 12 false cX12_tight 6 (some .int) 77 [(0, .ref 41), (1, .int i1), (2, .int x2), (3, .int x3), (4, .int x4), (5, .int x5)] [] (h, t) (zQi zDr h0 t R)) : ∀ (k : Nat) (x2 : Int32) (x3 : Int32) (x4 : Int32) (x5 : Int32) (S : zS) (h : Nat → va_E), zE zDr h0 S (h, t) → f_X12_tight_L31 ex i1 k x2 x3 x4 x5 S = some R → zW (ia_P0 L xs fm) ia_nx (d + 1) 12 false cX12_tight 6 (some .int) 31 [(0, .ref 41), (1, .int i1), (2, .int x2), (3, .int x3), (4, .int x4), (5, .int x5)] [] (h, t) (zQi zDr h0 t R) := by
  intro k
  induction k with
  | zero => intro x2 x3 x4 x5 S h hE hf; cases hf
  | succ k ih =>
    intro x2 x3 x4 x5 S h hE hf
    unfold f_X12_tight_L31 at hf
    refine z_iload dX12_tight_31 rfl ?_
    refine z_sipush (v := 300) dX12_tight_33 (by decide) ?_
    by_cases c6 : 300 < x5
    · have hf := zif_t hf c6
      refine z_icmp_gt_t (tgt := 77) dX12_tight_36 (by decide) c6 ?_
      exact zW.sub (hex x2 x3 x4 x5 S _ hE hf) [0, 1, 2, 3, 4, 5] rfl rfl rfl rfl
    · have hf := zif_f hf c6
      refine z_icmp_gt_f (tgt := 77) dX12_tight_36 (by decide) c6 ?_
      refine z_aload_n dX12_tight_39 rfl ?_
      refine z_iload dX12_tight_40 rfl ?_
      obtain ⟨r8, S7, k9, hf⟩ := zb_some hf
      refine z_callVi dX12_tight_42 tM_12_458 mt_12102 (Nat.le_of_ble_eq_true rfl) rfl rfl (z_recv hE dr_41 rfl) rfl (ia_oks_le hn1 rfl) (Nat.le_of_ble_eq_true rfl) (w_X12_leftOf hn1 hn2 (d + 0) hE k9) (fun h hE => ?_)
      refine z_iconst (v := (-1)) dX12_tight_45 (by decide) ?_
      obtain ⟨J11, eJ11, hf⟩ := zl_some hf
      have hJ11 : ∀ (q12 : Int32) (q13 : Int32) (q14 : Int32) (h : Nat → va_E), zE zDr h0 S7 (h, t) → J11 q12 q13 q14 = some R → zW (ia_P0 L xs fm) ia_nx (d + 1) 12 false cX12_tight 6 (some .int) 71 [(0, .ref 41), (1, .int i1), (2, .int q12), (3, .int q13), (4, .int q14), (5, .int x5)] [] (h, t) (zQi zDr h0 t R) := by
        intro q12 q13 q14 h hE hf
        rw [eJ11] at hf
        obtain ⟨y15, ey15, hf⟩ := zl_some hf
        refine z_iincY (v := 1) (y := y15) (lv' := [(5, .int y15), (0, .ref 41), (1, .int i1), (2, .int q12), (3, .int q13), (4, .int q14)]) dX12_tight_71 rfl (by decide) (by decide) ey15 rfl ?_
        refine z_goto (tgt := 31) dX12_tight_74 (by decide) ?_
        exact zW.sub (ih q12 q13 q14 y15 S7 _ hE hf) [1, 2, 3, 4, 5, 0] rfl rfl rfl rfl
      by_cases c10 : ¬ r8 = (-1)
      · have hf := zif_t hf c10
        refine z_icmp_ne_t (tgt := 52) dX12_tight_46 (by decide) c10 ?_
        obtain ⟨y16, ey16, hf⟩ := zl_some hf
        refine z_iincY (v := 1) (y := y16) (lv' := [(2, .int y16), (0, .ref 41), (1, .int i1), (3, .int x3), (4, .int x4), (5, .int x5)]) dX12_tight_52 rfl (by decide) (by decide) ey16 rfl ?_
        refine z_iload_n dX12_tight_55 rfl ?_
        refine z_iconst (v := (-1)) dX12_tight_56 (by decide) ?_
        obtain ⟨J18, eJ18, hf⟩ := zl_some hf
        have hJ18 : ∀ (q19 : Int32) (h : Nat → va_E), zE zDr h0 S7 (h, t) → J18 q19 = some R → zW (ia_P0 L xs fm) ia_nx (d + 1) 12 false cX12_tight 6 (some .int) 66 [(0, .ref 41), (1, .int i1), (2, .int y16), (3, .int x3), (4, .int x4), (5, .int x5)] [.int q19] (h, t) (zQi zDr h0 t R) := by
          intro q19 h hE hf
          rw [eJ18] at hf
          refine z_istore_n (lv' := [(3, .int q19), (0, .ref 41), (1, .int i1), (2, .int y16), (4, .int x4), (5, .int x5)]) dX12_tight_66 (by decide) rfl ?_
          refine z_iload dX12_tight_67 rfl ?_
          refine z_istore (lv' := [(4, .int x5), (3, .int q19), (0, .ref 41), (1, .int i1), (2, .int y16), (5, .int x5)]) dX12_tight_69 (by decide) rfl ?_
          exact zW.sub (hJ11 y16 q19 x5 _ hE hf) [2, 3, 4, 1, 0, 5] rfl rfl rfl rfl
        by_cases c17 : ¬ x3 = (-1)
        · have hf := zif_t hf c17
          refine z_icmp_ne_t (tgt := 65) dX12_tight_57 (by decide) c17 ?_
          refine z_iload_n dX12_tight_65 rfl ?_
          exact zW.sub (hJ18 x3 _ hE hf) [1, 2, 0, 3, 4, 5] rfl rfl rfl rfl
        · have hf := zif_f hf c17
          refine z_icmp_ne_f (tgt := 65) dX12_tight_57 (by decide) c17 ?_
          refine z_iload dX12_tight_60 rfl ?_
          refine z_goto (tgt := 66) dX12_tight_62 (by decide) ?_
          exact zW.sub (hJ18 x5 _ hE hf) [1, 2, 0, 3, 4, 5] rfl rfl rfl rfl
      · have hf := zif_f hf c10
        refine z_icmp_ne_f (tgt := 52) dX12_tight_46 (by decide) c10 ?_
        refine z_goto (tgt := 71) dX12_tight_49 (by decide) ?_
        exact zW.sub (hJ11 x2 x3 x4 _ hE hf) [0, 1, 2, 3, 4, 5] rfl rfl rfl rfl
theorem w_X12_tight {L : Nat} {xs : Nat → Int32} {fm : Bool} {h0 : Nat → va_E} {t : Nat × Nat × Nat} (hn1 : 64 ≤ t.1) (hn2 : t.1 ≤ 1000000) (d : Nat) {h : Nat → va_E} {S : zS} (hE : zE zDr h0 S (h, t)) {v1 : Int32} {R : Int32 × zS} (hf : f_X12_tight v1 S = some R) : zC (ia_P0 L xs fm) (d + 2) 12101 [.ref 41, .int v1] (h, t) (zQi zDr h0 t R) := by
  refine zC_of mt_12101 nn_12101 (Nat.le_of_ble_eq_true rfl) ?_
  refine zW_lv (lv' := [(0, .ref 41), (1, .int v1)]) rfl ?_
  unfold f_X12_tight at hf
  refine z_aload_n dX12_tight_0 rfl ?_
  refine z_iconst (v := 0) dX12_tight_1 (by decide) ?_
  obtain ⟨S1, eS1, hf⟩ := zl_some hf
  refine z_putI dX12_tight_2 tF_12_93 hE dr_41 rfl rfl rfl rfl (fun h hE => ?_)
  rw [← eS1] at hE
  refine z_iload_n dX12_tight_5 rfl ?_
  refine z_i2l dX12_tight_6 ?_
  refine z_lconst (v := 0) dX12_tight_7 (by decide) ?_
  refine z_ldc2 dX12_tight_8 tK_12_266 ?_
  obtain ⟨r3, S2, k4, hf⟩ := zb_some hf
  refine z_callSi dX12_tight_11 tM_12_214 (by decide) mt_12007 (Nat.le_of_ble_eq_true rfl) rfl rfl (ia_oks_le hn1 rfl) (Nat.le_of_ble_eq_true rfl) (w_X12_isIn hn1 hn2 (d + 0) hE k4) (fun h hE => ?_)
  by_cases c5 : ¬ r3 = 0
  · have hf := zif_t hf c5
    refine z_if_ne_t (tgt := 21) dX12_tight_14 (by decide) c5 ?_
    refine z_iconst (v := 0) dX12_tight_21 (by decide) ?_
    refine z_istore_n (lv' := [(2, .int 0), (0, .ref 41), (1, .int v1)]) dX12_tight_22 (by decide) rfl ?_
    refine z_iconst (v := (-1)) dX12_tight_23 (by decide) ?_
    refine z_istore_n (lv' := [(3, .int (-1)), (2, .int 0), (0, .ref 41), (1, .int v1)]) dX12_tight_24 (by decide) rfl ?_
    refine z_iconst (v := (-1)) dX12_tight_25 (by decide) ?_
    refine z_istore (lv' := [(4, .int (-1)), (3, .int (-1)), (2, .int 0), (0, .ref 41), (1, .int v1)]) dX12_tight_26 (by decide) rfl ?_
    refine z_iconst (v := 0) dX12_tight_28 (by decide) ?_
    refine z_istore (lv' := [(5, .int 0), (4, .int (-1)), (3, .int (-1)), (2, .int 0), (0, .ref 41), (1, .int v1)]) dX12_tight_29 (by decide) rfl ?_
    refine zW.sub (w_X12_tight_L31 hn1 hn2 d (fun q21 q22 q23 q24 S20 h hE hf => ?_) zN 0 (-1) (-1) 0 S2 h hE hf) [4, 5, 3, 2, 1, 0] rfl rfl rfl rfl
    try dsimp only at hf
    refine z_iload_n dX12_tight_77 rfl ?_
    by_cases c25 : ¬ v1 = 0
    · have hf := zif_t hf c25
      refine z_if_ne_t (tgt := 85) dX12_tight_78 (by decide) c25 ?_
      refine z_iload_n dX12_tight_85 rfl ?_
      refine z_iconst (v := 1) dX12_tight_86 (by decide) ?_
      by_cases c26 : ¬ v1 = 1
      · have hf := zif_t hf c26
        refine z_icmp_ne_t (tgt := 94) dX12_tight_87 (by decide) c26 ?_
        refine z_iload dX12_tight_94 rfl ?_
        have e_ := Option.some.inj hf
        subst e_
        exact z_ireturn dX12_tight_96 rfl ⟨h, rfl, rfl, hE⟩
      · have hf := zif_f hf c26
        refine z_icmp_ne_f (tgt := 94) dX12_tight_87 (by decide) c26 ?_
        refine z_iload_n dX12_tight_90 rfl ?_
        refine z_goto (tgt := 96) dX12_tight_91 (by decide) ?_
        have e_ := Option.some.inj hf
        subst e_
        exact z_ireturn dX12_tight_96 rfl ⟨h, rfl, rfl, hE⟩
    · have hf := zif_f hf c25
      refine z_if_ne_f (tgt := 85) dX12_tight_78 (by decide) c25 ?_
      refine z_iload_n dX12_tight_81 rfl ?_
      refine z_goto (tgt := 96) dX12_tight_82 (by decide) ?_
      have e_ := Option.some.inj hf
      subst e_
      exact z_ireturn dX12_tight_96 rfl ⟨h, rfl, rfl, hE⟩
  · have hf := zif_f hf c5
    refine z_if_ne_f (tgt := 21) dX12_tight_14 (by decide) c5 ?_
    refine z_ldcw dX12_tight_17 tK_12_389 ?_
    have e_ := Option.some.inj hf
    subst e_
    exact z_ireturn dX12_tight_20 rfl ⟨h, rfl, rfl, hE⟩
def f_X12_next_L23 (ex : Int32 → Int32 → zS → Option (Int32 × zS)) (i1 : Int32) : Nat → Int32 → Int32 → zS → Option (Int32 × zS)
  | 0, _, _, _ => none
  | k + 1, x2, x3, S =>
    if 300 < x3 then
    ex x2 x3 S
    else
    zb (f_X12_leftOf x3 S) fun r8 S7 =>
    zl (fun (S12 : zS) =>
    zl (x2 + 0) fun (y13 : Int32) =>
    zl (x3 + 1) fun (y14 : Int32) =>
    f_X12_next_L23 ex i1 k y13 y14 S12) fun J11 =>
    if r8 = (-1) then
    J11 S7
    else
    zb (f_X12_leftOf x3 S7) fun r16 S15 =>
    if i1 < r16 then
    J11 S15
    else
    zl (x2 + 1) fun (y19 : Int32) =>
    zl (x3 + 1) fun (y20 : Int32) =>
    f_X12_next_L23 ex i1 k y19 y20 S15
def f_X12_next (v1 : Int32) (S : zS) : Option (Int32 × zS) :=
zl (sV S 41 0 0) fun S1 =>
zb (f_X12_isIn (v1.toInt64) 0 999 S1) fun r3 S2 =>
if ¬ r3 = 0 then
f_X12_next_L23 (fun (q22 : Int32) (q23 : Int32) (S21 : zS) =>
some (q22, S21)) v1 zN 0 0 S2
else
some ((-1), S2)
theorem w_X12_next_L23 {L : Nat} {xs : Nat → Int32} {fm : Bool} {h0 : Nat → va_E} {t : Nat × Nat × Nat} (hn1 : 64 ≤ t.1) (hn2 : t.1 ≤ 1000000) (d : Nat) {ex : Int32 → Int32 → zS → Option (Int32 × zS)} {i1 : Int32} {R : Int32 × zS} (hex : ∀ (x2 : Int32) (x3 : Int32) (S : zS) (h : Nat → va_E), zE zDr h0 S (h, t) → ex x2 x3 S = some R → zW (ia_P0 L xs fm) ia_nx (d + 1) 12 false cX12_next 4 (some .int) 62 [(0, .ref 41), (1, .int i1), (2, .int x2), (3, .int x3)] [] (h, t) (zQi zDr h0 t R)) : ∀ (k : Nat) (x2 : Int32) (x3 : Int32) (S : zS) (h : Nat → va_E), zE zDr h0 S (h, t) → f_X12_next_L23 ex i1 k x2 x3 S = some R → zW (ia_P0 L xs fm) ia_nx (d + 1) 12 false cX12_next 4 (some .int) 23 [(0, .ref 41), (1, .int i1), (2, .int x2), (3, .int x3)] [] (h, t) (zQi zDr h0 t R) := by
  intro k
  induction k with
  | zero => intro x2 x3 S h hE hf; cases hf
  | succ k ih =>
    intro x2 x3 S h hE hf
    unfold f_X12_next_L23 at hf
    refine z_iload_n dX12_next_23 rfl ?_
    refine z_sipush (v := 300) dX12_next_24 (by decide) ?_
    by_cases c6 : 300 < x3
    · have hf := zif_t hf c6
      refine z_icmp_gt_t (tgt := 62) dX12_next_27 (by decide) c6 ?_
      exact zW.sub (hex x2 x3 S _ hE hf) [0, 1, 2, 3] rfl rfl rfl rfl
    · have hf := zif_f hf c6
      refine z_icmp_gt_f (tgt := 62) dX12_next_27 (by decide) c6 ?_
      refine z_iload_n dX12_next_30 rfl ?_
      refine z_aload_n dX12_next_31 rfl ?_
      refine z_iload_n dX12_next_32 rfl ?_
      obtain ⟨r8, S7, k9, hf⟩ := zb_some hf
      refine z_callVi dX12_next_33 tM_12_458 mt_12102 (Nat.le_of_ble_eq_true rfl) rfl rfl (z_recv hE dr_41 rfl) rfl (ia_oks_le hn1 rfl) (Nat.le_of_ble_eq_true rfl) (w_X12_leftOf hn1 hn2 (d + 0) hE k9) (fun h hE => ?_)
      refine z_iconst (v := (-1)) dX12_next_36 (by decide) ?_
      obtain ⟨J11, eJ11, hf⟩ := zl_some hf
      have hJ11 : ∀ (S12 : zS) (h : Nat → va_E), zE zDr h0 S12 (h, t) → J11 S12 = some R → zW (ia_P0 L xs fm) ia_nx (d + 1) 12 false cX12_next 4 (some .int) 53 [(0, .ref 41), (1, .int i1), (2, .int x2), (3, .int x3)] [.int x2] (h, t) (zQi zDr h0 t R) := by
        intro S12 h hE hf
        rw [eJ11] at hf
        refine z_iconst (v := 0) dX12_next_53 (by decide) ?_
        refine z_iadd dX12_next_54 ?_
        obtain ⟨y13, ey13, hf⟩ := zl_some hf
        refine z_topi ey13 ?_
        refine z_istore_n (lv' := [(2, .int y13), (0, .ref 41), (1, .int i1), (3, .int x3)]) dX12_next_55 (by decide) rfl ?_
        obtain ⟨y14, ey14, hf⟩ := zl_some hf
        refine z_iincY (v := 1) (y := y14) (lv' := [(3, .int y14), (2, .int y13), (0, .ref 41), (1, .int i1)]) dX12_next_56 rfl (by decide) (by decide) ey14 rfl ?_
        refine z_goto (tgt := 23) dX12_next_59 (by decide) ?_
        exact zW.sub (ih y13 y14 S12 _ hE hf) [2, 3, 1, 0] rfl rfl rfl rfl
      by_cases c10 : r8 = (-1)
      · have hf := zif_t hf c10
        refine z_icmp_eq_t (tgt := 53) dX12_next_37 (by decide) c10 ?_
        exact zW.sub (hJ11 S7 _ hE hf) [0, 1, 2, 3] rfl rfl rfl rfl
      · have hf := zif_f hf c10
        refine z_icmp_eq_f (tgt := 53) dX12_next_37 (by decide) c10 ?_
        refine z_iload_n dX12_next_40 rfl ?_
        refine z_aload_n dX12_next_41 rfl ?_
        refine z_iload_n dX12_next_42 rfl ?_
        obtain ⟨r16, S15, k17, hf⟩ := zb_some hf
        refine z_callVi dX12_next_43 tM_12_458 mt_12102 (Nat.le_of_ble_eq_true rfl) rfl rfl (z_recv hE dr_41 rfl) rfl (ia_oks_le hn1 rfl) (Nat.le_of_ble_eq_true rfl) (w_X12_leftOf hn1 hn2 (d + 0) hE k17) (fun h hE => ?_)
        by_cases c18 : i1 < r16
        · have hf := zif_t hf c18
          refine z_icmp_lt_t (tgt := 53) dX12_next_46 (by decide) c18 ?_
          exact zW.sub (hJ11 S15 _ hE hf) [0, 1, 2, 3] rfl rfl rfl rfl
        · have hf := zif_f hf c18
          refine z_icmp_lt_f (tgt := 53) dX12_next_46 (by decide) c18 ?_
          refine z_iconst (v := 1) dX12_next_49 (by decide) ?_
          refine z_goto (tgt := 54) dX12_next_50 (by decide) ?_
          refine z_iadd dX12_next_54 ?_
          obtain ⟨y19, ey19, hf⟩ := zl_some hf
          refine z_topi ey19 ?_
          refine z_istore_n (lv' := [(2, .int y19), (0, .ref 41), (1, .int i1), (3, .int x3)]) dX12_next_55 (by decide) rfl ?_
          obtain ⟨y20, ey20, hf⟩ := zl_some hf
          refine z_iincY (v := 1) (y := y20) (lv' := [(3, .int y20), (2, .int y19), (0, .ref 41), (1, .int i1)]) dX12_next_56 rfl (by decide) (by decide) ey20 rfl ?_
          refine z_goto (tgt := 23) dX12_next_59 (by decide) ?_
          exact zW.sub (ih y19 y20 S15 _ hE hf) [2, 3, 1, 0] rfl rfl rfl rfl
theorem w_X12_next {L : Nat} {xs : Nat → Int32} {fm : Bool} {h0 : Nat → va_E} {t : Nat × Nat × Nat} (hn1 : 64 ≤ t.1) (hn2 : t.1 ≤ 1000000) (d : Nat) {h : Nat → va_E} {S : zS} (hE : zE zDr h0 S (h, t)) {v1 : Int32} {R : Int32 × zS} (hf : f_X12_next v1 S = some R) : zC (ia_P0 L xs fm) (d + 2) 12103 [.ref 41, .int v1] (h, t) (zQi zDr h0 t R) := by
  refine zC_of mt_12103 nn_12103 (Nat.le_of_ble_eq_true rfl) ?_
  refine zW_lv (lv' := [(0, .ref 41), (1, .int v1)]) rfl ?_
  unfold f_X12_next at hf
  refine z_aload_n dX12_next_0 rfl ?_
  refine z_iconst (v := 0) dX12_next_1 (by decide) ?_
  obtain ⟨S1, eS1, hf⟩ := zl_some hf
  refine z_putI dX12_next_2 tF_12_93 hE dr_41 rfl rfl rfl rfl (fun h hE => ?_)
  rw [← eS1] at hE
  refine z_iload_n dX12_next_5 rfl ?_
  refine z_i2l dX12_next_6 ?_
  refine z_lconst (v := 0) dX12_next_7 (by decide) ?_
  refine z_ldc2 dX12_next_8 tK_12_456 ?_
  obtain ⟨r3, S2, k4, hf⟩ := zb_some hf
  refine z_callSi dX12_next_11 tM_12_214 (by decide) mt_12007 (Nat.le_of_ble_eq_true rfl) rfl rfl (ia_oks_le hn1 rfl) (Nat.le_of_ble_eq_true rfl) (w_X12_isIn hn1 hn2 (d + 0) hE k4) (fun h hE => ?_)
  by_cases c5 : ¬ r3 = 0
  · have hf := zif_t hf c5
    refine z_if_ne_t (tgt := 19) dX12_next_14 (by decide) c5 ?_
    refine z_iconst (v := 0) dX12_next_19 (by decide) ?_
    refine z_istore_n (lv' := [(2, .int 0), (0, .ref 41), (1, .int v1)]) dX12_next_20 (by decide) rfl ?_
    refine z_iconst (v := 0) dX12_next_21 (by decide) ?_
    refine z_istore_n (lv' := [(3, .int 0), (2, .int 0), (0, .ref 41), (1, .int v1)]) dX12_next_22 (by decide) rfl ?_
    refine zW.sub (w_X12_next_L23 hn1 hn2 d (fun q22 q23 S21 h hE hf => ?_) zN 0 0 S2 h hE hf) [2, 3, 1, 0] rfl rfl rfl rfl
    try dsimp only at hf
    refine z_iload_n dX12_next_62 rfl ?_
    have e_ := Option.some.inj hf
    subst e_
    exact z_ireturn dX12_next_63 rfl ⟨h, rfl, rfl, hE⟩
  · have hf := zif_f hf c5
    refine z_if_ne_f (tgt := 19) dX12_next_14 (by decide) c5 ?_
    refine z_iconst (v := (-1)) dX12_next_17 (by decide) ?_
    have e_ := Option.some.inj hf
    subst e_
    exact z_ireturn dX12_next_18 rfl ⟨h, rfl, rfl, hE⟩
def f_X12_who_L43 (ex : Int32 → Int32 → zS → Option (Int32 × zS)) (i1 : Int32) (i2 : Int32) : Nat → Int32 → Int32 → zS → Option (Int32 × zS)
  | 0, _, _, _ => none
  | k + 1, x3, x4, S =>
    if (S.1 41 25) ≤ x4 then
    ex x3 x4 S
    else
    if ia_in (5 * x4) 30 = true then
    zl (fun (q15 : Int32) =>
    zl (x3 ||| q15) fun (y16 : Int32) =>
    zl (x4 + 1) fun (y17 : Int32) =>
    f_X12_who_L43 ex i1 i2 k y16 y17 S) fun J14 =>
    if i2 < (if 0 ≤ (((S.1 48 (5 * x4).toNatClampNeg) / 2) - i1) then (((S.1 48 (5 * x4).toNatClampNeg) / 2) - i1) else 0 - (((S.1 48 (5 * x4).toNatClampNeg) / 2) - i1)) then
    J14 0
    else
    J14 (1 <<< (x4 &&& 31))
    else none
def f_X12_who (v1 : Int32) (v2 : Int32) (S : zS) : Option (Int32 × zS) :=
zl (sV S 41 0 0) fun S1 =>
if (S1.1 41 24) = 0 then
some ((-1), S1)
else
zb (f_X12_isIn (v1.toInt64) 0 99 S1) fun r4 S3 =>
if r4 = 0 then
some ((-1), S3)
else
zb (f_X12_isIn (v2.toInt64) 0 99 S3) fun r8 S7 =>
if ¬ r8 = 0 then
f_X12_who_L43 (fun (q19 : Int32) (q20 : Int32) (S18 : zS) =>
some (q19, S18)) v1 v2 zN 0 0 S7
else
some ((-1), S7)
theorem w_X12_who_L43 {L : Nat} {xs : Nat → Int32} {fm : Bool} {h0 : Nat → va_E} {t : Nat × Nat × Nat} (hn1 : 64 ≤ t.1) (hn2 : t.1 ≤ 1000000) (d : Nat) {ex : Int32 → Int32 → zS → Option (Int32 × zS)} {i1 : Int32} {i2 : Int32} {R : Int32 × zS} (hex : ∀ (x3 : Int32) (x4 : Int32) (S : zS) (h : Nat → va_E), zE zDr h0 S (h, t) → ex x3 x4 S = some R → zW (ia_P0 L xs fm) ia_nx (d + 1) 12 false cX12_who 5 (some .int) 89 [(0, .ref 41), (1, .int i1), (2, .int i2), (3, .int x3), (4, .int x4)] [] (h, t) (zQi zDr h0 t R)) : ∀ (k : Nat) (x3 : Int32) (x4 : Int32) (S : zS) (h : Nat → va_E), zE zDr h0 S (h, t) → f_X12_who_L43 ex i1 i2 k x3 x4 S = some R → zW (ia_P0 L xs fm) ia_nx (d + 1) 12 false cX12_who 5 (some .int) 43 [(0, .ref 41), (1, .int i1), (2, .int i2), (3, .int x3), (4, .int x4)] [] (h, t) (zQi zDr h0 t R) := by
  intro k
  induction k with
  | zero => intro x3 x4 S h hE hf; cases hf
  | succ k ih =>
    intro x3 x4 S h hE hf
    unfold f_X12_who_L43 at hf
    refine z_iload dX12_who_43 rfl ?_
    refine z_aload_n dX12_who_45 rfl ?_
    refine z_getI dX12_who_46 tF_12_288 hE dr_41 rfl rfl ?_
    by_cases c11 : (S.1 41 25) ≤ x4
    · have hf := zif_t hf c11
      refine z_icmp_ge_t (tgt := 89) dX12_who_49 (by decide) c11 ?_
      exact zW.sub (hex x3 x4 S _ hE hf) [0, 1, 2, 3, 4] rfl rfl rfl rfl
    · have hf := zif_f hf c11
      refine z_icmp_ge_f (tgt := 89) dX12_who_49 (by decide) c11 ?_
      refine z_iload_n dX12_who_52 rfl ?_
      refine z_aload_n dX12_who_53 rfl ?_
      refine z_getC dX12_who_54 tF_12_43 hE dr_41 rfl rfl ?_
      refine z_iconst (v := 5) dX12_who_57 (by decide) ?_
      refine z_iload dX12_who_58 rfl ?_
      refine z_imul dX12_who_60 ?_
      obtain ⟨b12, hf⟩ := zchk hf
      refine z_ialoadL dX12_who_61 hE dr_48 b12 rfl ?_
      refine z_iconst (v := 2) dX12_who_62 (by decide) ?_
      refine z_idiv dX12_who_63 (by decide) ?_
      refine z_iload_n dX12_who_64 rfl ?_
      refine z_isub dX12_who_65 ?_
      refine z_mabs dX12_who_66 tM_12_461 (Nat.le_of_ble_eq_true rfl) ?_
      refine z_iload_n dX12_who_69 rfl ?_
      obtain ⟨J14, eJ14, hf⟩ := zl_some hf
      have hJ14 : ∀ (q15 : Int32) (h : Nat → va_E), zE zDr h0 S (h, t) → J14 q15 = some R → zW (ia_P0 L xs fm) ia_nx (d + 1) 12 false cX12_who 5 (some .int) 81 [(0, .ref 41), (1, .int i1), (2, .int i2), (3, .int x3), (4, .int x4)] [.int q15, .int x3] (h, t) (zQi zDr h0 t R) := by
        intro q15 h hE hf
        rw [eJ14] at hf
        refine z_ior dX12_who_81 ?_
        obtain ⟨y16, ey16, hf⟩ := zl_some hf
        refine z_topi ey16 ?_
        refine z_istore_n (lv' := [(3, .int y16), (0, .ref 41), (1, .int i1), (2, .int i2), (4, .int x4)]) dX12_who_82 (by decide) rfl ?_
        obtain ⟨y17, ey17, hf⟩ := zl_some hf
        refine z_iincY (v := 1) (y := y17) (lv' := [(4, .int y17), (3, .int y16), (0, .ref 41), (1, .int i1), (2, .int i2)]) dX12_who_83 rfl (by decide) (by decide) ey17 rfl ?_
        refine z_goto (tgt := 43) dX12_who_86 (by decide) ?_
        exact zW.sub (ih y16 y17 S _ hE hf) [2, 3, 4, 1, 0] rfl rfl rfl rfl
      by_cases c13 : i2 < (if 0 ≤ (((S.1 48 (5 * x4).toNatClampNeg) / 2) - i1) then (((S.1 48 (5 * x4).toNatClampNeg) / 2) - i1) else 0 - (((S.1 48 (5 * x4).toNatClampNeg) / 2) - i1))
      · have hf := zif_t hf c13
        refine z_icmp_gt_t (tgt := 80) dX12_who_70 (by decide) c13 ?_
        refine z_iconst (v := 0) dX12_who_80 (by decide) ?_
        exact zW.sub (hJ14 0 _ hE hf) [0, 1, 2, 3, 4] rfl rfl rfl rfl
      · have hf := zif_f hf c13
        refine z_icmp_gt_f (tgt := 80) dX12_who_70 (by decide) c13 ?_
        refine z_iconst (v := 1) dX12_who_73 (by decide) ?_
        refine z_iload dX12_who_74 rfl ?_
        refine z_ishl dX12_who_76 ?_
        refine z_goto (tgt := 81) dX12_who_77 (by decide) ?_
        exact zW.sub (hJ14 (1 <<< (x4 &&& 31)) _ hE hf) [0, 1, 2, 3, 4] rfl rfl rfl rfl
theorem w_X12_who {L : Nat} {xs : Nat → Int32} {fm : Bool} {h0 : Nat → va_E} {t : Nat × Nat × Nat} (hn1 : 64 ≤ t.1) (hn2 : t.1 ≤ 1000000) (d : Nat) {h : Nat → va_E} {S : zS} (hE : zE zDr h0 S (h, t)) {v1 : Int32} {v2 : Int32} {R : Int32 × zS} (hf : f_X12_who v1 v2 S = some R) : zC (ia_P0 L xs fm) (d + 2) 12104 [.ref 41, .int v1, .int v2] (h, t) (zQi zDr h0 t R) := by
  refine zC_of mt_12104 nn_12104 (Nat.le_of_ble_eq_true rfl) ?_
  refine zW_lv (lv' := [(0, .ref 41), (1, .int v1), (2, .int v2)]) rfl ?_
  unfold f_X12_who at hf
  refine z_aload_n dX12_who_0 rfl ?_
  refine z_iconst (v := 0) dX12_who_1 (by decide) ?_
  obtain ⟨S1, eS1, hf⟩ := zl_some hf
  refine z_putI dX12_who_2 tF_12_93 hE dr_41 rfl rfl rfl rfl (fun h hE => ?_)
  rw [← eS1] at hE
  refine z_aload_n dX12_who_5 rfl ?_
  refine z_getI dX12_who_6 tF_12_285 hE dr_41 rfl rfl ?_
  by_cases c2 : (S1.1 41 24) = 0
  · have hf := zif_t hf c2
    refine z_if_eq_t (tgt := 36) dX12_who_9 (by decide) c2 ?_
    refine z_iconst (v := (-1)) dX12_who_36 (by decide) ?_
    have e_ := Option.some.inj hf
    subst e_
    exact z_ireturn dX12_who_37 rfl ⟨h, rfl, rfl, hE⟩
  · have hf := zif_f hf c2
    refine z_if_eq_f (tgt := 36) dX12_who_9 (by decide) c2 ?_
    refine z_iload_n dX12_who_12 rfl ?_
    refine z_i2l dX12_who_13 ?_
    refine z_lconst (v := 0) dX12_who_14 (by decide) ?_
    refine z_ldc2 dX12_who_15 tK_12_449 ?_
    obtain ⟨r4, S3, k5, hf⟩ := zb_some hf
    refine z_callSi dX12_who_18 tM_12_214 (by decide) mt_12007 (Nat.le_of_ble_eq_true rfl) rfl rfl (ia_oks_le hn1 rfl) (Nat.le_of_ble_eq_true rfl) (w_X12_isIn hn1 hn2 (d + 0) hE k5) (fun h hE => ?_)
    by_cases c6 : r4 = 0
    · have hf := zif_t hf c6
      refine z_if_eq_t (tgt := 36) dX12_who_21 (by decide) c6 ?_
      refine z_iconst (v := (-1)) dX12_who_36 (by decide) ?_
      have e_ := Option.some.inj hf
      subst e_
      exact z_ireturn dX12_who_37 rfl ⟨h, rfl, rfl, hE⟩
    · have hf := zif_f hf c6
      refine z_if_eq_f (tgt := 36) dX12_who_21 (by decide) c6 ?_
      refine z_iload_n dX12_who_24 rfl ?_
      refine z_i2l dX12_who_25 ?_
      refine z_lconst (v := 0) dX12_who_26 (by decide) ?_
      refine z_ldc2 dX12_who_27 tK_12_449 ?_
      obtain ⟨r8, S7, k9, hf⟩ := zb_some hf
      refine z_callSi dX12_who_30 tM_12_214 (by decide) mt_12007 (Nat.le_of_ble_eq_true rfl) rfl rfl (ia_oks_le hn1 rfl) (Nat.le_of_ble_eq_true rfl) (w_X12_isIn hn1 hn2 (d + 0) hE k9) (fun h hE => ?_)
      by_cases c10 : ¬ r8 = 0
      · have hf := zif_t hf c10
        refine z_if_ne_t (tgt := 38) dX12_who_33 (by decide) c10 ?_
        refine z_iconst (v := 0) dX12_who_38 (by decide) ?_
        refine z_istore_n (lv' := [(3, .int 0), (0, .ref 41), (1, .int v1), (2, .int v2)]) dX12_who_39 (by decide) rfl ?_
        refine z_iconst (v := 0) dX12_who_40 (by decide) ?_
        refine z_istore (lv' := [(4, .int 0), (3, .int 0), (0, .ref 41), (1, .int v1), (2, .int v2)]) dX12_who_41 (by decide) rfl ?_
        refine zW.sub (w_X12_who_L43 hn1 hn2 d (fun q19 q20 S18 h hE hf => ?_) zN 0 0 S7 h hE hf) [2, 3, 4, 1, 0] rfl rfl rfl rfl
        try dsimp only at hf
        refine z_iload_n dX12_who_89 rfl ?_
        have e_ := Option.some.inj hf
        subst e_
        exact z_ireturn dX12_who_90 rfl ⟨h, rfl, rfl, hE⟩
      · have hf := zif_f hf c10
        refine z_if_ne_f (tgt := 38) dX12_who_33 (by decide) c10 ?_
        refine z_iconst (v := (-1)) dX12_who_36 (by decide) ?_
        have e_ := Option.some.inj hf
        subst e_
        exact z_ireturn dX12_who_37 rfl ⟨h, rfl, rfl, hE⟩
def f_X12_lefties_L18 (ex : Int32 → Int32 → zS → Option (Int32 × zS))  : Nat → Int32 → Int32 → zS → Option (Int32 × zS)
  | 0, _, _, _ => none
  | k + 1, x1, x2, S =>
    if (S.1 41 24) ≤ x2 then
    ex x1 x2 S
    else
    if ia_in ((6 * x2) + 3) 24 = true then
    zl (x1 ||| ((S.1 46 ((6 * x2) + 3).toNatClampNeg) <<< (x2 &&& 31))) fun (y5 : Int32) =>
    zl (x2 + 1) fun (y6 : Int32) =>
    f_X12_lefties_L18 ex k y5 y6 S
    else none
def f_X12_lefties  (S : zS) : Option (Int32 × zS) :=
zl (sV S 41 0 0) fun S1 =>
if ¬ (S1.1 41 24) = 0 then
f_X12_lefties_L18 (fun (q8 : Int32) (q9 : Int32) (S7 : zS) =>
some (q8, S7))  zN 0 0 S1
else
some ((-1), S1)
theorem w_X12_lefties_L18 {L : Nat} {xs : Nat → Int32} {fm : Bool} {h0 : Nat → va_E} {t : Nat × Nat × Nat} (hn1 : 64 ≤ t.1) (hn2 : t.1 ≤ 1000000) (d : Nat) {ex : Int32 → Int32 → zS → Option (Int32 × zS)} {R : Int32 × zS} (hex : ∀ (x1 : Int32) (x2 : Int32) (S : zS) (h : Nat → va_E), zE zDr h0 S (h, t) → ex x1 x2 S = some R → zW (ia_P0 L xs fm) ia_nx (d + 0) 12 false cX12_lefties 3 (some .int) 48 [(0, .ref 41), (1, .int x1), (2, .int x2)] [] (h, t) (zQi zDr h0 t R)) : ∀ (k : Nat) (x1 : Int32) (x2 : Int32) (S : zS) (h : Nat → va_E), zE zDr h0 S (h, t) → f_X12_lefties_L18 ex  k x1 x2 S = some R → zW (ia_P0 L xs fm) ia_nx (d + 0) 12 false cX12_lefties 3 (some .int) 18 [(0, .ref 41), (1, .int x1), (2, .int x2)] [] (h, t) (zQi zDr h0 t R) := by
  intro k
  induction k with
  | zero => intro x1 x2 S h hE hf; cases hf
  | succ k ih =>
    intro x1 x2 S h hE hf
    unfold f_X12_lefties_L18 at hf
    refine z_iload_n dX12_lefties_18 rfl ?_
    refine z_aload_n dX12_lefties_19 rfl ?_
    refine z_getI dX12_lefties_20 tF_12_285 hE dr_41 rfl rfl ?_
    by_cases c3 : (S.1 41 24) ≤ x2
    · have hf := zif_t hf c3
      refine z_icmp_ge_t (tgt := 48) dX12_lefties_23 (by decide) c3 ?_
      exact zW.sub (hex x1 x2 S _ hE hf) [0, 1, 2] rfl rfl rfl rfl
    · have hf := zif_f hf c3
      refine z_icmp_ge_f (tgt := 48) dX12_lefties_23 (by decide) c3 ?_
      refine z_iload_n dX12_lefties_26 rfl ?_
      refine z_aload_n dX12_lefties_27 rfl ?_
      refine z_getC dX12_lefties_28 tF_12_37 hE dr_41 rfl rfl ?_
      refine z_bipush (v := 6) dX12_lefties_31 (by decide) ?_
      refine z_iload_n dX12_lefties_33 rfl ?_
      refine z_imul dX12_lefties_34 ?_
      refine z_iconst (v := 3) dX12_lefties_35 (by decide) ?_
      refine z_iadd dX12_lefties_36 ?_
      obtain ⟨b4, hf⟩ := zchk hf
      refine z_ialoadL dX12_lefties_37 hE dr_46 b4 rfl ?_
      refine z_iload_n dX12_lefties_38 rfl ?_
      refine z_ishl dX12_lefties_39 ?_
      refine z_ior dX12_lefties_40 ?_
      obtain ⟨y5, ey5, hf⟩ := zl_some hf
      refine z_topi ey5 ?_
      refine z_istore_n (lv' := [(1, .int y5), (0, .ref 41), (2, .int x2)]) dX12_lefties_41 (by decide) rfl ?_
      obtain ⟨y6, ey6, hf⟩ := zl_some hf
      refine z_iincY (v := 1) (y := y6) (lv' := [(2, .int y6), (1, .int y5), (0, .ref 41)]) dX12_lefties_42 rfl (by decide) (by decide) ey6 rfl ?_
      refine z_goto (tgt := 18) dX12_lefties_45 (by decide) ?_
      exact zW.sub (ih y5 y6 S _ hE hf) [2, 1, 0] rfl rfl rfl rfl
theorem w_X12_lefties {L : Nat} {xs : Nat → Int32} {fm : Bool} {h0 : Nat → va_E} {t : Nat × Nat × Nat} (hn1 : 64 ≤ t.1) (hn2 : t.1 ≤ 1000000) (d : Nat) {h : Nat → va_E} {S : zS} (hE : zE zDr h0 S (h, t)) {R : Int32 × zS} (hf : f_X12_lefties  S = some R) : zC (ia_P0 L xs fm) (d + 1) 12105 [.ref 41] (h, t) (zQi zDr h0 t R) := by
  refine zC_of mt_12105 nn_12105 (Nat.le_of_ble_eq_true rfl) ?_
  refine zW_lv (lv' := [(0, .ref 41)]) rfl ?_
  unfold f_X12_lefties at hf
  refine z_aload_n dX12_lefties_0 rfl ?_
  refine z_iconst (v := 0) dX12_lefties_1 (by decide) ?_
  obtain ⟨S1, eS1, hf⟩ := zl_some hf
  refine z_putI dX12_lefties_2 tF_12_93 hE dr_41 rfl rfl rfl rfl (fun h hE => ?_)
  rw [← eS1] at hE
  refine z_aload_n dX12_lefties_5 rfl ?_
  refine z_getI dX12_lefties_6 tF_12_285 hE dr_41 rfl rfl ?_
  by_cases c2 : ¬ (S1.1 41 24) = 0
  · have hf := zif_t hf c2
    refine z_if_ne_t (tgt := 14) dX12_lefties_9 (by decide) c2 ?_
    refine z_iconst (v := 0) dX12_lefties_14 (by decide) ?_
    refine z_istore_n (lv' := [(1, .int 0), (0, .ref 41)]) dX12_lefties_15 (by decide) rfl ?_
    refine z_iconst (v := 0) dX12_lefties_16 (by decide) ?_
    refine z_istore_n (lv' := [(2, .int 0), (1, .int 0), (0, .ref 41)]) dX12_lefties_17 (by decide) rfl ?_
    refine zW.sub (w_X12_lefties_L18 hn1 hn2 d (fun q8 q9 S7 h hE hf => ?_) zN 0 0 S1 h hE hf) [2, 1, 0] rfl rfl rfl rfl
    try dsimp only at hf
    refine z_iload_n dX12_lefties_48 rfl ?_
    have e_ := Option.some.inj hf
    subst e_
    exact z_ireturn dX12_lefties_49 rfl ⟨h, rfl, rfl, hE⟩
  · have hf := zif_f hf c2
    refine z_if_ne_f (tgt := 14) dX12_lefties_9 (by decide) c2 ?_
    refine z_iconst (v := (-1)) dX12_lefties_12 (by decide) ?_
    have e_ := Option.some.inj hf
    subst e_
    exact z_ireturn dX12_lefties_13 rfl ⟨h, rfl, rfl, hE⟩
def f_X12_draw (v1 : Int32) (S : zS) : Option (Int32 × zS) :=
zkl (S.2.1 41 51) fun y1 =>
zl (sK S 41 51 (.long ((y1 * 6364136223846793005) + 1442695040888963407))) fun S2 =>
zkl (S2.2.1 41 51) fun y3 =>
if v1.toInt64 = 0 then none else
some ((((y3.toUInt64 >>> ((33 : Int32).toInt64.toUInt64 &&& Int64.toUInt64 63)).toInt64) - ((y3.toUInt64 >>> ((33 : Int32).toInt64.toUInt64 &&& Int64.toUInt64 63)).toInt64) / (v1.toInt64) * (v1.toInt64)).toInt32, S2)
theorem w_X12_draw {L : Nat} {xs : Nat → Int32} {fm : Bool} {h0 : Nat → va_E} {t : Nat × Nat × Nat} (hn1 : 64 ≤ t.1) (hn2 : t.1 ≤ 1000000) (d : Nat) {h : Nat → va_E} {S : zS} (hE : zE zDr h0 S (h, t)) {v1 : Int32} {R : Int32 × zS} (hf : f_X12_draw v1 S = some R) : zC (ia_P0 L xs fm) (d + 1) 12107 [.ref 41, .int v1] (h, t) (zQi zDr h0 t R) := by
  refine zC_of mt_12107 nn_12107 (Nat.le_of_ble_eq_true rfl) ?_
  refine zW_lv (lv' := [(0, .ref 41), (1, .int v1)]) rfl ?_
  unfold f_X12_draw at hf
  refine z_aload_n dX12_draw_0 rfl ?_
  refine z_aload_n dX12_draw_1 rfl ?_
  obtain ⟨y1, ey1, hf⟩ := zkl_some hf
  refine z_getK dX12_draw_2 tF_12_464 hE dr_41 rfl rfl ?_
  refine z_topv ey1 ?_
  refine z_ldc2 dX12_draw_5 tK_12_468 ?_
  refine z_lmul dX12_draw_8 ?_
  refine z_ldc2 dX12_draw_9 tK_12_470 ?_
  refine z_ladd dX12_draw_12 ?_
  obtain ⟨S2, eS2, hf⟩ := zl_some hf
  refine z_putK dX12_draw_13 tF_12_464 hE dr_41 rfl rfl rfl rfl (fun h hE => ?_)
  rw [← eS2] at hE
  refine z_aload_n dX12_draw_16 rfl ?_
  obtain ⟨y3, ey3, hf⟩ := zkl_some hf
  refine z_getK dX12_draw_17 tF_12_464 hE dr_41 rfl rfl ?_
  refine z_topv ey3 ?_
  refine z_bipush (v := 33) dX12_draw_20 (by decide) ?_
  refine z_lushr dX12_draw_22 ?_
  refine z_iload_n dX12_draw_23 rfl ?_
  refine z_i2l dX12_draw_24 ?_
  obtain ⟨b4, hf⟩ := zchkn hf
  refine z_lrem dX12_draw_25 b4 ?_
  refine z_l2i dX12_draw_26 ?_
  have e_ := Option.some.inj hf
  subst e_
  exact z_ireturn dX12_draw_27 rfl ⟨h, rfl, rfl, hE⟩
def f_X12_evening_L34 (ex : Int32 → zS → Option (Int32 × zS)) (i1 : Int32) (i2 : Int64) : Nat → Int32 → zS → Option (Int32 × zS)
  | 0, _, _ => none
  | k + 1, x4, S =>
    if i1 ≤ x4 then
    ex x4 S
    else
    zb (f_X12_isDone 54 S) fun r13 S12 =>
    if ¬ r13 = 0 then
    ex x4 S12
    else
    zb (f_X12_draw (S12.1 41 25) S12) fun r17 S16 =>
    zb (f_X12_draw ((S16.1 41 26) + 1) S16) fun r20 S19 =>
    if ia_in ((5 * r17) + 4) 30 = true then
    zb (f_X12_draw ((S19.1 48 ((5 * r17) + 4).toNatClampNeg) + 1) S19) fun r24 S23 =>
    zb (f_X12_remember S23) fun _ S26 =>
    zl (fun (q31 : Int32) =>
    if ia_in ((6 * (S26.1 54 64)) + 3) 24 = true then
    zb (f_X12_turns 54 r17 q31 (S26.1 46 ((6 * (S26.1 54 64)) + 3).toNatClampNeg) r24 S26) fun _ S33 =>
    zl (fun (q38 : Int32) =>
    zb (f_X12_writes ((100 + (10 * r17)) + q38) S33) fun _ S39 =>
    zl (x4 + 1) fun (y42 : Int32) =>
    f_X12_evening_L34 ex i1 i2 k y42 S39) fun J37 =>
    if ¬ r20 = (S33.1 41 26) then
    J37 r20
    else
    J37 9
    else none) fun J30 =>
    if ¬ r20 = (S26.1 41 26) then
    J30 r20
    else
    J30 (-1)
    else none
def f_X12_evening (v1 : Int32) (v2 : Int64) (S : zS) : Option (Int32 × zS) :=
zl (sV S 41 0 0) fun S1 =>
zb (f_X12_canWork S1) fun r3 S2 =>
if r3 = 0 then
some ((-1), S2)
else
zb (f_X12_isIn (v1.toInt64) 1 40 S2) fun r7 S6 =>
if ¬ r7 = 0 then
zl (sK S6 41 51 (.long v2)) fun S10 =>
f_X12_evening_L34 (fun (q44 : Int32) (S43 : zS) =>
some (q44, S43)) v1 v2 zN 0 S10
else
some ((-1), S6)
theorem w_X12_evening_L34 {L : Nat} {xs : Nat → Int32} {fm : Bool} {h0 : Nat → va_E} {t : Nat × Nat × Nat} (hn1 : 64 ≤ t.1) (hn2 : t.1 ≤ 1000000) (d : Nat) {ex : Int32 → zS → Option (Int32 × zS)} {i1 : Int32} {i2 : Int64} {R : Int32 × zS} (hex : ∀ (x4 : Int32) (S : zS) (h : Nat → va_E), zE zDr h0 S (h, t) → ex x4 S = some R → zW (ia_P0 L xs fm) ia_nx (d + 112) 12 false cX12_evening 8 (some .int) 174 [(0, .ref 41), (1, .int i1), (2, .long i2), (4, .int x4)] [] (h, t) (zQi zDr h0 t R)) : ∀ (k : Nat) (x4 : Int32) (S : zS) (h : Nat → va_E), zE zDr h0 S (h, t) → f_X12_evening_L34 ex i1 i2 k x4 S = some R → zW (ia_P0 L xs fm) ia_nx (d + 112) 12 false cX12_evening 8 (some .int) 34 [(0, .ref 41), (1, .int i1), (2, .long i2), (4, .int x4)] [] (h, t) (zQi zDr h0 t R) := by
  intro k
  induction k with
  | zero => intro x4 S h hE hf; cases hf
  | succ k ih =>
    intro x4 S h hE hf
    unfold f_X12_evening_L34 at hf
    refine z_iload dX12_evening_34 rfl ?_
    refine z_iload_n dX12_evening_36 rfl ?_
    by_cases c11 : i1 ≤ x4
    · have hf := zif_t hf c11
      refine z_icmp_ge_t (tgt := 174) dX12_evening_37 (by decide) c11 ?_
      exact zW.sub (hex x4 S _ hE hf) [0, 1, 2, 3] rfl rfl rfl rfl
    · have hf := zif_f hf c11
      refine z_icmp_ge_f (tgt := 174) dX12_evening_37 (by decide) c11 ?_
      refine z_aload_n dX12_evening_40 rfl ?_
      refine z_getC dX12_evening_41 tF_12_61 hE dr_41 rfl rfl ?_
      obtain ⟨r13, S12, k14, hf⟩ := zb_some hf
      refine z_callSi dX12_evening_44 tM_12_354 (by decide) mt_12053 (Nat.le_of_ble_eq_true rfl) rfl rfl (ia_oks_le hn1 rfl) (Nat.le_of_ble_eq_true rfl) (w_X12_isDone hn1 hn2 (d + 111) rw_54 hE k14) (fun h hE => ?_)
      by_cases c15 : ¬ r13 = 0
      · have hf := zif_t hf c15
        refine z_if_ne_t (tgt := 174) dX12_evening_47 (by decide) c15 ?_
        exact zW.sub (hex x4 S12 _ hE hf) [0, 1, 2, 3] rfl rfl rfl rfl
      · have hf := zif_f hf c15
        refine z_if_ne_f (tgt := 174) dX12_evening_47 (by decide) c15 ?_
        refine z_aload_n dX12_evening_50 rfl ?_
        refine z_aload_n dX12_evening_51 rfl ?_
        refine z_getI dX12_evening_52 tF_12_288 hE dr_41 rfl rfl ?_
        obtain ⟨r17, S16, k18, hf⟩ := zb_some hf
        refine z_callVi dX12_evening_55 tM_12_474 mt_12107 (Nat.le_of_ble_eq_true rfl) rfl rfl (z_recv hE dr_41 rfl) rfl (ia_oks_le hn1 rfl) (Nat.le_of_ble_eq_true rfl) (w_X12_draw hn1 hn2 (d + 111) hE k18) (fun h hE => ?_)
        refine z_istore (lv' := [(5, .int r17), (0, .ref 41), (1, .int i1), (2, .long i2), (4, .int x4)]) dX12_evening_58 (by decide) rfl ?_
        refine z_aload_n dX12_evening_60 rfl ?_
        refine z_aload_n dX12_evening_61 rfl ?_
        refine z_getI dX12_evening_62 tF_12_291 hE dr_41 rfl rfl ?_
        refine z_iconst (v := 1) dX12_evening_65 (by decide) ?_
        refine z_iadd dX12_evening_66 ?_
        obtain ⟨r20, S19, k21, hf⟩ := zb_some hf
        refine z_callVi dX12_evening_67 tM_12_474 mt_12107 (Nat.le_of_ble_eq_true rfl) rfl rfl (z_recv hE dr_41 rfl) rfl (ia_oks_le hn1 rfl) (Nat.le_of_ble_eq_true rfl) (w_X12_draw hn1 hn2 (d + 111) hE k21) (fun h hE => ?_)
        refine z_istore (lv' := [(6, .int r20), (5, .int r17), (0, .ref 41), (1, .int i1), (2, .long i2), (4, .int x4)]) dX12_evening_70 (by decide) rfl ?_
        refine z_aload_n dX12_evening_72 rfl ?_
        refine z_aload_n dX12_evening_73 rfl ?_
        refine z_getC dX12_evening_74 tF_12_43 hE dr_41 rfl rfl ?_
        refine z_iconst (v := 5) dX12_evening_77 (by decide) ?_
        refine z_iload dX12_evening_78 rfl ?_
        refine z_imul dX12_evening_80 ?_
        refine z_iconst (v := 4) dX12_evening_81 (by decide) ?_
        refine z_iadd dX12_evening_82 ?_
        obtain ⟨b22, hf⟩ := zchk hf
        refine z_ialoadL dX12_evening_83 hE dr_48 b22 rfl ?_
        refine z_iconst (v := 1) dX12_evening_84 (by decide) ?_
        refine z_iadd dX12_evening_85 ?_
        obtain ⟨r24, S23, k25, hf⟩ := zb_some hf
        refine z_callVi dX12_evening_86 tM_12_474 mt_12107 (Nat.le_of_ble_eq_true rfl) rfl rfl (z_recv hE dr_41 rfl) rfl (ia_oks_le hn1 rfl) (Nat.le_of_ble_eq_true rfl) (w_X12_draw hn1 hn2 (d + 111) hE k25) (fun h hE => ?_)
        refine z_istore (lv' := [(7, .int r24), (6, .int r20), (5, .int r17), (0, .ref 41), (1, .int i1), (2, .long i2), (4, .int x4)]) dX12_evening_89 (by decide) rfl ?_
        refine z_aload_n dX12_evening_91 rfl ?_
        obtain ⟨r27, S26, k28, hf⟩ := zb_some hf
        refine z_callVv dX12_evening_92 tM_12_358 mt_12054 (Nat.le_of_ble_eq_true rfl) rfl rfl (z_recv hE dr_41 rfl) rfl (ia_oks_le hn1 rfl) (Nat.le_of_ble_eq_true rfl) (w_X12_remember hn1 hn2 (d + 111) hE k28) (fun h hE => ?_)
        refine z_aload_n dX12_evening_95 rfl ?_
        refine z_aload_n dX12_evening_96 rfl ?_
        refine z_getC dX12_evening_97 tF_12_61 hE dr_41 rfl rfl ?_
        refine z_iload dX12_evening_100 rfl ?_
        refine z_iload dX12_evening_102 rfl ?_
        refine z_aload_n dX12_evening_104 rfl ?_
        refine z_getI dX12_evening_105 tF_12_291 hE dr_41 rfl rfl ?_
        obtain ⟨J30, eJ30, hf⟩ := zl_some hf
        have hJ30 : ∀ (q31 : Int32) (h : Nat → va_E), zE zDr h0 S26 (h, t) → J30 q31 = some R → zW (ia_P0 L xs fm) ia_nx (d + 112) 12 false cX12_evening 8 (some .int) 117 [(0, .ref 41), (1, .int i1), (2, .long i2), (4, .int x4), (5, .int r17), (6, .int r20), (7, .int r24)] [.int q31, .int r17, .ref 54, .ref 41] (h, t) (zQi zDr h0 t R) := by
          intro q31 h hE hf
          rw [eJ30] at hf
          refine z_aload_n dX12_evening_117 rfl ?_
          refine z_getC dX12_evening_118 tF_12_37 hE dr_41 rfl rfl ?_
          refine z_bipush (v := 6) dX12_evening_121 (by decide) ?_
          refine z_aload_n dX12_evening_123 rfl ?_
          refine z_getC dX12_evening_124 tF_12_61 hE dr_41 rfl rfl ?_
          refine z_bipush (v := 64) dX12_evening_127 (by decide) ?_
          refine z_ialoadL (i := 64) dX12_evening_129 hE dr_54 (by decide) (by decide) ?_
          refine z_imul dX12_evening_130 ?_
          refine z_iconst (v := 3) dX12_evening_131 (by decide) ?_
          refine z_iadd dX12_evening_132 ?_
          obtain ⟨b32, hf⟩ := zchk hf
          refine z_ialoadL dX12_evening_133 hE dr_46 b32 rfl ?_
          refine z_iload dX12_evening_134 rfl ?_
          obtain ⟨r34, S33, k35, hf⟩ := zb_some hf
          refine z_callVv dX12_evening_136 tM_12_350 mt_12055 (Nat.le_of_ble_eq_true rfl) rfl rfl (z_recv hE dr_41 rfl) rfl (ia_oks_le hn1 rfl) (Nat.le_of_ble_eq_true rfl) (w_X12_turns hn1 hn2 (d + 0) rw_54 hE k35) (fun h hE => ?_)
          refine z_aload_n dX12_evening_139 rfl ?_
          refine z_bipush (v := 100) dX12_evening_140 (by decide) ?_
          refine z_bipush (v := 10) dX12_evening_142 (by decide) ?_
          refine z_iload dX12_evening_144 rfl ?_
          refine z_imul dX12_evening_146 ?_
          refine z_iadd dX12_evening_147 ?_
          refine z_iload dX12_evening_148 rfl ?_
          refine z_aload_n dX12_evening_150 rfl ?_
          refine z_getI dX12_evening_151 tF_12_291 hE dr_41 rfl rfl ?_
          obtain ⟨J37, eJ37, hf⟩ := zl_some hf
          have hJ37 : ∀ (q38 : Int32) (h : Nat → va_E), zE zDr h0 S33 (h, t) → J37 q38 = some R → zW (ia_P0 L xs fm) ia_nx (d + 112) 12 false cX12_evening 8 (some .int) 164 [(0, .ref 41), (1, .int i1), (2, .long i2), (4, .int x4), (5, .int r17), (6, .int r20), (7, .int r24)] [.int q38, .int (100 + (10 * r17)), .ref 41] (h, t) (zQi zDr h0 t R) := by
            intro q38 h hE hf
            rw [eJ37] at hf
            refine z_iadd dX12_evening_164 ?_
            obtain ⟨r40, S39, k41, hf⟩ := zb_some hf
            refine z_callVv dX12_evening_165 tM_12_361 mt_12056 (Nat.le_of_ble_eq_true rfl) rfl rfl (z_recv hE dr_41 rfl) rfl (ia_oks_le hn1 rfl) (Nat.le_of_ble_eq_true rfl) (w_X12_writes hn1 hn2 (d + 111) hE k41) (fun h hE => ?_)
            obtain ⟨y42, ey42, hf⟩ := zl_some hf
            refine z_iincY (v := 1) (y := y42) (lv' := [(4, .int y42), (0, .ref 41), (1, .int i1), (2, .long i2), (5, .int r17), (6, .int r20), (7, .int r24)]) dX12_evening_168 rfl (by decide) (by decide) ey42 rfl ?_
            refine z_goto (tgt := 34) dX12_evening_171 (by decide) ?_
            exact zW.sub (ih y42 S39 _ hE hf) [1, 2, 3, 0] rfl rfl rfl rfl
          by_cases c36 : ¬ r20 = (S33.1 41 26)
          · have hf := zif_t hf c36
            refine z_icmp_ne_t (tgt := 162) dX12_evening_154 (by decide) c36 ?_
            refine z_iload dX12_evening_162 rfl ?_
            exact zW.sub (hJ37 r20 _ hE hf) [0, 1, 2, 3, 4, 5, 6] rfl rfl rfl rfl
          · have hf := zif_f hf c36
            refine z_icmp_ne_f (tgt := 162) dX12_evening_154 (by decide) c36 ?_
            refine z_bipush (v := 9) dX12_evening_157 (by decide) ?_
            refine z_goto (tgt := 164) dX12_evening_159 (by decide) ?_
            exact zW.sub (hJ37 9 _ hE hf) [0, 1, 2, 3, 4, 5, 6] rfl rfl rfl rfl
        by_cases c29 : ¬ r20 = (S26.1 41 26)
        · have hf := zif_t hf c29
          refine z_icmp_ne_t (tgt := 115) dX12_evening_108 (by decide) c29 ?_
          refine z_iload dX12_evening_115 rfl ?_
          exact zW.sub (hJ30 r20 _ hE hf) [3, 4, 5, 6, 2, 1, 0] rfl rfl rfl rfl
        · have hf := zif_f hf c29
          refine z_icmp_ne_f (tgt := 115) dX12_evening_108 (by decide) c29 ?_
          refine z_iconst (v := (-1)) dX12_evening_111 (by decide) ?_
          refine z_goto (tgt := 117) dX12_evening_112 (by decide) ?_
          exact zW.sub (hJ30 (-1) _ hE hf) [3, 4, 5, 6, 2, 1, 0] rfl rfl rfl rfl
theorem w_X12_evening {L : Nat} {xs : Nat → Int32} {fm : Bool} {h0 : Nat → va_E} {t : Nat × Nat × Nat} (hn1 : 64 ≤ t.1) (hn2 : t.1 ≤ 1000000) (d : Nat) {h : Nat → va_E} {S : zS} (hE : zE zDr h0 S (h, t)) {v1 : Int32} {v2 : Int64} {R : Int32 × zS} (hf : f_X12_evening v1 v2 S = some R) : zC (ia_P0 L xs fm) (d + 113) 12106 [.ref 41, .int v1, .long v2] (h, t) (zQi zDr h0 t R) := by
  refine zC_of mt_12106 nn_12106 (Nat.le_of_ble_eq_true rfl) ?_
  refine zW_lv (lv' := [(0, .ref 41), (1, .int v1), (2, .long v2)]) rfl ?_
  unfold f_X12_evening at hf
  refine z_aload_n dX12_evening_0 rfl ?_
  refine z_iconst (v := 0) dX12_evening_1 (by decide) ?_
  obtain ⟨S1, eS1, hf⟩ := zl_some hf
  refine z_putI dX12_evening_2 tF_12_93 hE dr_41 rfl rfl rfl rfl (fun h hE => ?_)
  rw [← eS1] at hE
  refine z_aload_n dX12_evening_5 rfl ?_
  obtain ⟨r3, S2, k4, hf⟩ := zb_some hf
  refine z_callVi dX12_evening_6 tM_12_364 mt_12058 (Nat.le_of_ble_eq_true rfl) rfl rfl (z_recv hE dr_41 rfl) rfl (ia_oks_le hn1 rfl) (Nat.le_of_ble_eq_true rfl) (w_X12_canWork hn1 hn2 (d + 110) hE k4) (fun h hE => ?_)
  by_cases c5 : r3 = 0
  · have hf := zif_t hf c5
    refine z_if_eq_t (tgt := 24) dX12_evening_9 (by decide) c5 ?_
    refine z_iconst (v := (-1)) dX12_evening_24 (by decide) ?_
    have e_ := Option.some.inj hf
    subst e_
    exact z_ireturn dX12_evening_25 rfl ⟨h, rfl, rfl, hE⟩
  · have hf := zif_f hf c5
    refine z_if_eq_f (tgt := 24) dX12_evening_9 (by decide) c5 ?_
    refine z_iload_n dX12_evening_12 rfl ?_
    refine z_i2l dX12_evening_13 ?_
    refine z_lconst (v := 1) dX12_evening_14 (by decide) ?_
    refine z_ldc2 dX12_evening_15 tK_12_472 ?_
    obtain ⟨r7, S6, k8, hf⟩ := zb_some hf
    refine z_callSi dX12_evening_18 tM_12_214 (by decide) mt_12007 (Nat.le_of_ble_eq_true rfl) rfl rfl (ia_oks_le hn1 rfl) (Nat.le_of_ble_eq_true rfl) (w_X12_isIn hn1 hn2 (d + 111) hE k8) (fun h hE => ?_)
    by_cases c9 : ¬ r7 = 0
    · have hf := zif_t hf c9
      refine z_if_ne_t (tgt := 26) dX12_evening_21 (by decide) c9 ?_
      refine z_aload_n dX12_evening_26 rfl ?_
      refine z_lload_n dX12_evening_27 rfl ?_
      obtain ⟨S10, eS10, hf⟩ := zl_some hf
      refine z_putK dX12_evening_28 tF_12_464 hE dr_41 rfl rfl rfl rfl (fun h hE => ?_)
      rw [← eS10] at hE
      refine z_iconst (v := 0) dX12_evening_31 (by decide) ?_
      refine z_istore (lv' := [(4, .int 0), (0, .ref 41), (1, .int v1), (2, .long v2)]) dX12_evening_32 (by decide) rfl ?_
      refine zW.sub (w_X12_evening_L34 hn1 hn2 d (fun q44 S43 h hE hf => ?_) zN 0 S10 h hE hf) [1, 2, 3, 0] rfl rfl rfl rfl
      try dsimp only at hf
      refine z_iload dX12_evening_174 rfl ?_
      have e_ := Option.some.inj hf
      subst e_
      exact z_ireturn dX12_evening_176 rfl ⟨h, rfl, rfl, hE⟩
    · have hf := zif_f hf c9
      refine z_if_ne_f (tgt := 26) dX12_evening_21 (by decide) c9 ?_
      refine z_iconst (v := (-1)) dX12_evening_24 (by decide) ?_
      have e_ := Option.some.inj hf
      subst e_
      exact z_ireturn dX12_evening_25 rfl ⟨h, rfl, rfl, hE⟩
def f_X12_perform_L34 (ex : Int32 → Int32 → zS → Option (Int32 × zS)) (i1 : Int32) : Nat → Int32 → Int32 → zS → Option (Int32 × zS)
  | 0, _, _, _ => none
  | k + 1, x2, x3, S =>
    if ia_in i1 5 = true then
    if (S.1 53 i1.toNatClampNeg) ≤ x3 then
    ex x2 x3 S
    else
    zb (f_X12_isDone 54 S) fun r13 S12 =>
    if ¬ r13 = 0 then
    ex x2 x3 S12
    else
    if ia_in ((16 * i1) + x3) 80 = true then
    zl (S12.1 52 ((16 * i1) + x3).toNatClampNeg) fun (y17 : Int32) =>
    zb (f_X12_isStep y17 S12) fun r19 S18 =>
    zl (fun (q24 : Int32) (S23 : zS) =>
    zl (x3 + 1) fun (y25 : Int32) =>
    f_X12_perform_L34 ex i1 k q24 y25 S23) fun J22 =>
    if ¬ r19 = 0 then
    zb (f_X12_remember S18) fun _ S26 =>
    zb (f_X12_does 54 y17 S26) fun _ S29 =>
    zb (f_X12_writes y17 S29) fun _ S32 =>
    zl (x2 + 1) fun (y35 : Int32) =>
    J22 y35 S32
    else
    J22 x2 S18
    else none
    else none
def f_X12_perform (v1 : Int32) (S : zS) : Option (Int32 × zS) :=
zl (sV S 41 0 0) fun S1 =>
zb (f_X12_canWork S1) fun r3 S2 =>
if r3 = 0 then
some ((-1), S2)
else
zb (f_X12_isIn (v1.toInt64) 0 (((S2.1 41 32) - 1).toInt64) S2) fun r7 S6 =>
if ¬ r7 = 0 then
f_X12_perform_L34 (fun (q37 : Int32) (q38 : Int32) (S36 : zS) =>
some (q37, S36)) v1 zN 0 0 S6
else
some ((-1), S6)
theorem w_X12_perform_L34 {L : Nat} {xs : Nat → Int32} {fm : Bool} {h0 : Nat → va_E} {t : Nat × Nat × Nat} (hn1 : 64 ≤ t.1) (hn2 : t.1 ≤ 1000000) (d : Nat) {ex : Int32 → Int32 → zS → Option (Int32 × zS)} {i1 : Int32} {R : Int32 × zS} (hex : ∀ (x2 : Int32) (x3 : Int32) (S : zS) (h : Nat → va_E), zE zDr h0 S (h, t) → ex x2 x3 S = some R → zW (ia_P0 L xs fm) ia_nx (d + 113) 12 false cX12_perform 5 (some .int) 108 [(0, .ref 41), (1, .int i1), (2, .int x2), (3, .int x3)] [] (h, t) (zQi zDr h0 t R)) : ∀ (k : Nat) (x2 : Int32) (x3 : Int32) (S : zS) (h : Nat → va_E), zE zDr h0 S (h, t) → f_X12_perform_L34 ex i1 k x2 x3 S = some R → zW (ia_P0 L xs fm) ia_nx (d + 113) 12 false cX12_perform 5 (some .int) 34 [(0, .ref 41), (1, .int i1), (2, .int x2), (3, .int x3)] [] (h, t) (zQi zDr h0 t R) := by
  intro k
  induction k with
  | zero => intro x2 x3 S h hE hf; cases hf
  | succ k ih =>
    intro x2 x3 S h hE hf
    unfold f_X12_perform_L34 at hf
    refine z_iload_n dX12_perform_34 rfl ?_
    refine z_aload_n dX12_perform_35 rfl ?_
    refine z_getC dX12_perform_36 tF_12_58 hE dr_41 rfl rfl ?_
    refine z_iload_n dX12_perform_39 rfl ?_
    obtain ⟨b10, hf⟩ := zchk hf
    refine z_ialoadL dX12_perform_40 hE dr_53 b10 rfl ?_
    by_cases c11 : (S.1 53 i1.toNatClampNeg) ≤ x3
    · have hf := zif_t hf c11
      refine z_icmp_ge_t (tgt := 108) dX12_perform_41 (by decide) c11 ?_
      exact zW.sub (hex x2 x3 S _ hE hf) [0, 1, 2, 3] rfl rfl rfl rfl
    · have hf := zif_f hf c11
      refine z_icmp_ge_f (tgt := 108) dX12_perform_41 (by decide) c11 ?_
      refine z_aload_n dX12_perform_44 rfl ?_
      refine z_getC dX12_perform_45 tF_12_61 hE dr_41 rfl rfl ?_
      obtain ⟨r13, S12, k14, hf⟩ := zb_some hf
      refine z_callSi dX12_perform_48 tM_12_354 (by decide) mt_12053 (Nat.le_of_ble_eq_true rfl) rfl rfl (ia_oks_le hn1 rfl) (Nat.le_of_ble_eq_true rfl) (w_X12_isDone hn1 hn2 (d + 112) rw_54 hE k14) (fun h hE => ?_)
      by_cases c15 : ¬ r13 = 0
      · have hf := zif_t hf c15
        refine z_if_ne_t (tgt := 108) dX12_perform_51 (by decide) c15 ?_
        exact zW.sub (hex x2 x3 S12 _ hE hf) [0, 1, 2, 3] rfl rfl rfl rfl
      · have hf := zif_f hf c15
        refine z_if_ne_f (tgt := 108) dX12_perform_51 (by decide) c15 ?_
        refine z_aload_n dX12_perform_54 rfl ?_
        refine z_getC dX12_perform_55 tF_12_55 hE dr_41 rfl rfl ?_
        refine z_bipush (v := 16) dX12_perform_58 (by decide) ?_
        refine z_iload_n dX12_perform_60 rfl ?_
        refine z_imul dX12_perform_61 ?_
        refine z_iload_n dX12_perform_62 rfl ?_
        refine z_iadd dX12_perform_63 ?_
        obtain ⟨b16, hf⟩ := zchk hf
        refine z_ialoadL dX12_perform_64 hE dr_52 b16 rfl ?_
        obtain ⟨y17, ey17, hf⟩ := zl_some hf
        refine z_topi ey17 ?_
        refine z_istore (lv' := [(4, .int y17), (0, .ref 41), (1, .int i1), (2, .int x2), (3, .int x3)]) dX12_perform_65 (by decide) rfl ?_
        refine z_aload_n dX12_perform_67 rfl ?_
        refine z_iload dX12_perform_68 rfl ?_
        obtain ⟨r19, S18, k20, hf⟩ := zb_some hf
        refine z_callVi dX12_perform_70 tM_12_375 mt_12073 (Nat.le_of_ble_eq_true rfl) rfl rfl (z_recv hE dr_41 rfl) rfl (ia_oks_le hn1 rfl) (Nat.le_of_ble_eq_true rfl) (w_X12_isStep hn1 hn2 (d + 111) hE k20) (fun h hE => ?_)
        obtain ⟨J22, eJ22, hf⟩ := zl_some hf
        have hJ22 : ∀ (q24 : Int32) (S23 : zS) (h : Nat → va_E), zE zDr h0 S23 (h, t) → J22 q24 S23 = some R → zW (ia_P0 L xs fm) ia_nx (d + 113) 12 false cX12_perform 5 (some .int) 102 [(0, .ref 41), (1, .int i1), (2, .int q24), (3, .int x3), (4, .int y17)] [] (h, t) (zQi zDr h0 t R) := by
          intro q24 S23 h hE hf
          rw [eJ22] at hf
          obtain ⟨y25, ey25, hf⟩ := zl_some hf
          refine z_iincY (v := 1) (y := y25) (lv' := [(3, .int y25), (0, .ref 41), (1, .int i1), (2, .int q24), (4, .int y17)]) dX12_perform_102 rfl (by decide) (by decide) ey25 rfl ?_
          refine z_goto (tgt := 34) dX12_perform_105 (by decide) ?_
          exact zW.sub (ih q24 y25 S23 _ hE hf) [1, 2, 3, 0] rfl rfl rfl rfl
        by_cases c21 : ¬ r19 = 0
        · have hf := zif_t hf c21
          refine z_if_ne_t (tgt := 79) dX12_perform_73 (by decide) c21 ?_
          refine z_aload_n dX12_perform_79 rfl ?_
          obtain ⟨r27, S26, k28, hf⟩ := zb_some hf
          refine z_callVv dX12_perform_80 tM_12_358 mt_12054 (Nat.le_of_ble_eq_true rfl) rfl rfl (z_recv hE dr_41 rfl) rfl (ia_oks_le hn1 rfl) (Nat.le_of_ble_eq_true rfl) (w_X12_remember hn1 hn2 (d + 112) hE k28) (fun h hE => ?_)
          refine z_aload_n dX12_perform_83 rfl ?_
          refine z_aload_n dX12_perform_84 rfl ?_
          refine z_getC dX12_perform_85 tF_12_61 hE dr_41 rfl rfl ?_
          refine z_iload dX12_perform_88 rfl ?_
          obtain ⟨r30, S29, k31, hf⟩ := zb_some hf
          refine z_callVv dX12_perform_90 tM_12_382 mt_12074 (Nat.le_of_ble_eq_true rfl) rfl rfl (z_recv hE dr_41 rfl) rfl (ia_oks_le hn1 rfl) (Nat.le_of_ble_eq_true rfl) (w_X12_does hn1 hn2 (d + 0) rw_54 hE k31) (fun h hE => ?_)
          refine z_aload_n dX12_perform_93 rfl ?_
          refine z_iload dX12_perform_94 rfl ?_
          obtain ⟨r33, S32, k34, hf⟩ := zb_some hf
          refine z_callVv dX12_perform_96 tM_12_361 mt_12056 (Nat.le_of_ble_eq_true rfl) rfl rfl (z_recv hE dr_41 rfl) rfl (ia_oks_le hn1 rfl) (Nat.le_of_ble_eq_true rfl) (w_X12_writes hn1 hn2 (d + 112) hE k34) (fun h hE => ?_)
          obtain ⟨y35, ey35, hf⟩ := zl_some hf
          refine z_iincY (v := 1) (y := y35) (lv' := [(2, .int y35), (4, .int y17), (0, .ref 41), (1, .int i1), (3, .int x3)]) dX12_perform_99 rfl (by decide) (by decide) ey35 rfl ?_
          exact zW.sub (hJ22 y35 S32 _ hE hf) [2, 3, 0, 4, 1] rfl rfl rfl rfl
        · have hf := zif_f hf c21
          refine z_if_ne_f (tgt := 79) dX12_perform_73 (by decide) c21 ?_
          refine z_goto (tgt := 102) dX12_perform_76 (by decide) ?_
          exact zW.sub (hJ22 x2 S18 _ hE hf) [1, 2, 3, 4, 0] rfl rfl rfl rfl
theorem w_X12_perform {L : Nat} {xs : Nat → Int32} {fm : Bool} {h0 : Nat → va_E} {t : Nat × Nat × Nat} (hn1 : 64 ≤ t.1) (hn2 : t.1 ≤ 1000000) (d : Nat) {h : Nat → va_E} {S : zS} (hE : zE zDr h0 S (h, t)) {v1 : Int32} {R : Int32 × zS} (hf : f_X12_perform v1 S = some R) : zC (ia_P0 L xs fm) (d + 114) 12083 [.ref 41, .int v1] (h, t) (zQi zDr h0 t R) := by
  refine zC_of mt_12083 nn_12083 (Nat.le_of_ble_eq_true rfl) ?_
  refine zW_lv (lv' := [(0, .ref 41), (1, .int v1)]) rfl ?_
  unfold f_X12_perform at hf
  refine z_aload_n dX12_perform_0 rfl ?_
  refine z_iconst (v := 0) dX12_perform_1 (by decide) ?_
  obtain ⟨S1, eS1, hf⟩ := zl_some hf
  refine z_putI dX12_perform_2 tF_12_93 hE dr_41 rfl rfl rfl rfl (fun h hE => ?_)
  rw [← eS1] at hE
  refine z_aload_n dX12_perform_5 rfl ?_
  obtain ⟨r3, S2, k4, hf⟩ := zb_some hf
  refine z_callVi dX12_perform_6 tM_12_364 mt_12058 (Nat.le_of_ble_eq_true rfl) rfl rfl (z_recv hE dr_41 rfl) rfl (ia_oks_le hn1 rfl) (Nat.le_of_ble_eq_true rfl) (w_X12_canWork hn1 hn2 (d + 111) hE k4) (fun h hE => ?_)
  by_cases c5 : r3 = 0
  · have hf := zif_t hf c5
    refine z_if_eq_t (tgt := 28) dX12_perform_9 (by decide) c5 ?_
    refine z_iconst (v := (-1)) dX12_perform_28 (by decide) ?_
    have e_ := Option.some.inj hf
    subst e_
    exact z_ireturn dX12_perform_29 rfl ⟨h, rfl, rfl, hE⟩
  · have hf := zif_f hf c5
    refine z_if_eq_f (tgt := 28) dX12_perform_9 (by decide) c5 ?_
    refine z_iload_n dX12_perform_12 rfl ?_
    refine z_i2l dX12_perform_13 ?_
    refine z_lconst (v := 0) dX12_perform_14 (by decide) ?_
    refine z_aload_n dX12_perform_15 rfl ?_
    refine z_getI dX12_perform_16 tF_12_280 hE dr_41 rfl rfl ?_
    refine z_iconst (v := 1) dX12_perform_19 (by decide) ?_
    refine z_isub dX12_perform_20 ?_
    refine z_i2l dX12_perform_21 ?_
    obtain ⟨r7, S6, k8, hf⟩ := zb_some hf
    refine z_callSi dX12_perform_22 tM_12_214 (by decide) mt_12007 (Nat.le_of_ble_eq_true rfl) rfl rfl (ia_oks_le hn1 rfl) (Nat.le_of_ble_eq_true rfl) (w_X12_isIn hn1 hn2 (d + 112) hE k8) (fun h hE => ?_)
    by_cases c9 : ¬ r7 = 0
    · have hf := zif_t hf c9
      refine z_if_ne_t (tgt := 30) dX12_perform_25 (by decide) c9 ?_
      refine z_iconst (v := 0) dX12_perform_30 (by decide) ?_
      refine z_istore_n (lv' := [(2, .int 0), (0, .ref 41), (1, .int v1)]) dX12_perform_31 (by decide) rfl ?_
      refine z_iconst (v := 0) dX12_perform_32 (by decide) ?_
      refine z_istore_n (lv' := [(3, .int 0), (2, .int 0), (0, .ref 41), (1, .int v1)]) dX12_perform_33 (by decide) rfl ?_
      refine zW.sub (w_X12_perform_L34 hn1 hn2 d (fun q37 q38 S36 h hE hf => ?_) zN 0 0 S6 h hE hf) [2, 3, 1, 0] rfl rfl rfl rfl
      try dsimp only at hf
      refine z_iload_n dX12_perform_108 rfl ?_
      have e_ := Option.some.inj hf
      subst e_
      exact z_ireturn dX12_perform_109 rfl ⟨h, rfl, rfl, hE⟩
    · have hf := zif_f hf c9
      refine z_if_ne_f (tgt := 30) dX12_perform_25 (by decide) c9 ?_
      refine z_iconst (v := (-1)) dX12_perform_28 (by decide) ?_
      have e_ := Option.some.inj hf
      subst e_
      exact z_ireturn dX12_perform_29 rfl ⟨h, rfl, rfl, hE⟩
def f_X12_log (v1 : Int32) (v2 : Int32) (S : zS) : Option (Int32 × zS) :=
zl (sV S 41 0 0) fun S1 =>
zb (f_X12_isIn (v1.toInt64) 0 (((S1.1 41 40) - 1).toInt64) S1) fun r3 S2 =>
if r3 = 0 then
some ((-1), S2)
else
zb (f_X12_isIn (v2.toInt64) 0 1 S2) fun r7 S6 =>
if ¬ r7 = 0 then
if ¬ v2 = 0 then
if ia_in (((S6.1 41 40) - 1) - v1) 60 = true then
some (S6.1 58 (((S6.1 41 40) - 1) - v1).toNatClampNeg, S6)
else none
else
if ia_in (((S6.1 41 40) - 1) - v1) 60 = true then
some (S6.1 57 (((S6.1 41 40) - 1) - v1).toNatClampNeg, S6)
else none
else
some ((-1), S6)
theorem w_X12_log {L : Nat} {xs : Nat → Int32} {fm : Bool} {h0 : Nat → va_E} {t : Nat × Nat × Nat} (hn1 : 64 ≤ t.1) (hn2 : t.1 ≤ 1000000) (d : Nat) {h : Nat → va_E} {S : zS} (hE : zE zDr h0 S (h, t)) {v1 : Int32} {v2 : Int32} {R : Int32 × zS} (hf : f_X12_log v1 v2 S = some R) : zC (ia_P0 L xs fm) (d + 2) 12069 [.ref 41, .int v1, .int v2] (h, t) (zQi zDr h0 t R) := by
  refine zC_of mt_12069 nn_12069 (Nat.le_of_ble_eq_true rfl) ?_
  refine zW_lv (lv' := [(0, .ref 41), (1, .int v1), (2, .int v2)]) rfl ?_
  unfold f_X12_log at hf
  refine z_aload_n dX12_log_0 rfl ?_
  refine z_iconst (v := 0) dX12_log_1 (by decide) ?_
  obtain ⟨S1, eS1, hf⟩ := zl_some hf
  refine z_putI dX12_log_2 tF_12_93 hE dr_41 rfl rfl rfl rfl (fun h hE => ?_)
  rw [← eS1] at hE
  refine z_iload_n dX12_log_5 rfl ?_
  refine z_i2l dX12_log_6 ?_
  refine z_lconst (v := 0) dX12_log_7 (by decide) ?_
  refine z_aload_n dX12_log_8 rfl ?_
  refine z_getI dX12_log_9 tF_12_300 hE dr_41 rfl rfl ?_
  refine z_iconst (v := 1) dX12_log_12 (by decide) ?_
  refine z_isub dX12_log_13 ?_
  refine z_i2l dX12_log_14 ?_
  obtain ⟨r3, S2, k4, hf⟩ := zb_some hf
  refine z_callSi dX12_log_15 tM_12_214 (by decide) mt_12007 (Nat.le_of_ble_eq_true rfl) rfl rfl (ia_oks_le hn1 rfl) (Nat.le_of_ble_eq_true rfl) (w_X12_isIn hn1 hn2 (d + 0) hE k4) (fun h hE => ?_)
  by_cases c5 : r3 = 0
  · have hf := zif_t hf c5
    refine z_if_eq_t (tgt := 31) dX12_log_18 (by decide) c5 ?_
    refine z_iconst (v := (-1)) dX12_log_31 (by decide) ?_
    have e_ := Option.some.inj hf
    subst e_
    exact z_ireturn dX12_log_32 rfl ⟨h, rfl, rfl, hE⟩
  · have hf := zif_f hf c5
    refine z_if_eq_f (tgt := 31) dX12_log_18 (by decide) c5 ?_
    refine z_iload_n dX12_log_21 rfl ?_
    refine z_i2l dX12_log_22 ?_
    refine z_lconst (v := 0) dX12_log_23 (by decide) ?_
    refine z_lconst (v := 1) dX12_log_24 (by decide) ?_
    obtain ⟨r7, S6, k8, hf⟩ := zb_some hf
    refine z_callSi dX12_log_25 tM_12_214 (by decide) mt_12007 (Nat.le_of_ble_eq_true rfl) rfl rfl (ia_oks_le hn1 rfl) (Nat.le_of_ble_eq_true rfl) (w_X12_isIn hn1 hn2 (d + 0) hE k8) (fun h hE => ?_)
    by_cases c9 : ¬ r7 = 0
    · have hf := zif_t hf c9
      refine z_if_ne_t (tgt := 33) dX12_log_28 (by decide) c9 ?_
      refine z_iload_n dX12_log_33 rfl ?_
      by_cases c10 : ¬ v2 = 0
      · have hf := zif_t hf c10
        refine z_if_ne_t (tgt := 53) dX12_log_34 (by decide) c10 ?_
        refine z_aload_n dX12_log_53 rfl ?_
        refine z_getC dX12_log_54 tF_12_77 hE dr_41 rfl rfl ?_
        refine z_aload_n dX12_log_57 rfl ?_
        refine z_getI dX12_log_58 tF_12_300 hE dr_41 rfl rfl ?_
        refine z_iconst (v := 1) dX12_log_61 (by decide) ?_
        refine z_isub dX12_log_62 ?_
        refine z_iload_n dX12_log_63 rfl ?_
        refine z_isub dX12_log_64 ?_
        obtain ⟨b11, hf⟩ := zchk hf
        refine z_ialoadL dX12_log_65 hE dr_58 b11 rfl ?_
        have e_ := Option.some.inj hf
        subst e_
        exact z_ireturn dX12_log_66 rfl ⟨h, rfl, rfl, hE⟩
      · have hf := zif_f hf c10
        refine z_if_ne_f (tgt := 53) dX12_log_34 (by decide) c10 ?_
        refine z_aload_n dX12_log_37 rfl ?_
        refine z_getC dX12_log_38 tF_12_74 hE dr_41 rfl rfl ?_
        refine z_aload_n dX12_log_41 rfl ?_
        refine z_getI dX12_log_42 tF_12_300 hE dr_41 rfl rfl ?_
        refine z_iconst (v := 1) dX12_log_45 (by decide) ?_
        refine z_isub dX12_log_46 ?_
        refine z_iload_n dX12_log_47 rfl ?_
        refine z_isub dX12_log_48 ?_
        obtain ⟨b12, hf⟩ := zchk hf
        refine z_ialoadL dX12_log_49 hE dr_57 b12 rfl ?_
        refine z_goto (tgt := 66) dX12_log_50 (by decide) ?_
        have e_ := Option.some.inj hf
        subst e_
        exact z_ireturn dX12_log_66 rfl ⟨h, rfl, rfl, hE⟩
    · have hf := zif_f hf c9
      refine z_if_ne_f (tgt := 33) dX12_log_28 (by decide) c9 ?_
      refine z_iconst (v := (-1)) dX12_log_31 (by decide) ?_
      have e_ := Option.some.inj hf
      subst e_
      exact z_ireturn dX12_log_32 rfl ⟨h, rfl, rfl, hE⟩
def f_X12_copy_rw_62_L2 (w : Nat) (ex : Int32 → zS → Option (Unit × zS))  : Nat → Int32 → zS → Option (Unit × zS)
  | 0, _, _ => none
  | k + 1, x3, S =>
    if 66 ≤ x3 then
    ex x3 S
    else
    if ia_in x3 66 = true then
    if ia_in x3 66 = true then
    zl (sV S 62 (x3.toNatClampNeg) (S.1 w x3.toNatClampNeg)) fun S4 =>
    zl (x3 + 1) fun (y5 : Int32) =>
    f_X12_copy_rw_62_L2 w ex k y5 S4
    else none
    else none
def f_X12_copy_rw_62 (w : Nat) (S : zS) : Option (Unit × zS) :=
f_X12_copy_rw_62_L2 w (fun (q7 : Int32) (S6 : zS) =>
some ((), S6))  zN 0 S
theorem w_X12_copy_rw_62_L2 {L : Nat} {xs : Nat → Int32} {fm : Bool} {h0 : Nat → va_E} {t : Nat × Nat × Nat} (hn1 : 64 ≤ t.1) (hn2 : t.1 ≤ 1000000) (d : Nat) {w : Nat} (ho_w : zRw w) {ex : Int32 → zS → Option (Unit × zS)} {R : Unit × zS} (hex : ∀ (x3 : Int32) (S : zS) (h : Nat → va_E), zE zDr h0 S (h, t) → ex x3 S = some R → zW (ia_P0 L xs fm) ia_nx (d + 0) 12 false cX12_copy 4 (none) 20 [(0, .ref 41), (1, .ref w), (2, .ref 62), (3, .int x3)] [] (h, t) (zQv zDr h0 t R)) : ∀ (k : Nat) (x3 : Int32) (S : zS) (h : Nat → va_E), zE zDr h0 S (h, t) → f_X12_copy_rw_62_L2 w ex  k x3 S = some R → zW (ia_P0 L xs fm) ia_nx (d + 0) 12 false cX12_copy 4 (none) 2 [(0, .ref 41), (1, .ref w), (2, .ref 62), (3, .int x3)] [] (h, t) (zQv zDr h0 t R) := by
  intro k
  induction k with
  | zero => intro x3 S h hE hf; cases hf
  | succ k ih =>
    intro x3 S h hE hf
    unfold f_X12_copy_rw_62_L2 at hf
    refine z_iload_n dX12_copy_2 rfl ?_
    refine z_bipush (v := 66) dX12_copy_3 (by decide) ?_
    by_cases c1 : 66 ≤ x3
    · have hf := zif_t hf c1
      refine z_icmp_ge_t (tgt := 20) dX12_copy_5 (by decide) c1 ?_
      exact zW.sub (hex x3 S _ hE hf) [0, 1, 2, 3] rfl rfl rfl rfl
    · have hf := zif_f hf c1
      refine z_icmp_ge_f (tgt := 20) dX12_copy_5 (by decide) c1 ?_
      refine z_aload_n dX12_copy_8 rfl ?_
      refine z_iload_n dX12_copy_9 rfl ?_
      refine z_aload_n dX12_copy_10 rfl ?_
      refine z_iload_n dX12_copy_11 rfl ?_
      obtain ⟨b2, hf⟩ := zchk hf
      refine z_ialoadL dX12_copy_12 hE ho_w.1 b2 rfl ?_
      obtain ⟨b3, hf⟩ := zchk hf
      obtain ⟨S4, eS4, hf⟩ := zl_some hf
      refine z_iastoreL (i := x3.toNatClampNeg) dX12_copy_13 hE dr_62 b3 rfl (fun h hE => ?_)
      rw [← eS4] at hE
      obtain ⟨y5, ey5, hf⟩ := zl_some hf
      refine z_iincY (v := 1) (y := y5) (lv' := [(3, .int y5), (0, .ref 41), (1, .ref w), (2, .ref 62)]) dX12_copy_14 rfl (by decide) (by decide) ey5 rfl ?_
      refine z_goto (tgt := 2) dX12_copy_17 (by decide) ?_
      exact zW.sub (ih y5 S4 _ hE hf) [1, 2, 3, 0] rfl rfl rfl rfl
theorem w_X12_copy_rw_62 {L : Nat} {xs : Nat → Int32} {fm : Bool} {h0 : Nat → va_E} {t : Nat × Nat × Nat} (hn1 : 64 ≤ t.1) (hn2 : t.1 ≤ 1000000) (d : Nat) {w : Nat} (ho_w : zRw w) {h : Nat → va_E} {S : zS} (hE : zE zDr h0 S (h, t)) {R : Unit × zS} (hf : f_X12_copy_rw_62 w S = some R) : zC (ia_P0 L xs fm) (d + 1) 12079 [.ref 41, .ref w, .ref 62] (h, t) (zQv zDr h0 t R) := by
  refine zC_of mt_12079 nn_12079 (Nat.le_of_ble_eq_true rfl) ?_
  refine zW_lv (lv' := [(0, .ref 41), (1, .ref w), (2, .ref 62)]) rfl ?_
  unfold f_X12_copy_rw_62 at hf
  refine z_iconst (v := 0) dX12_copy_0 (by decide) ?_
  refine z_istore_n (lv' := [(3, .int 0), (0, .ref 41), (1, .ref w), (2, .ref 62)]) dX12_copy_1 (by decide) rfl ?_
  refine zW.sub (w_X12_copy_rw_62_L2 hn1 hn2 d ho_w (fun q7 S6 h hE hf => ?_) zN 0 S h hE hf) [1, 2, 3, 0] rfl rfl rfl rfl
  try dsimp only at hf
  have e_ := Option.some.inj hf
  subst e_
  exact z_vreturn dX12_copy_20 rfl ⟨h, rfl, rfl, hE⟩
def f_X12_image  (S : zS) : Option (Int32 × zS) :=
zl (sV S 41 0 0) fun S1 =>
if ¬ (S1.1 41 24) = 0 then
zb (f_X12_copy_rw_62 54 S1) fun _ S3 =>
zl (sV S3 41 53 1) fun S6 =>
some (S6.1 54 65, S6)
else
some ((-1), S1)
theorem w_X12_image {L : Nat} {xs : Nat → Int32} {fm : Bool} {h0 : Nat → va_E} {t : Nat × Nat × Nat} (hn1 : 64 ≤ t.1) (hn2 : t.1 ≤ 1000000) (d : Nat) {h : Nat → va_E} {S : zS} (hE : zE zDr h0 S (h, t)) {R : Int32 × zS} (hf : f_X12_image  S = some R) : zC (ia_P0 L xs fm) (d + 2) 12108 [.ref 41] (h, t) (zQi zDr h0 t R) := by
  refine zC_of mt_12108 nn_12108 (Nat.le_of_ble_eq_true rfl) ?_
  refine zW_lv (lv' := [(0, .ref 41)]) rfl ?_
  unfold f_X12_image at hf
  refine z_aload_n dX12_image_0 rfl ?_
  refine z_iconst (v := 0) dX12_image_1 (by decide) ?_
  obtain ⟨S1, eS1, hf⟩ := zl_some hf
  refine z_putI dX12_image_2 tF_12_93 hE dr_41 rfl rfl rfl rfl (fun h hE => ?_)
  rw [← eS1] at hE
  refine z_aload_n dX12_image_5 rfl ?_
  refine z_getI dX12_image_6 tF_12_285 hE dr_41 rfl rfl ?_
  by_cases c2 : ¬ (S1.1 41 24) = 0
  · have hf := zif_t hf c2
    refine z_if_ne_t (tgt := 14) dX12_image_9 (by decide) c2 ?_
    refine z_aload_n dX12_image_14 rfl ?_
    refine z_aload_n dX12_image_15 rfl ?_
    refine z_getC dX12_image_16 tF_12_61 hE dr_41 rfl rfl ?_
    refine z_aload_n dX12_image_19 rfl ?_
    refine z_getC dX12_image_20 tF_12_90 hE dr_41 rfl rfl ?_
    obtain ⟨r4, S3, k5, hf⟩ := zb_some hf
    refine z_callVv dX12_image_23 tM_12_404 mt_12079 (Nat.le_of_ble_eq_true rfl) rfl rfl (z_recv hE dr_41 rfl) rfl (ia_oks_le hn1 rfl) (Nat.le_of_ble_eq_true rfl) (w_X12_copy_rw_62 hn1 hn2 (d + 0) rw_54 hE k5) (fun h hE => ?_)
    refine z_aload_n dX12_image_26 rfl ?_
    refine z_iconst (v := 1) dX12_image_27 (by decide) ?_
    obtain ⟨S6, eS6, hf⟩ := zl_some hf
    refine z_putI dX12_image_28 tF_12_303 hE dr_41 rfl rfl (show ia_fit .boolean (.int 1) = true from by decide) rfl (fun h hE => ?_)
    rw [← eS6] at hE
    refine z_aload_n dX12_image_31 rfl ?_
    refine z_getC dX12_image_32 tF_12_61 hE dr_41 rfl rfl ?_
    refine z_bipush (v := 65) dX12_image_35 (by decide) ?_
    refine z_ialoadL (i := 65) dX12_image_37 hE dr_54 (by decide) (by decide) ?_
    have e_ := Option.some.inj hf
    subst e_
    exact z_ireturn dX12_image_38 rfl ⟨h, rfl, rfl, hE⟩
  · have hf := zif_f hf c2
    refine z_if_ne_f (tgt := 14) dX12_image_9 (by decide) c2 ?_
    refine z_iconst (v := (-1)) dX12_image_12 (by decide) ?_
    have e_ := Option.some.inj hf
    subst e_
    exact z_ireturn dX12_image_13 rfl ⟨h, rfl, rfl, hE⟩
def f_X12_copy_62_rw_L2 (w : Nat) (ex : Int32 → zS → Option (Unit × zS))  : Nat → Int32 → zS → Option (Unit × zS)
  | 0, _, _ => none
  | k + 1, x3, S =>
    if 66 ≤ x3 then
    ex x3 S
    else
    if ia_in x3 66 = true then
    if ia_in x3 66 = true then
    zl (sV S w (x3.toNatClampNeg) (S.1 62 x3.toNatClampNeg)) fun S4 =>
    zl (x3 + 1) fun (y5 : Int32) =>
    f_X12_copy_62_rw_L2 w ex k y5 S4
    else none
    else none
def f_X12_copy_62_rw (w : Nat) (S : zS) : Option (Unit × zS) :=
f_X12_copy_62_rw_L2 w (fun (q7 : Int32) (S6 : zS) =>
some ((), S6))  zN 0 S
theorem w_X12_copy_62_rw_L2 {L : Nat} {xs : Nat → Int32} {fm : Bool} {h0 : Nat → va_E} {t : Nat × Nat × Nat} (hn1 : 64 ≤ t.1) (hn2 : t.1 ≤ 1000000) (d : Nat) {w : Nat} (ho_w : zRw w) {ex : Int32 → zS → Option (Unit × zS)} {R : Unit × zS} (hex : ∀ (x3 : Int32) (S : zS) (h : Nat → va_E), zE zDr h0 S (h, t) → ex x3 S = some R → zW (ia_P0 L xs fm) ia_nx (d + 0) 12 false cX12_copy 4 (none) 20 [(0, .ref 41), (1, .ref 62), (2, .ref w), (3, .int x3)] [] (h, t) (zQv zDr h0 t R)) : ∀ (k : Nat) (x3 : Int32) (S : zS) (h : Nat → va_E), zE zDr h0 S (h, t) → f_X12_copy_62_rw_L2 w ex  k x3 S = some R → zW (ia_P0 L xs fm) ia_nx (d + 0) 12 false cX12_copy 4 (none) 2 [(0, .ref 41), (1, .ref 62), (2, .ref w), (3, .int x3)] [] (h, t) (zQv zDr h0 t R) := by
  intro k
  induction k with
  | zero => intro x3 S h hE hf; cases hf
  | succ k ih =>
    intro x3 S h hE hf
    unfold f_X12_copy_62_rw_L2 at hf
    refine z_iload_n dX12_copy_2 rfl ?_
    refine z_bipush (v := 66) dX12_copy_3 (by decide) ?_
    by_cases c1 : 66 ≤ x3
    · have hf := zif_t hf c1
      refine z_icmp_ge_t (tgt := 20) dX12_copy_5 (by decide) c1 ?_
      exact zW.sub (hex x3 S _ hE hf) [0, 1, 2, 3] rfl rfl rfl rfl
    · have hf := zif_f hf c1
      refine z_icmp_ge_f (tgt := 20) dX12_copy_5 (by decide) c1 ?_
      refine z_aload_n dX12_copy_8 rfl ?_
      refine z_iload_n dX12_copy_9 rfl ?_
      refine z_aload_n dX12_copy_10 rfl ?_
      refine z_iload_n dX12_copy_11 rfl ?_
      obtain ⟨b2, hf⟩ := zchk hf
      refine z_ialoadL dX12_copy_12 hE dr_62 b2 rfl ?_
      obtain ⟨b3, hf⟩ := zchk hf
      obtain ⟨S4, eS4, hf⟩ := zl_some hf
      refine z_iastoreL (i := x3.toNatClampNeg) dX12_copy_13 hE ho_w.1 b3 rfl (fun h hE => ?_)
      rw [← eS4] at hE
      obtain ⟨y5, ey5, hf⟩ := zl_some hf
      refine z_iincY (v := 1) (y := y5) (lv' := [(3, .int y5), (0, .ref 41), (1, .ref 62), (2, .ref w)]) dX12_copy_14 rfl (by decide) (by decide) ey5 rfl ?_
      refine z_goto (tgt := 2) dX12_copy_17 (by decide) ?_
      exact zW.sub (ih y5 S4 _ hE hf) [1, 2, 3, 0] rfl rfl rfl rfl
theorem w_X12_copy_62_rw {L : Nat} {xs : Nat → Int32} {fm : Bool} {h0 : Nat → va_E} {t : Nat × Nat × Nat} (hn1 : 64 ≤ t.1) (hn2 : t.1 ≤ 1000000) (d : Nat) {w : Nat} (ho_w : zRw w) {h : Nat → va_E} {S : zS} (hE : zE zDr h0 S (h, t)) {R : Unit × zS} (hf : f_X12_copy_62_rw w S = some R) : zC (ia_P0 L xs fm) (d + 1) 12079 [.ref 41, .ref 62, .ref w] (h, t) (zQv zDr h0 t R) := by
  refine zC_of mt_12079 nn_12079 (Nat.le_of_ble_eq_true rfl) ?_
  refine zW_lv (lv' := [(0, .ref 41), (1, .ref 62), (2, .ref w)]) rfl ?_
  unfold f_X12_copy_62_rw at hf
  refine z_iconst (v := 0) dX12_copy_0 (by decide) ?_
  refine z_istore_n (lv' := [(3, .int 0), (0, .ref 41), (1, .ref 62), (2, .ref w)]) dX12_copy_1 (by decide) rfl ?_
  refine zW.sub (w_X12_copy_62_rw_L2 hn1 hn2 d ho_w (fun q7 S6 h hE hf => ?_) zN 0 S h hE hf) [1, 2, 3, 0] rfl rfl rfl rfl
  try dsimp only at hf
  have e_ := Option.some.inj hf
  subst e_
  exact z_vreturn dX12_copy_20 rfl ⟨h, rfl, rfl, hE⟩
def f_X12_back  (S : zS) : Option (Int32 × zS) :=
zl (sV S 41 0 0) fun S1 =>
if ¬ (S1.1 41 53) = 0 then
zb (f_X12_copy_62_rw 54 S1) fun _ S3 =>
zl (sV S3 41 39 0) fun S6 =>
some (S6.1 54 65, S6)
else
some ((-1), S1)
theorem w_X12_back {L : Nat} {xs : Nat → Int32} {fm : Bool} {h0 : Nat → va_E} {t : Nat × Nat × Nat} (hn1 : 64 ≤ t.1) (hn2 : t.1 ≤ 1000000) (d : Nat) {h : Nat → va_E} {S : zS} (hE : zE zDr h0 S (h, t)) {R : Int32 × zS} (hf : f_X12_back  S = some R) : zC (ia_P0 L xs fm) (d + 2) 12109 [.ref 41] (h, t) (zQi zDr h0 t R) := by
  refine zC_of mt_12109 nn_12109 (Nat.le_of_ble_eq_true rfl) ?_
  refine zW_lv (lv' := [(0, .ref 41)]) rfl ?_
  unfold f_X12_back at hf
  refine z_aload_n dX12_back_0 rfl ?_
  refine z_iconst (v := 0) dX12_back_1 (by decide) ?_
  obtain ⟨S1, eS1, hf⟩ := zl_some hf
  refine z_putI dX12_back_2 tF_12_93 hE dr_41 rfl rfl rfl rfl (fun h hE => ?_)
  rw [← eS1] at hE
  refine z_aload_n dX12_back_5 rfl ?_
  refine z_getI dX12_back_6 tF_12_303 hE dr_41 rfl rfl ?_
  by_cases c2 : ¬ (S1.1 41 53) = 0
  · have hf := zif_t hf c2
    refine z_if_ne_t (tgt := 14) dX12_back_9 (by decide) c2 ?_
    refine z_aload_n dX12_back_14 rfl ?_
    refine z_aload_n dX12_back_15 rfl ?_
    refine z_getC dX12_back_16 tF_12_90 hE dr_41 rfl rfl ?_
    refine z_aload_n dX12_back_19 rfl ?_
    refine z_getC dX12_back_20 tF_12_61 hE dr_41 rfl rfl ?_
    obtain ⟨r4, S3, k5, hf⟩ := zb_some hf
    refine z_callVv dX12_back_23 tM_12_404 mt_12079 (Nat.le_of_ble_eq_true rfl) rfl rfl (z_recv hE dr_41 rfl) rfl (ia_oks_le hn1 rfl) (Nat.le_of_ble_eq_true rfl) (w_X12_copy_62_rw hn1 hn2 (d + 0) rw_54 hE k5) (fun h hE => ?_)
    refine z_aload_n dX12_back_26 rfl ?_
    refine z_iconst (v := 0) dX12_back_27 (by decide) ?_
    obtain ⟨S6, eS6, hf⟩ := zl_some hf
    refine z_putI dX12_back_28 tF_12_297 hE dr_41 rfl rfl rfl rfl (fun h hE => ?_)
    rw [← eS6] at hE
    refine z_aload_n dX12_back_31 rfl ?_
    refine z_getC dX12_back_32 tF_12_61 hE dr_41 rfl rfl ?_
    refine z_bipush (v := 65) dX12_back_35 (by decide) ?_
    refine z_ialoadL (i := 65) dX12_back_37 hE dr_54 (by decide) (by decide) ?_
    have e_ := Option.some.inj hf
    subst e_
    exact z_ireturn dX12_back_38 rfl ⟨h, rfl, rfl, hE⟩
  · have hf := zif_f hf c2
    refine z_if_ne_f (tgt := 14) dX12_back_9 (by decide) c2 ?_
    refine z_iconst (v := (-1)) dX12_back_12 (by decide) ?_
    have e_ := Option.some.inj hf
    subst e_
    exact z_ireturn dX12_back_13 rfl ⟨h, rfl, rfl, hE⟩
def f_X12_count (v1 : Int32) (S : zS) : Option (Int32 × zS) :=
zl (sV S 41 0 0) fun S1 =>
if v1.toInt < 0 ∨ 11 < v1.toInt then
some ((-1000000), S1)
else
if v1 = 0 then
some (S1.1 41 24, S1)
else if v1 = 1 then
some (S1.1 41 25, S1)
else if v1 = 2 then
some (S1.1 41 26, S1)
else if v1 = 3 then
some (S1.1 41 7, S1)
else if v1 = 4 then
some (S1.1 41 32, S1)
else if v1 = 5 then
some (S1.1 41 6, S1)
else if v1 = 6 then
if ¬ (S1.1 41 24) = 0 then
some (S1.1 54 64, S1)
else
some ((-1), S1)
else if v1 = 7 then
some (S1.1 54 65, S1)
else if v1 = 8 then
some (S1.1 41 35, S1)
else if v1 = 9 then
some (S1.1 41 50, S1)
else if v1 = 10 then
some (S1.1 41 39, S1)
else if v1 = 11 then
some (S1.1 41 40, S1)
else none
theorem w_X12_count {L : Nat} {xs : Nat → Int32} {fm : Bool} {h0 : Nat → va_E} {t : Nat × Nat × Nat} (hn1 : 64 ≤ t.1) (hn2 : t.1 ≤ 1000000) (d : Nat) {h : Nat → va_E} {S : zS} (hE : zE zDr h0 S (h, t)) {v1 : Int32} {R : Int32 × zS} (hf : f_X12_count v1 S = some R) : zC (ia_P0 L xs fm) (d + 1) 12110 [.ref 41, .int v1] (h, t) (zQi zDr h0 t R) := by
  refine zC_of mt_12110 nn_12110 (Nat.le_of_ble_eq_true rfl) ?_
  refine zW_lv (lv' := [(0, .ref 41), (1, .int v1)]) rfl ?_
  unfold f_X12_count at hf
  refine z_aload_n dX12_count_0 rfl ?_
  refine z_iconst (v := 0) dX12_count_1 (by decide) ?_
  obtain ⟨S1, eS1, hf⟩ := zl_some hf
  refine z_putI dX12_count_2 tF_12_93 hE dr_41 rfl rfl rfl rfl (fun h hE => ?_)
  rw [← eS1] at hE
  refine z_iload_n dX12_count_5 rfl ?_
  by_cases c2 : v1.toInt < 0 ∨ 11 < v1.toInt
  · have hf := zif_t hf c2
    refine z_tabO (tgt := 145) dX12_count_6 c2 (by decide) ?_
    refine z_ldcw dX12_count_145 tK_12_389 ?_
    have e_ := Option.some.inj hf
    subst e_
    exact z_ireturn dX12_count_148 rfl ⟨h, rfl, rfl, hE⟩
  · have hf := zif_f hf c2
    by_cases c3 : v1 = 0
    · have hf := zif_t hf c3
      refine z_tabI (off := 62) (tgt := 68) dX12_count_6 c2 (by rw [c3]; rfl) (by decide) ?_
      refine z_aload_n dX12_count_68 rfl ?_
      refine z_getI dX12_count_69 tF_12_285 hE dr_41 rfl rfl ?_
      have e_ := Option.some.inj hf
      subst e_
      exact z_ireturn dX12_count_72 rfl ⟨h, rfl, rfl, hE⟩
    · have hf := zif_f hf c3
      by_cases c4 : v1 = 1
      · have hf := zif_t hf c4
        refine z_tabI (off := 67) (tgt := 73) dX12_count_6 c2 (by rw [c4]; rfl) (by decide) ?_
        refine z_aload_n dX12_count_73 rfl ?_
        refine z_getI dX12_count_74 tF_12_288 hE dr_41 rfl rfl ?_
        have e_ := Option.some.inj hf
        subst e_
        exact z_ireturn dX12_count_77 rfl ⟨h, rfl, rfl, hE⟩
      · have hf := zif_f hf c4
        by_cases c5 : v1 = 2
        · have hf := zif_t hf c5
          refine z_tabI (off := 72) (tgt := 78) dX12_count_6 c2 (by rw [c5]; rfl) (by decide) ?_
          refine z_aload_n dX12_count_78 rfl ?_
          refine z_getI dX12_count_79 tF_12_291 hE dr_41 rfl rfl ?_
          have e_ := Option.some.inj hf
          subst e_
          exact z_ireturn dX12_count_82 rfl ⟨h, rfl, rfl, hE⟩
        · have hf := zif_f hf c5
          by_cases c6 : v1 = 3
          · have hf := zif_t hf c6
            refine z_tabI (off := 77) (tgt := 83) dX12_count_6 c2 (by rw [c6]; rfl) (by decide) ?_
            refine z_aload_n dX12_count_83 rfl ?_
            refine z_getI dX12_count_84 tF_12_277 hE dr_41 rfl rfl ?_
            have e_ := Option.some.inj hf
            subst e_
            exact z_ireturn dX12_count_87 rfl ⟨h, rfl, rfl, hE⟩
          · have hf := zif_f hf c6
            by_cases c7 : v1 = 4
            · have hf := zif_t hf c7
              refine z_tabI (off := 82) (tgt := 88) dX12_count_6 c2 (by rw [c7]; rfl) (by decide) ?_
              refine z_aload_n dX12_count_88 rfl ?_
              refine z_getI dX12_count_89 tF_12_280 hE dr_41 rfl rfl ?_
              have e_ := Option.some.inj hf
              subst e_
              exact z_ireturn dX12_count_92 rfl ⟨h, rfl, rfl, hE⟩
            · have hf := zif_f hf c7
              by_cases c8 : v1 = 5
              · have hf := zif_t hf c8
                refine z_tabI (off := 87) (tgt := 93) dX12_count_6 c2 (by rw [c8]; rfl) (by decide) ?_
                refine z_aload_n dX12_count_93 rfl ?_
                refine z_getI dX12_count_94 tF_12_106 hE dr_41 rfl rfl ?_
                have e_ := Option.some.inj hf
                subst e_
                exact z_ireturn dX12_count_97 rfl ⟨h, rfl, rfl, hE⟩
              · have hf := zif_f hf c8
                by_cases c10 : v1 = 6
                · have hf := zif_t hf c10
                  refine z_tabI (off := 92) (tgt := 98) dX12_count_6 c2 (by rw [c10]; rfl) (by decide) ?_
                  refine z_aload_n dX12_count_98 rfl ?_
                  refine z_getI dX12_count_99 tF_12_285 hE dr_41 rfl rfl ?_
                  by_cases c9 : ¬ (S1.1 41 24) = 0
                  · have hf := zif_t hf c9
                    refine z_if_ne_t (tgt := 109) dX12_count_102 (by decide) c9 ?_
                    refine z_aload_n dX12_count_109 rfl ?_
                    refine z_getC dX12_count_110 tF_12_61 hE dr_41 rfl rfl ?_
                    refine z_bipush (v := 64) dX12_count_113 (by decide) ?_
                    refine z_ialoadL (i := 64) dX12_count_115 hE dr_54 (by decide) (by decide) ?_
                    have e_ := Option.some.inj hf
                    subst e_
                    exact z_ireturn dX12_count_116 rfl ⟨h, rfl, rfl, hE⟩
                  · have hf := zif_f hf c9
                    refine z_if_ne_f (tgt := 109) dX12_count_102 (by decide) c9 ?_
                    refine z_iconst (v := (-1)) dX12_count_105 (by decide) ?_
                    refine z_goto (tgt := 116) dX12_count_106 (by decide) ?_
                    have e_ := Option.some.inj hf
                    subst e_
                    exact z_ireturn dX12_count_116 rfl ⟨h, rfl, rfl, hE⟩
                · have hf := zif_f hf c10
                  by_cases c11 : v1 = 7
                  · have hf := zif_t hf c11
                    refine z_tabI (off := 111) (tgt := 117) dX12_count_6 c2 (by rw [c11]; rfl) (by decide) ?_
                    refine z_aload_n dX12_count_117 rfl ?_
                    refine z_getC dX12_count_118 tF_12_61 hE dr_41 rfl rfl ?_
                    refine z_bipush (v := 65) dX12_count_121 (by decide) ?_
                    refine z_ialoadL (i := 65) dX12_count_123 hE dr_54 (by decide) (by decide) ?_
                    have e_ := Option.some.inj hf
                    subst e_
                    exact z_ireturn dX12_count_124 rfl ⟨h, rfl, rfl, hE⟩
                  · have hf := zif_f hf c11
                    by_cases c12 : v1 = 8
                    · have hf := zif_t hf c12
                      refine z_tabI (off := 119) (tgt := 125) dX12_count_6 c2 (by rw [c12]; rfl) (by decide) ?_
                      refine z_aload_n dX12_count_125 rfl ?_
                      refine z_getI dX12_count_126 tF_12_67 hE dr_41 rfl rfl ?_
                      have e_ := Option.some.inj hf
                      subst e_
                      exact z_ireturn dX12_count_129 rfl ⟨h, rfl, rfl, hE⟩
                    · have hf := zif_f hf c12
                      by_cases c13 : v1 = 9
                      · have hf := zif_t hf c13
                        refine z_tabI (off := 124) (tgt := 130) dX12_count_6 c2 (by rw [c13]; rfl) (by decide) ?_
                        refine z_aload_n dX12_count_130 rfl ?_
                        refine z_getI dX12_count_131 tF_12_294 hE dr_41 rfl rfl ?_
                        have e_ := Option.some.inj hf
                        subst e_
                        exact z_ireturn dX12_count_134 rfl ⟨h, rfl, rfl, hE⟩
                      · have hf := zif_f hf c13
                        by_cases c14 : v1 = 10
                        · have hf := zif_t hf c14
                          refine z_tabI (off := 129) (tgt := 135) dX12_count_6 c2 (by rw [c14]; rfl) (by decide) ?_
                          refine z_aload_n dX12_count_135 rfl ?_
                          refine z_getI dX12_count_136 tF_12_297 hE dr_41 rfl rfl ?_
                          have e_ := Option.some.inj hf
                          subst e_
                          exact z_ireturn dX12_count_139 rfl ⟨h, rfl, rfl, hE⟩
                        · have hf := zif_f hf c14
                          by_cases c15 : v1 = 11
                          · have hf := zif_t hf c15
                            refine z_tabI (off := 134) (tgt := 140) dX12_count_6 c2 (by rw [c15]; rfl) (by decide) ?_
                            refine z_aload_n dX12_count_140 rfl ?_
                            refine z_getI dX12_count_141 tF_12_300 hE dr_41 rfl rfl ?_
                            have e_ := Option.some.inj hf
                            subst e_
                            exact z_ireturn dX12_count_144 rfl ⟨h, rfl, rfl, hE⟩
                          · have hf := zif_f hf c15
                            cases hf
def f_X12_thrown  (S : zS) : Option (Int32 × zS) :=
some (S.1 41 0, S)
theorem w_X12_thrown {L : Nat} {xs : Nat → Int32} {fm : Bool} {h0 : Nat → va_E} {t : Nat × Nat × Nat} (hn1 : 64 ≤ t.1) (hn2 : t.1 ≤ 1000000) (d : Nat) {h : Nat → va_E} {S : zS} (hE : zE zDr h0 S (h, t)) {R : Int32 × zS} (hf : f_X12_thrown  S = some R) : zC (ia_P0 L xs fm) (d + 1) 12001 [.ref 41] (h, t) (zQi zDr h0 t R) := by
  refine zC_of mt_12001 nn_12001 (Nat.le_of_ble_eq_true rfl) ?_
  refine zW_lv (lv' := [(0, .ref 41)]) rfl ?_
  unfold f_X12_thrown at hf
  refine z_aload_n dX12_thrown_0 rfl ?_
  refine z_getI dX12_thrown_1 tF_12_93 hE dr_41 rfl rfl ?_
  have e_ := Option.some.inj hf
  subst e_
  exact z_ireturn dX12_thrown_4 rfl ⟨h, rfl, rfl, hE⟩
end ZX
