section ZX
def f_X12_writes_L11 (ex : Int32 → zS → Option (Unit × zS)) (i1 : Int32) : Nat → Int32 → zS → Option (Unit × zS)
  | 0, _, _ => none
  | k + 1, x2, S =>
    if 60 ≤ x2 then
    ex x2 S
    else
    if ia_in x2 60 = true then
    if ia_in (x2 - 1) 60 = true then
    zl (sV S 57 ((x2 - 1).toNatClampNeg) (S.1 57 x2.toNatClampNeg)) fun S12 =>
    if ia_in x2 60 = true then
    if ia_in (x2 - 1) 60 = true then
    zl (sV S12 58 ((x2 - 1).toNatClampNeg) (S12.1 58 x2.toNatClampNeg)) fun S15 =>
    zl (x2 + 1) fun (y16 : Int32) =>
    f_X12_writes_L11 ex i1 k y16 S15
    else none
    else none
    else none
    else none
def f_X12_writes (v1 : Int32) (S : zS) : Option (Unit × zS) :=
zl (fun (S3 : zS) =>
if ia_in (S3.1 41 40) 60 = true then
zl (sV S3 57 ((S3.1 41 40).toNatClampNeg) v1) fun S5 =>
if ia_in (S5.1 41 40) 60 = true then
zl (sV S5 58 ((S5.1 41 40).toNatClampNeg) (S5.1 54 65)) fun S7 =>
zl (sV S7 41 40 ((S7.1 41 40) + 1)) fun S8 =>
some ((), S8)
else none
else none) fun J2 =>
if ¬ (S.1 41 40) = 60 then
J2 S
else
f_X12_writes_L11 (fun (q18 : Int32) (S17 : zS) =>
zl (sV S17 41 40 ((S17.1 41 40) - 1)) fun S19 =>
J2 S19) v1 zN 1 S
theorem w_X12_writes_L11 {L : Nat} {xs : Nat → Int32} {fm : Bool} {h0 : Nat → va_E} {t : Nat × Nat × Nat} (hn1 : 64 ≤ t.1) (hn2 : t.1 ≤ 1000000) (d : Nat) {ex : Int32 → zS → Option (Unit × zS)} {i1 : Int32} {R : Unit × zS} (hex : ∀ (x2 : Int32) (S : zS) (h : Nat → va_E), zE zDr h0 S (h, t) → ex x2 S = some R → zW (ia_P0 L xs fm) ia_nx (d + 0) 12 false cX12_writes 3 (none) 51 [(0, .ref 41), (1, .int i1), (2, .int x2)] [] (h, t) (zQv zDr h0 t R)) : ∀ (k : Nat) (x2 : Int32) (S : zS) (h : Nat → va_E), zE zDr h0 S (h, t) → f_X12_writes_L11 ex i1 k x2 S = some R → zW (ia_P0 L xs fm) ia_nx (d + 0) 12 false cX12_writes 3 (none) 11 [(0, .ref 41), (1, .int i1), (2, .int x2)] [] (h, t) (zQv zDr h0 t R) := by
  intro k
  induction k with
  | zero => intro x2 S h hE hf; cases hf
  | succ k ih =>
    intro x2 S h hE hf
    unfold f_X12_writes_L11 at hf
    refine z_iload_n dX12_writes_11 rfl ?_
    refine z_bipush (v := 60) dX12_writes_12 (by decide) ?_
    by_cases c9 : 60 ≤ x2
    · have hf := zif_t hf c9
      refine z_icmp_ge_t (tgt := 51) dX12_writes_14 (by decide) c9 ?_
      exact zW.sub (hex x2 S _ hE hf) [0, 1, 2] rfl rfl rfl rfl
    · have hf := zif_f hf c9
      refine z_icmp_ge_f (tgt := 51) dX12_writes_14 (by decide) c9 ?_
      refine z_aload_n dX12_writes_17 rfl ?_
      refine z_getC dX12_writes_18 tF_12_74 hE dr_41 rfl rfl ?_
      refine z_iload_n dX12_writes_21 rfl ?_
      refine z_iconst (v := 1) dX12_writes_22 (by decide) ?_
      refine z_isub dX12_writes_23 ?_
      refine z_aload_n dX12_writes_24 rfl ?_
      refine z_getC dX12_writes_25 tF_12_74 hE dr_41 rfl rfl ?_
      refine z_iload_n dX12_writes_28 rfl ?_
      obtain ⟨b10, hf⟩ := zchk hf
      refine z_ialoadL dX12_writes_29 hE dr_57 b10 rfl ?_
      obtain ⟨b11, hf⟩ := zchk hf
      obtain ⟨S12, eS12, hf⟩ := zl_some hf
      refine z_iastoreL (i := (x2 - 1).toNatClampNeg) dX12_writes_30 hE dr_57 b11 rfl (fun h hE => ?_)
      rw [← eS12] at hE
      refine z_aload_n dX12_writes_31 rfl ?_
      refine z_getC dX12_writes_32 tF_12_77 hE dr_41 rfl rfl ?_
      refine z_iload_n dX12_writes_35 rfl ?_
      refine z_iconst (v := 1) dX12_writes_36 (by decide) ?_
      refine z_isub dX12_writes_37 ?_
      refine z_aload_n dX12_writes_38 rfl ?_
      refine z_getC dX12_writes_39 tF_12_77 hE dr_41 rfl rfl ?_
      refine z_iload_n dX12_writes_42 rfl ?_
      obtain ⟨b13, hf⟩ := zchk hf
      refine z_ialoadL dX12_writes_43 hE dr_58 b13 rfl ?_
      obtain ⟨b14, hf⟩ := zchk hf
      obtain ⟨S15, eS15, hf⟩ := zl_some hf
      refine z_iastoreL (i := (x2 - 1).toNatClampNeg) dX12_writes_44 hE dr_58 b14 rfl (fun h hE => ?_)
      rw [← eS15] at hE
      obtain ⟨y16, ey16, hf⟩ := zl_some hf
      refine z_iincY (v := 1) (y := y16) (lv' := [(2, .int y16), (0, .ref 41), (1, .int i1)]) dX12_writes_45 rfl (by decide) (by decide) ey16 rfl ?_
      refine z_goto (tgt := 11) dX12_writes_48 (by decide) ?_
      exact zW.sub (ih y16 S15 _ hE hf) [1, 2, 0] rfl rfl rfl rfl
theorem w_X12_writes {L : Nat} {xs : Nat → Int32} {fm : Bool} {h0 : Nat → va_E} {t : Nat × Nat × Nat} (hn1 : 64 ≤ t.1) (hn2 : t.1 ≤ 1000000) (d : Nat) {h : Nat → va_E} {S : zS} (hE : zE zDr h0 S (h, t)) {v1 : Int32} {R : Unit × zS} (hf : f_X12_writes v1 S = some R) : zC (ia_P0 L xs fm) (d + 1) 12056 [.ref 41, .int v1] (h, t) (zQv zDr h0 t R) := by
  refine zC_of mt_12056 nn_12056 (Nat.le_of_ble_eq_true rfl) ?_
  refine zW_lv (lv' := [(0, .ref 41), (1, .int v1)]) rfl ?_
  unfold f_X12_writes at hf
  refine z_aload_n dX12_writes_0 rfl ?_
  refine z_getI dX12_writes_1 tF_12_300 hE dr_41 rfl rfl ?_
  refine z_bipush (v := 60) dX12_writes_4 (by decide) ?_
  obtain ⟨J2, eJ2, hf⟩ := zl_some hf
  have hJ2 : ∀ (S3 : zS) (h : Nat → va_E), zE zDr h0 S3 (h, t) → J2 S3 = some R → zW (ia_P0 L xs fm) ia_nx (d + 0) 12 false cX12_writes 3 (none) 61 [(0, .ref 41), (1, .int v1)] [] (h, t) (zQv zDr h0 t R) := by
    intro S3 h hE hf
    rw [eJ2] at hf
    refine z_aload_n dX12_writes_61 rfl ?_
    refine z_getC dX12_writes_62 tF_12_74 hE dr_41 rfl rfl ?_
    refine z_aload_n dX12_writes_65 rfl ?_
    refine z_getI dX12_writes_66 tF_12_300 hE dr_41 rfl rfl ?_
    refine z_iload_n dX12_writes_69 rfl ?_
    obtain ⟨b4, hf⟩ := zchk hf
    obtain ⟨S5, eS5, hf⟩ := zl_some hf
    refine z_iastoreL (i := (S3.1 41 40).toNatClampNeg) dX12_writes_70 hE dr_57 b4 rfl (fun h hE => ?_)
    rw [← eS5] at hE
    refine z_aload_n dX12_writes_71 rfl ?_
    refine z_getC dX12_writes_72 tF_12_77 hE dr_41 rfl rfl ?_
    refine z_aload_n dX12_writes_75 rfl ?_
    refine z_getI dX12_writes_76 tF_12_300 hE dr_41 rfl rfl ?_
    refine z_aload_n dX12_writes_79 rfl ?_
    refine z_getC dX12_writes_80 tF_12_61 hE dr_41 rfl rfl ?_
    refine z_bipush (v := 65) dX12_writes_83 (by decide) ?_
    refine z_ialoadL (i := 65) dX12_writes_85 hE dr_54 (by decide) (by decide) ?_
    obtain ⟨b6, hf⟩ := zchk hf
    obtain ⟨S7, eS7, hf⟩ := zl_some hf
    refine z_iastoreL (i := (S5.1 41 40).toNatClampNeg) dX12_writes_86 hE dr_58 b6 rfl (fun h hE => ?_)
    rw [← eS7] at hE
    refine z_aload_n dX12_writes_87 rfl ?_
    refine z_dup dX12_writes_88 rfl ?_
    refine z_getI dX12_writes_89 tF_12_300 hE dr_41 rfl rfl ?_
    refine z_iconst (v := 1) dX12_writes_92 (by decide) ?_
    refine z_iadd dX12_writes_93 ?_
    obtain ⟨S8, eS8, hf⟩ := zl_some hf
    refine z_putI dX12_writes_94 tF_12_300 hE dr_41 rfl rfl rfl rfl (fun h hE => ?_)
    rw [← eS8] at hE
    have e_ := Option.some.inj hf
    subst e_
    exact z_vreturn dX12_writes_97 rfl ⟨h, rfl, rfl, hE⟩
  by_cases c1 : ¬ (S.1 41 40) = 60
  · have hf := zif_t hf c1
    refine z_icmp_ne_t (tgt := 61) dX12_writes_6 (by decide) c1 ?_
    exact zW.sub (hJ2 S _ hE hf) [0, 1] rfl rfl rfl rfl
  · have hf := zif_f hf c1
    refine z_icmp_ne_f (tgt := 61) dX12_writes_6 (by decide) c1 ?_
    refine z_iconst (v := 1) dX12_writes_9 (by decide) ?_
    refine z_istore_n (lv' := [(2, .int 1), (0, .ref 41), (1, .int v1)]) dX12_writes_10 (by decide) rfl ?_
    refine zW.sub (w_X12_writes_L11 hn1 hn2 d (fun q18 S17 h hE hf => ?_) zN 1 S h hE hf) [1, 2, 0] rfl rfl rfl rfl
    try dsimp only at hf
    refine z_aload_n dX12_writes_51 rfl ?_
    refine z_dup dX12_writes_52 rfl ?_
    refine z_getI dX12_writes_53 tF_12_300 hE dr_41 rfl rfl ?_
    refine z_iconst (v := 1) dX12_writes_56 (by decide) ?_
    refine z_isub dX12_writes_57 ?_
    obtain ⟨S19, eS19, hf⟩ := zl_some hf
    refine z_putI dX12_writes_58 tF_12_300 hE dr_41 rfl rfl rfl rfl (fun h hE => ?_)
    rw [← eS19] at hE
    exact zW.sub (hJ2 S19 _ hE hf) [0, 1] rfl rfl rfl rfl
def f_X12_turn (v1 : Int32) (v2 : Int32) (v3 : Int32) (S : zS) : Option (Int32 × zS) :=
zl (sV S 41 0 0) fun S1 =>
zb (f_X12_isHand v1 S1) fun r3 S2 =>
if r3 = 0 then
some ((-1), S2)
else
zb (f_X12_isTool v2 S2) fun r7 S6 =>
if r7 = 0 then
some ((-1), S6)
else
zb (f_X12_isIn (v3.toInt64) 0 1 S6) fun r11 S10 =>
if r11 = 0 then
some ((-1), S10)
else
zb (f_X12_isDone 54 S10) fun r15 S14 =>
if r15 = 0 then
zb (f_X12_remember S14) fun _ S18 =>
zb (f_X12_turns 54 v1 v2 v3 0 S18) fun _ S21 =>
zl (fun (q26 : Int32) =>
if ia_in ((6 * (S21.1 54 64)) + 3) 24 = true then
zl (fun (q30 : Int32) =>
zb (f_X12_writes (((100 + (10 * v1)) + q26) + q30) S21) fun _ S31 =>
if ia_in ((7 * (S31.1 54 64)) + 5) 66 = true then
some (S31.1 54 ((7 * (S31.1 54 64)) + 5).toNatClampNeg, S31)
else none) fun J29 =>
if ¬ v3 = (S21.1 46 ((6 * (S21.1 54 64)) + 3).toNatClampNeg) then
J29 1000
else
J29 0
else none) fun J25 =>
if ¬ v2 = (-1) then
J25 v2
else
J25 9
else
some ((-1), S14)
theorem w_X12_turn {L : Nat} {xs : Nat → Int32} {fm : Bool} {h0 : Nat → va_E} {t : Nat × Nat × Nat} (hn1 : 64 ≤ t.1) (hn2 : t.1 ≤ 1000000) (d : Nat) {h : Nat → va_E} {S : zS} (hE : zE zDr h0 S (h, t)) {v1 : Int32} {v2 : Int32} {v3 : Int32} {R : Int32 × zS} (hf : f_X12_turn v1 v2 v3 S = some R) : zC (ia_P0 L xs fm) (d + 113) 12052 [.ref 41, .int v1, .int v2, .int v3] (h, t) (zQi zDr h0 t R) := by
  refine zC_of mt_12052 nn_12052 (Nat.le_of_ble_eq_true rfl) ?_
  refine zW_lv (lv' := [(0, .ref 41), (1, .int v1), (2, .int v2), (3, .int v3)]) rfl ?_
  unfold f_X12_turn at hf
  refine z_aload_n dX12_turn_0 rfl ?_
  refine z_iconst (v := 0) dX12_turn_1 (by decide) ?_
  obtain ⟨S1, eS1, hf⟩ := zl_some hf
  refine z_putI dX12_turn_2 tF_12_93 hE dr_41 rfl rfl rfl rfl (fun h hE => ?_)
  rw [← eS1] at hE
  refine z_aload_n dX12_turn_5 rfl ?_
  refine z_iload_n dX12_turn_6 rfl ?_
  obtain ⟨r3, S2, k4, hf⟩ := zb_some hf
  refine z_callVi dX12_turn_7 tM_12_325 mt_12043 (Nat.le_of_ble_eq_true rfl) rfl rfl (z_recv hE dr_41 rfl) rfl (ia_oks_le hn1 rfl) (Nat.le_of_ble_eq_true rfl) (w_X12_isHand hn1 hn2 (d + 111) hE k4) (fun h hE => ?_)
  by_cases c5 : r3 = 0
  · have hf := zif_t hf c5
    refine z_if_eq_t (tgt := 41) dX12_turn_10 (by decide) c5 ?_
    refine z_iconst (v := (-1)) dX12_turn_41 (by decide) ?_
    have e_ := Option.some.inj hf
    subst e_
    exact z_ireturn dX12_turn_42 rfl ⟨h, rfl, rfl, hE⟩
  · have hf := zif_f hf c5
    refine z_if_eq_f (tgt := 41) dX12_turn_10 (by decide) c5 ?_
    refine z_aload_n dX12_turn_13 rfl ?_
    refine z_iload_n dX12_turn_14 rfl ?_
    obtain ⟨r7, S6, k8, hf⟩ := zb_some hf
    refine z_callVi dX12_turn_15 tM_12_330 mt_12048 (Nat.le_of_ble_eq_true rfl) rfl rfl (z_recv hE dr_41 rfl) rfl (ia_oks_le hn1 rfl) (Nat.le_of_ble_eq_true rfl) (w_X12_isTool hn1 hn2 (d + 110) hE k8) (fun h hE => ?_)
    by_cases c9 : r7 = 0
    · have hf := zif_t hf c9
      refine z_if_eq_t (tgt := 41) dX12_turn_18 (by decide) c9 ?_
      refine z_iconst (v := (-1)) dX12_turn_41 (by decide) ?_
      have e_ := Option.some.inj hf
      subst e_
      exact z_ireturn dX12_turn_42 rfl ⟨h, rfl, rfl, hE⟩
    · have hf := zif_f hf c9
      refine z_if_eq_f (tgt := 41) dX12_turn_18 (by decide) c9 ?_
      refine z_iload_n dX12_turn_21 rfl ?_
      refine z_i2l dX12_turn_22 ?_
      refine z_lconst (v := 0) dX12_turn_23 (by decide) ?_
      refine z_lconst (v := 1) dX12_turn_24 (by decide) ?_
      obtain ⟨r11, S10, k12, hf⟩ := zb_some hf
      refine z_callSi dX12_turn_25 tM_12_214 (by decide) mt_12007 (Nat.le_of_ble_eq_true rfl) rfl rfl (ia_oks_le hn1 rfl) (Nat.le_of_ble_eq_true rfl) (w_X12_isIn hn1 hn2 (d + 111) hE k12) (fun h hE => ?_)
      by_cases c13 : r11 = 0
      · have hf := zif_t hf c13
        refine z_if_eq_t (tgt := 41) dX12_turn_28 (by decide) c13 ?_
        refine z_iconst (v := (-1)) dX12_turn_41 (by decide) ?_
        have e_ := Option.some.inj hf
        subst e_
        exact z_ireturn dX12_turn_42 rfl ⟨h, rfl, rfl, hE⟩
      · have hf := zif_f hf c13
        refine z_if_eq_f (tgt := 41) dX12_turn_28 (by decide) c13 ?_
        refine z_aload_n dX12_turn_31 rfl ?_
        refine z_getC dX12_turn_32 tF_12_61 hE dr_41 rfl rfl ?_
        obtain ⟨r15, S14, k16, hf⟩ := zb_some hf
        refine z_callSi dX12_turn_35 tM_12_354 (by decide) mt_12053 (Nat.le_of_ble_eq_true rfl) rfl rfl (ia_oks_le hn1 rfl) (Nat.le_of_ble_eq_true rfl) (w_X12_isDone hn1 hn2 (d + 111) rw_54 hE k16) (fun h hE => ?_)
        by_cases c17 : r15 = 0
        · have hf := zif_t hf c17
          refine z_if_eq_t (tgt := 43) dX12_turn_38 (by decide) c17 ?_
          refine z_aload_n dX12_turn_43 rfl ?_
          obtain ⟨r19, S18, k20, hf⟩ := zb_some hf
          refine z_callVv dX12_turn_44 tM_12_358 mt_12054 (Nat.le_of_ble_eq_true rfl) rfl rfl (z_recv hE dr_41 rfl) rfl (ia_oks_le hn1 rfl) (Nat.le_of_ble_eq_true rfl) (w_X12_remember hn1 hn2 (d + 111) hE k20) (fun h hE => ?_)
          refine z_aload_n dX12_turn_47 rfl ?_
          refine z_aload_n dX12_turn_48 rfl ?_
          refine z_getC dX12_turn_49 tF_12_61 hE dr_41 rfl rfl ?_
          refine z_iload_n dX12_turn_52 rfl ?_
          refine z_iload_n dX12_turn_53 rfl ?_
          refine z_iload_n dX12_turn_54 rfl ?_
          refine z_iconst (v := 0) dX12_turn_55 (by decide) ?_
          obtain ⟨r22, S21, k23, hf⟩ := zb_some hf
          refine z_callVv dX12_turn_56 tM_12_350 mt_12055 (Nat.le_of_ble_eq_true rfl) rfl rfl (z_recv hE dr_41 rfl) rfl (ia_oks_le hn1 rfl) (Nat.le_of_ble_eq_true rfl) (w_X12_turns hn1 hn2 (d + 0) rw_54 hE k23) (fun h hE => ?_)
          refine z_aload_n dX12_turn_59 rfl ?_
          refine z_bipush (v := 100) dX12_turn_60 (by decide) ?_
          refine z_bipush (v := 10) dX12_turn_62 (by decide) ?_
          refine z_iload_n dX12_turn_64 rfl ?_
          refine z_imul dX12_turn_65 ?_
          refine z_iadd dX12_turn_66 ?_
          refine z_iload_n dX12_turn_67 rfl ?_
          refine z_iconst (v := (-1)) dX12_turn_68 (by decide) ?_
          obtain ⟨J25, eJ25, hf⟩ := zl_some hf
          have hJ25 : ∀ (q26 : Int32) (h : Nat → va_E), zE zDr h0 S21 (h, t) → J25 q26 = some R → zW (ia_P0 L xs fm) ia_nx (d + 112) 12 false cX12_turn 4 (some .int) 78 [(0, .ref 41), (1, .int v1), (2, .int v2), (3, .int v3)] [.int q26, .int (100 + (10 * v1)), .ref 41] (h, t) (zQi zDr h0 t R) := by
            intro q26 h hE hf
            rw [eJ25] at hf
            refine z_iadd dX12_turn_78 ?_
            refine z_iload_n dX12_turn_79 rfl ?_
            refine z_aload_n dX12_turn_80 rfl ?_
            refine z_getC dX12_turn_81 tF_12_37 hE dr_41 rfl rfl ?_
            refine z_bipush (v := 6) dX12_turn_84 (by decide) ?_
            refine z_aload_n dX12_turn_86 rfl ?_
            refine z_getC dX12_turn_87 tF_12_61 hE dr_41 rfl rfl ?_
            refine z_bipush (v := 64) dX12_turn_90 (by decide) ?_
            refine z_ialoadL (i := 64) dX12_turn_92 hE dr_54 (by decide) (by decide) ?_
            refine z_imul dX12_turn_93 ?_
            refine z_iconst (v := 3) dX12_turn_94 (by decide) ?_
            refine z_iadd dX12_turn_95 ?_
            obtain ⟨b27, hf⟩ := zchk hf
            refine z_ialoadL dX12_turn_96 hE dr_46 b27 rfl ?_
            obtain ⟨J29, eJ29, hf⟩ := zl_some hf
            have hJ29 : ∀ (q30 : Int32) (h : Nat → va_E), zE zDr h0 S21 (h, t) → J29 q30 = some R → zW (ia_P0 L xs fm) ia_nx (d + 112) 12 false cX12_turn 4 (some .int) 107 [(0, .ref 41), (1, .int v1), (2, .int v2), (3, .int v3)] [.int q30, .int ((100 + (10 * v1)) + q26), .ref 41] (h, t) (zQi zDr h0 t R) := by
              intro q30 h hE hf
              rw [eJ29] at hf
              refine z_iadd dX12_turn_107 ?_
              obtain ⟨r32, S31, k33, hf⟩ := zb_some hf
              refine z_callVv dX12_turn_108 tM_12_361 mt_12056 (Nat.le_of_ble_eq_true rfl) rfl rfl (z_recv hE dr_41 rfl) rfl (ia_oks_le hn1 rfl) (Nat.le_of_ble_eq_true rfl) (w_X12_writes hn1 hn2 (d + 111) hE k33) (fun h hE => ?_)
              refine z_aload_n dX12_turn_111 rfl ?_
              refine z_getC dX12_turn_112 tF_12_61 hE dr_41 rfl rfl ?_
              refine z_bipush (v := 7) dX12_turn_115 (by decide) ?_
              refine z_aload_n dX12_turn_117 rfl ?_
              refine z_getC dX12_turn_118 tF_12_61 hE dr_41 rfl rfl ?_
              refine z_bipush (v := 64) dX12_turn_121 (by decide) ?_
              refine z_ialoadL (i := 64) dX12_turn_123 hE dr_54 (by decide) (by decide) ?_
              refine z_imul dX12_turn_124 ?_
              refine z_iconst (v := 5) dX12_turn_125 (by decide) ?_
              refine z_iadd dX12_turn_126 ?_
              obtain ⟨b34, hf⟩ := zchk hf
              refine z_ialoadL dX12_turn_127 hE dr_54 b34 rfl ?_
              have e_ := Option.some.inj hf
              subst e_
              exact z_ireturn dX12_turn_128 rfl ⟨h, rfl, rfl, hE⟩
            by_cases c28 : ¬ v3 = (S21.1 46 ((6 * (S21.1 54 64)) + 3).toNatClampNeg)
            · have hf := zif_t hf c28
              refine z_icmp_ne_t (tgt := 104) dX12_turn_97 (by decide) c28 ?_
              refine z_sipush (v := 1000) dX12_turn_104 (by decide) ?_
              exact zW.sub (hJ29 1000 _ hE hf) [0, 1, 2, 3] rfl rfl rfl rfl
            · have hf := zif_f hf c28
              refine z_icmp_ne_f (tgt := 104) dX12_turn_97 (by decide) c28 ?_
              refine z_iconst (v := 0) dX12_turn_100 (by decide) ?_
              refine z_goto (tgt := 107) dX12_turn_101 (by decide) ?_
              exact zW.sub (hJ29 0 _ hE hf) [0, 1, 2, 3] rfl rfl rfl rfl
          by_cases c24 : ¬ v2 = (-1)
          · have hf := zif_t hf c24
            refine z_icmp_ne_t (tgt := 77) dX12_turn_69 (by decide) c24 ?_
            refine z_iload_n dX12_turn_77 rfl ?_
            exact zW.sub (hJ25 v2 _ hE hf) [0, 1, 2, 3] rfl rfl rfl rfl
          · have hf := zif_f hf c24
            refine z_icmp_ne_f (tgt := 77) dX12_turn_69 (by decide) c24 ?_
            refine z_bipush (v := 9) dX12_turn_72 (by decide) ?_
            refine z_goto (tgt := 78) dX12_turn_74 (by decide) ?_
            exact zW.sub (hJ25 9 _ hE hf) [0, 1, 2, 3] rfl rfl rfl rfl
        · have hf := zif_f hf c17
          refine z_if_eq_f (tgt := 43) dX12_turn_38 (by decide) c17 ?_
          refine z_iconst (v := (-1)) dX12_turn_41 (by decide) ?_
          have e_ := Option.some.inj hf
          subst e_
          exact z_ireturn dX12_turn_42 rfl ⟨h, rfl, rfl, hE⟩
def f_X12_canWork  (S : zS) : Option (Int32 × zS) :=
if (S.1 41 24) ≤ 0 then
some (0, S)
else
zb (f_X12_isDone 54 S) fun r3 S2 =>
if ¬ r3 = 0 then
some (0, S2)
else
some (1, S2)
theorem w_X12_canWork {L : Nat} {xs : Nat → Int32} {fm : Bool} {h0 : Nat → va_E} {t : Nat × Nat × Nat} (hn1 : 64 ≤ t.1) (hn2 : t.1 ≤ 1000000) (d : Nat) {h : Nat → va_E} {S : zS} (hE : zE zDr h0 S (h, t)) {R : Int32 × zS} (hf : f_X12_canWork  S = some R) : zC (ia_P0 L xs fm) (d + 2) 12058 [.ref 41] (h, t) (zQi zDr h0 t R) := by
  refine zC_of mt_12058 nn_12058 (Nat.le_of_ble_eq_true rfl) ?_
  refine zW_lv (lv' := [(0, .ref 41)]) rfl ?_
  unfold f_X12_canWork at hf
  refine z_aload_n dX12_canWork_0 rfl ?_
  refine z_getI dX12_canWork_1 tF_12_285 hE dr_41 rfl rfl ?_
  by_cases c1 : (S.1 41 24) ≤ 0
  · have hf := zif_t hf c1
    refine z_if_le_t (tgt := 21) dX12_canWork_4 (by decide) c1 ?_
    refine z_iconst (v := 0) dX12_canWork_21 (by decide) ?_
    have e_ := Option.some.inj hf
    subst e_
    exact z_zreturn dX12_canWork_22 rfl (by decide) ⟨h, rfl, rfl, hE⟩
  · have hf := zif_f hf c1
    refine z_if_le_f (tgt := 21) dX12_canWork_4 (by decide) c1 ?_
    refine z_aload_n dX12_canWork_7 rfl ?_
    refine z_getC dX12_canWork_8 tF_12_61 hE dr_41 rfl rfl ?_
    obtain ⟨r3, S2, k4, hf⟩ := zb_some hf
    refine z_callSi dX12_canWork_11 tM_12_354 (by decide) mt_12053 (Nat.le_of_ble_eq_true rfl) rfl rfl (ia_oks_le hn1 rfl) (Nat.le_of_ble_eq_true rfl) (w_X12_isDone hn1 hn2 (d + 0) rw_54 hE k4) (fun h hE => ?_)
    by_cases c5 : ¬ r3 = 0
    · have hf := zif_t hf c5
      refine z_if_ne_t (tgt := 21) dX12_canWork_14 (by decide) c5 ?_
      refine z_iconst (v := 0) dX12_canWork_21 (by decide) ?_
      have e_ := Option.some.inj hf
      subst e_
      exact z_zreturn dX12_canWork_22 rfl (by decide) ⟨h, rfl, rfl, hE⟩
    · have hf := zif_f hf c5
      refine z_if_ne_f (tgt := 21) dX12_canWork_14 (by decide) c5 ?_
      refine z_iconst (v := 1) dX12_canWork_17 (by decide) ?_
      refine z_goto (tgt := 22) dX12_canWork_18 (by decide) ?_
      have e_ := Option.some.inj hf
      subst e_
      exact z_zreturn dX12_canWork_22 rfl (by decide) ⟨h, rfl, rfl, hE⟩
def f_X12_heats (w : Nat) (v2 : Int32) (S : zS) : Option (Unit × zS) :=
zl (S.1 w 64) fun (y1 : Int32) =>
zl (7 * y1) fun (y2 : Int32) =>
if ia_in (y2 + 3) 66 = true then
if ia_in (y2 + 3) 66 = true then
zl (sV S w ((y2 + 3).toNatClampNeg) ((S.1 w (y2 + 3).toNatClampNeg) + v2)) fun S5 =>
if ia_in (y2 + 2) 66 = true then
if ia_in (y2 + 2) 66 = true then
zl (sV S5 w ((y2 + 2).toNatClampNeg) (if 0 < ((S5.1 w (y2 + 2).toNatClampNeg) - (v2 / 10)) then ((S5.1 w (y2 + 2).toNatClampNeg) - (v2 / 10)) else 0)) fun S8 =>
if ia_in (y2 + 1) 66 = true then
if ia_in (y2 + 1) 66 = true then
zl (sV S8 w ((y2 + 1).toNatClampNeg) (if 0 < ((S8.1 w (y2 + 1).toNatClampNeg) - (v2 / 5)) then ((S8.1 w (y2 + 1).toNatClampNeg) - (v2 / 5)) else 0)) fun S11 =>
if ia_in (y2 + 3) 66 = true then
if ia_in ((6 * y1) + 5) 24 = true then
zl (fun (S16 : zS) =>
zl (sV S16 w 65 ((S16.1 w 65) + 1)) fun S17 =>
some ((), S17)) fun J15 =>
if (S11.1 w (y2 + 3).toNatClampNeg) ≤ (S11.1 46 ((6 * y1) + 5).toNatClampNeg) then
J15 S11
else
if ia_in (y2 + 6) 66 = true then
zl (sV S11 w ((y2 + 6).toNatClampNeg) 1) fun S19 =>
J15 S19
else none
else none
else none
else none
else none
else none
else none
else none
else none
theorem w_X12_heats {L : Nat} {xs : Nat → Int32} {fm : Bool} {h0 : Nat → va_E} {t : Nat × Nat × Nat} (hn1 : 64 ≤ t.1) (hn2 : t.1 ≤ 1000000) (d : Nat) {w : Nat} (ho_w : zRw w) {h : Nat → va_E} {S : zS} (hE : zE zDr h0 S (h, t)) {v2 : Int32} {R : Unit × zS} (hf : f_X12_heats w v2 S = some R) : zC (ia_P0 L xs fm) (d + 1) 12059 [.ref 41, .ref w, .int v2] (h, t) (zQv zDr h0 t R) := by
  refine zC_of mt_12059 nn_12059 (Nat.le_of_ble_eq_true rfl) ?_
  refine zW_lv (lv' := [(0, .ref 41), (1, .ref w), (2, .int v2)]) rfl ?_
  unfold f_X12_heats at hf
  refine z_aload_n dX12_heats_0 rfl ?_
  refine z_bipush (v := 64) dX12_heats_1 (by decide) ?_
  refine z_ialoadL (i := 64) dX12_heats_3 hE ho_w.1 (by decide) (by decide) ?_
  obtain ⟨y1, ey1, hf⟩ := zl_some hf
  refine z_topi ey1 ?_
  refine z_istore_n (lv' := [(3, .int y1), (0, .ref 41), (1, .ref w), (2, .int v2)]) dX12_heats_4 (by decide) rfl ?_
  refine z_bipush (v := 7) dX12_heats_5 (by decide) ?_
  refine z_iload_n dX12_heats_7 rfl ?_
  refine z_imul dX12_heats_8 ?_
  obtain ⟨y2, ey2, hf⟩ := zl_some hf
  refine z_topi ey2 ?_
  refine z_istore (lv' := [(4, .int y2), (3, .int y1), (0, .ref 41), (1, .ref w), (2, .int v2)]) dX12_heats_9 (by decide) rfl ?_
  refine z_aload_n dX12_heats_11 rfl ?_
  refine z_iload dX12_heats_12 rfl ?_
  refine z_iconst (v := 3) dX12_heats_14 (by decide) ?_
  refine z_iadd dX12_heats_15 ?_
  refine z_dup2 dX12_heats_16 ⟨rfl, rfl⟩ ?_
  obtain ⟨b3, hf⟩ := zchk hf
  refine z_ialoadL dX12_heats_17 hE ho_w.1 b3 rfl ?_
  refine z_iload_n dX12_heats_18 rfl ?_
  refine z_iadd dX12_heats_19 ?_
  obtain ⟨b4, hf⟩ := zchk hf
  obtain ⟨S5, eS5, hf⟩ := zl_some hf
  refine z_iastoreL (i := (y2 + 3).toNatClampNeg) dX12_heats_20 hE ho_w.1 b4 rfl (fun h hE => ?_)
  rw [← eS5] at hE
  refine z_aload_n dX12_heats_21 rfl ?_
  refine z_iload dX12_heats_22 rfl ?_
  refine z_iconst (v := 2) dX12_heats_24 (by decide) ?_
  refine z_iadd dX12_heats_25 ?_
  refine z_iconst (v := 0) dX12_heats_26 (by decide) ?_
  refine z_aload_n dX12_heats_27 rfl ?_
  refine z_iload dX12_heats_28 rfl ?_
  refine z_iconst (v := 2) dX12_heats_30 (by decide) ?_
  refine z_iadd dX12_heats_31 ?_
  obtain ⟨b6, hf⟩ := zchk hf
  refine z_ialoadL dX12_heats_32 hE ho_w.1 b6 rfl ?_
  refine z_iload_n dX12_heats_33 rfl ?_
  refine z_bipush (v := 10) dX12_heats_34 (by decide) ?_
  refine z_idiv dX12_heats_36 (by decide) ?_
  refine z_isub dX12_heats_37 ?_
  refine z_mmax dX12_heats_38 tM_12_308 (Nat.le_of_ble_eq_true rfl) ?_
  obtain ⟨b7, hf⟩ := zchk hf
  obtain ⟨S8, eS8, hf⟩ := zl_some hf
  refine z_iastoreL (i := (y2 + 2).toNatClampNeg) dX12_heats_41 hE ho_w.1 b7 rfl (fun h hE => ?_)
  rw [← eS8] at hE
  refine z_aload_n dX12_heats_42 rfl ?_
  refine z_iload dX12_heats_43 rfl ?_
  refine z_iconst (v := 1) dX12_heats_45 (by decide) ?_
  refine z_iadd dX12_heats_46 ?_
  refine z_iconst (v := 0) dX12_heats_47 (by decide) ?_
  refine z_aload_n dX12_heats_48 rfl ?_
  refine z_iload dX12_heats_49 rfl ?_
  refine z_iconst (v := 1) dX12_heats_51 (by decide) ?_
  refine z_iadd dX12_heats_52 ?_
  obtain ⟨b9, hf⟩ := zchk hf
  refine z_ialoadL dX12_heats_53 hE ho_w.1 b9 rfl ?_
  refine z_iload_n dX12_heats_54 rfl ?_
  refine z_iconst (v := 5) dX12_heats_55 (by decide) ?_
  refine z_idiv dX12_heats_56 (by decide) ?_
  refine z_isub dX12_heats_57 ?_
  refine z_mmax dX12_heats_58 tM_12_308 (Nat.le_of_ble_eq_true rfl) ?_
  obtain ⟨b10, hf⟩ := zchk hf
  obtain ⟨S11, eS11, hf⟩ := zl_some hf
  refine z_iastoreL (i := (y2 + 1).toNatClampNeg) dX12_heats_61 hE ho_w.1 b10 rfl (fun h hE => ?_)
  rw [← eS11] at hE
  refine z_aload_n dX12_heats_62 rfl ?_
  refine z_iload dX12_heats_63 rfl ?_
  refine z_iconst (v := 3) dX12_heats_65 (by decide) ?_
  refine z_iadd dX12_heats_66 ?_
  obtain ⟨b12, hf⟩ := zchk hf
  refine z_ialoadL dX12_heats_67 hE ho_w.1 b12 rfl ?_
  refine z_aload_n dX12_heats_68 rfl ?_
  refine z_getC dX12_heats_69 tF_12_37 hE dr_41 rfl rfl ?_
  refine z_bipush (v := 6) dX12_heats_72 (by decide) ?_
  refine z_iload_n dX12_heats_74 rfl ?_
  refine z_imul dX12_heats_75 ?_
  refine z_iconst (v := 5) dX12_heats_76 (by decide) ?_
  refine z_iadd dX12_heats_77 ?_
  obtain ⟨b13, hf⟩ := zchk hf
  refine z_ialoadL dX12_heats_78 hE dr_46 b13 rfl ?_
  obtain ⟨J15, eJ15, hf⟩ := zl_some hf
  have hJ15 : ∀ (S16 : zS) (h : Nat → va_E), zE zDr h0 S16 (h, t) → J15 S16 = some R → zW (ia_P0 L xs fm) ia_nx (d + 0) 12 false cX12_heats 5 (none) 90 [(0, .ref 41), (1, .ref w), (2, .int v2), (3, .int y1), (4, .int y2)] [] (h, t) (zQv zDr h0 t R) := by
    intro S16 h hE hf
    rw [eJ15] at hf
    refine z_aload_n dX12_heats_90 rfl ?_
    refine z_bipush (v := 65) dX12_heats_91 (by decide) ?_
    refine z_dup2 dX12_heats_93 ⟨rfl, rfl⟩ ?_
    refine z_ialoadL (i := 65) dX12_heats_94 hE ho_w.1 (by decide) (by decide) ?_
    refine z_iconst (v := 1) dX12_heats_95 (by decide) ?_
    refine z_iadd dX12_heats_96 ?_
    obtain ⟨S17, eS17, hf⟩ := zl_some hf
    refine z_iastoreL (i := 65) dX12_heats_97 hE ho_w.1 (by decide) (by decide) (fun h hE => ?_)
    rw [← eS17] at hE
    have e_ := Option.some.inj hf
    subst e_
    exact z_vreturn dX12_heats_98 rfl ⟨h, rfl, rfl, hE⟩
  by_cases c14 : (S11.1 w (y2 + 3).toNatClampNeg) ≤ (S11.1 46 ((6 * y1) + 5).toNatClampNeg)
  · have hf := zif_t hf c14
    refine z_icmp_le_t (tgt := 90) dX12_heats_79 (by decide) c14 ?_
    exact zW.sub (hJ15 S11 _ hE hf) [2, 3, 4, 1, 0] rfl rfl rfl rfl
  · have hf := zif_f hf c14
    refine z_icmp_le_f (tgt := 90) dX12_heats_79 (by decide) c14 ?_
    refine z_aload_n dX12_heats_82 rfl ?_
    refine z_iload dX12_heats_83 rfl ?_
    refine z_bipush (v := 6) dX12_heats_85 (by decide) ?_
    refine z_iadd dX12_heats_87 ?_
    refine z_iconst (v := 1) dX12_heats_88 (by decide) ?_
    obtain ⟨b18, hf⟩ := zchk hf
    obtain ⟨S19, eS19, hf⟩ := zl_some hf
    refine z_iastoreL (i := (y2 + 6).toNatClampNeg) dX12_heats_89 hE ho_w.1 b18 rfl (fun h hE => ?_)
    rw [← eS19] at hE
    exact zW.sub (hJ15 S19 _ hE hf) [2, 3, 4, 1, 0] rfl rfl rfl rfl
def f_X12_heat (v1 : Int32) (S : zS) : Option (Int32 × zS) :=
zl (sV S 41 0 0) fun S1 =>
zb (f_X12_canWork S1) fun r3 S2 =>
if r3 = 0 then
some ((-1), S2)
else
zb (f_X12_isIn (v1.toInt64) 1 60 S2) fun r7 S6 =>
if ¬ r7 = 0 then
zb (f_X12_remember S6) fun _ S10 =>
zb (f_X12_heats 54 v1 S10) fun _ S13 =>
zl (fun (q18 : Int32) =>
zb (f_X12_writes q18 S13) fun _ S19 =>
if ia_in ((7 * (S19.1 54 64)) + 6) 66 = true then
some (S19.1 54 ((7 * (S19.1 54 64)) + 6).toNatClampNeg, S19)
else none) fun J17 =>
if ¬ v1 = 10 then
J17 5
else
J17 3
else
some ((-1), S6)
theorem w_X12_heat {L : Nat} {xs : Nat → Int32} {fm : Bool} {h0 : Nat → va_E} {t : Nat × Nat × Nat} (hn1 : 64 ≤ t.1) (hn2 : t.1 ≤ 1000000) (d : Nat) {h : Nat → va_E} {S : zS} (hE : zE zDr h0 S (h, t)) {v1 : Int32} {R : Int32 × zS} (hf : f_X12_heat v1 S = some R) : zC (ia_P0 L xs fm) (d + 3) 12057 [.ref 41, .int v1] (h, t) (zQi zDr h0 t R) := by
  refine zC_of mt_12057 nn_12057 (Nat.le_of_ble_eq_true rfl) ?_
  refine zW_lv (lv' := [(0, .ref 41), (1, .int v1)]) rfl ?_
  unfold f_X12_heat at hf
  refine z_aload_n dX12_heat_0 rfl ?_
  refine z_iconst (v := 0) dX12_heat_1 (by decide) ?_
  obtain ⟨S1, eS1, hf⟩ := zl_some hf
  refine z_putI dX12_heat_2 tF_12_93 hE dr_41 rfl rfl rfl rfl (fun h hE => ?_)
  rw [← eS1] at hE
  refine z_aload_n dX12_heat_5 rfl ?_
  obtain ⟨r3, S2, k4, hf⟩ := zb_some hf
  refine z_callVi dX12_heat_6 tM_12_364 mt_12058 (Nat.le_of_ble_eq_true rfl) rfl rfl (z_recv hE dr_41 rfl) rfl (ia_oks_le hn1 rfl) (Nat.le_of_ble_eq_true rfl) (w_X12_canWork hn1 hn2 (d + 0) hE k4) (fun h hE => ?_)
  by_cases c5 : r3 = 0
  · have hf := zif_t hf c5
    refine z_if_eq_t (tgt := 24) dX12_heat_9 (by decide) c5 ?_
    refine z_iconst (v := (-1)) dX12_heat_24 (by decide) ?_
    have e_ := Option.some.inj hf
    subst e_
    exact z_ireturn dX12_heat_25 rfl ⟨h, rfl, rfl, hE⟩
  · have hf := zif_f hf c5
    refine z_if_eq_f (tgt := 24) dX12_heat_9 (by decide) c5 ?_
    refine z_iload_n dX12_heat_12 rfl ?_
    refine z_i2l dX12_heat_13 ?_
    refine z_lconst (v := 1) dX12_heat_14 (by decide) ?_
    refine z_ldc2 dX12_heat_15 tK_12_367 ?_
    obtain ⟨r7, S6, k8, hf⟩ := zb_some hf
    refine z_callSi dX12_heat_18 tM_12_214 (by decide) mt_12007 (Nat.le_of_ble_eq_true rfl) rfl rfl (ia_oks_le hn1 rfl) (Nat.le_of_ble_eq_true rfl) (w_X12_isIn hn1 hn2 (d + 1) hE k8) (fun h hE => ?_)
    by_cases c9 : ¬ r7 = 0
    · have hf := zif_t hf c9
      refine z_if_ne_t (tgt := 26) dX12_heat_21 (by decide) c9 ?_
      refine z_aload_n dX12_heat_26 rfl ?_
      obtain ⟨r11, S10, k12, hf⟩ := zb_some hf
      refine z_callVv dX12_heat_27 tM_12_358 mt_12054 (Nat.le_of_ble_eq_true rfl) rfl rfl (z_recv hE dr_41 rfl) rfl (ia_oks_le hn1 rfl) (Nat.le_of_ble_eq_true rfl) (w_X12_remember hn1 hn2 (d + 1) hE k12) (fun h hE => ?_)
      refine z_aload_n dX12_heat_30 rfl ?_
      refine z_aload_n dX12_heat_31 rfl ?_
      refine z_getC dX12_heat_32 tF_12_61 hE dr_41 rfl rfl ?_
      refine z_iload_n dX12_heat_35 rfl ?_
      obtain ⟨r14, S13, k15, hf⟩ := zb_some hf
      refine z_callVv dX12_heat_36 tM_12_341 mt_12059 (Nat.le_of_ble_eq_true rfl) rfl rfl (z_recv hE dr_41 rfl) rfl (ia_oks_le hn1 rfl) (Nat.le_of_ble_eq_true rfl) (w_X12_heats hn1 hn2 (d + 1) rw_54 hE k15) (fun h hE => ?_)
      refine z_aload_n dX12_heat_39 rfl ?_
      refine z_iload_n dX12_heat_40 rfl ?_
      refine z_bipush (v := 10) dX12_heat_41 (by decide) ?_
      obtain ⟨J17, eJ17, hf⟩ := zl_some hf
      have hJ17 : ∀ (q18 : Int32) (h : Nat → va_E), zE zDr h0 S13 (h, t) → J17 q18 = some R → zW (ia_P0 L xs fm) ia_nx (d + 2) 12 false cX12_heat 2 (some .int) 51 [(0, .ref 41), (1, .int v1)] [.int q18, .ref 41] (h, t) (zQi zDr h0 t R) := by
        intro q18 h hE hf
        rw [eJ17] at hf
        obtain ⟨r20, S19, k21, hf⟩ := zb_some hf
        refine z_callVv dX12_heat_51 tM_12_361 mt_12056 (Nat.le_of_ble_eq_true rfl) rfl rfl (z_recv hE dr_41 rfl) rfl (ia_oks_le hn1 rfl) (Nat.le_of_ble_eq_true rfl) (w_X12_writes hn1 hn2 (d + 1) hE k21) (fun h hE => ?_)
        refine z_aload_n dX12_heat_54 rfl ?_
        refine z_getC dX12_heat_55 tF_12_61 hE dr_41 rfl rfl ?_
        refine z_bipush (v := 7) dX12_heat_58 (by decide) ?_
        refine z_aload_n dX12_heat_60 rfl ?_
        refine z_getC dX12_heat_61 tF_12_61 hE dr_41 rfl rfl ?_
        refine z_bipush (v := 64) dX12_heat_64 (by decide) ?_
        refine z_ialoadL (i := 64) dX12_heat_66 hE dr_54 (by decide) (by decide) ?_
        refine z_imul dX12_heat_67 ?_
        refine z_bipush (v := 6) dX12_heat_68 (by decide) ?_
        refine z_iadd dX12_heat_70 ?_
        obtain ⟨b22, hf⟩ := zchk hf
        refine z_ialoadL dX12_heat_71 hE dr_54 b22 rfl ?_
        have e_ := Option.some.inj hf
        subst e_
        exact z_ireturn dX12_heat_72 rfl ⟨h, rfl, rfl, hE⟩
      by_cases c16 : ¬ v1 = 10
      · have hf := zif_t hf c16
        refine z_icmp_ne_t (tgt := 50) dX12_heat_43 (by decide) c16 ?_
        refine z_iconst (v := 5) dX12_heat_50 (by decide) ?_
        exact zW.sub (hJ17 5 _ hE hf) [0, 1] rfl rfl rfl rfl
      · have hf := zif_f hf c16
        refine z_icmp_ne_f (tgt := 50) dX12_heat_43 (by decide) c16 ?_
        refine z_iconst (v := 3) dX12_heat_46 (by decide) ?_
        refine z_goto (tgt := 51) dX12_heat_47 (by decide) ?_
        exact zW.sub (hJ17 3 _ hE hf) [0, 1] rfl rfl rfl rfl
    · have hf := zif_f hf c9
      refine z_if_ne_f (tgt := 26) dX12_heat_21 (by decide) c9 ?_
      refine z_iconst (v := (-1)) dX12_heat_24 (by decide) ?_
      have e_ := Option.some.inj hf
      subst e_
      exact z_ireturn dX12_heat_25 rfl ⟨h, rfl, rfl, hE⟩
def f_X12_works (w : Nat) (v2 : Int32) (S : zS) : Option (Unit × zS) :=
zl (7 * (S.1 w 64)) fun (y1 : Int32) =>
zl (fun (S4 : zS) =>
zl (fun (S7 : zS) =>
zl (fun (S10 : zS) =>
zl (fun (S13 : zS) =>
zl (sV S13 w 65 ((S13.1 w 65) + 1)) fun S14 =>
some ((), S14)) fun J12 =>
if ¬ v2 = 3 then
J12 S10
else
if ia_in (y1 + 2) 66 = true then
if ia_in (y1 + 2) 66 = true then
zl (sV S10 w ((y1 + 2).toNatClampNeg) (if ((S10.1 w (y1 + 2).toNatClampNeg) + 3) < 9 then ((S10.1 w (y1 + 2).toNatClampNeg) + 3) else 9)) fun S17 =>
J12 S17
else none
else none) fun J9 =>
if ¬ v2 = 2 then
J9 S7
else
if ia_in y1 66 = true then
zl (sV S7 w (y1.toNatClampNeg) 0) fun S19 =>
if ia_in (y1 + 4) 66 = true then
zl (sV S19 w ((y1 + 4).toNatClampNeg) 1) fun S21 =>
J9 S21
else none
else none) fun J6 =>
if ¬ v2 = 1 then
J6 S4
else
if ia_in y1 66 = true then
if ia_in y1 66 = true then
zl (sV S4 w (y1.toNatClampNeg) (if 0 < ((S4.1 w y1.toNatClampNeg) - 4) then ((S4.1 w y1.toNatClampNeg) - 4) else 0)) fun S24 =>
J6 S24
else none
else none) fun J3 =>
if ¬ v2 = 0 then
J3 S
else
if ia_in (y1 + 1) 66 = true then
if ia_in (y1 + 1) 66 = true then
zl (sV S w ((y1 + 1).toNatClampNeg) (if 0 < ((S.1 w (y1 + 1).toNatClampNeg) - 3) then ((S.1 w (y1 + 1).toNatClampNeg) - 3) else 0)) fun S27 =>
J3 S27
else none
else none
theorem w_X12_works {L : Nat} {xs : Nat → Int32} {fm : Bool} {h0 : Nat → va_E} {t : Nat × Nat × Nat} (hn1 : 64 ≤ t.1) (hn2 : t.1 ≤ 1000000) (d : Nat) {w : Nat} (ho_w : zRw w) {h : Nat → va_E} {S : zS} (hE : zE zDr h0 S (h, t)) {v2 : Int32} {R : Unit × zS} (hf : f_X12_works w v2 S = some R) : zC (ia_P0 L xs fm) (d + 1) 12061 [.ref 41, .ref w, .int v2] (h, t) (zQv zDr h0 t R) := by
  refine zC_of mt_12061 nn_12061 (Nat.le_of_ble_eq_true rfl) ?_
  refine zW_lv (lv' := [(0, .ref 41), (1, .ref w), (2, .int v2)]) rfl ?_
  unfold f_X12_works at hf
  refine z_bipush (v := 7) dX12_works_0 (by decide) ?_
  refine z_aload_n dX12_works_2 rfl ?_
  refine z_bipush (v := 64) dX12_works_3 (by decide) ?_
  refine z_ialoadL (i := 64) dX12_works_5 hE ho_w.1 (by decide) (by decide) ?_
  refine z_imul dX12_works_6 ?_
  obtain ⟨y1, ey1, hf⟩ := zl_some hf
  refine z_topi ey1 ?_
  refine z_istore_n (lv' := [(3, .int y1), (0, .ref 41), (1, .ref w), (2, .int v2)]) dX12_works_7 (by decide) rfl ?_
  refine z_iload_n dX12_works_8 rfl ?_
  obtain ⟨J3, eJ3, hf⟩ := zl_some hf
  have hJ3 : ∀ (S4 : zS) (h : Nat → va_E), zE zDr h0 S4 (h, t) → J3 S4 = some R → zW (ia_P0 L xs fm) ia_nx (d + 0) 12 false cX12_works 4 (none) 28 [(0, .ref 41), (1, .ref w), (2, .int v2), (3, .int y1)] [] (h, t) (zQv zDr h0 t R) := by
    intro S4 h hE hf
    rw [eJ3] at hf
    refine z_iload_n dX12_works_28 rfl ?_
    refine z_iconst (v := 1) dX12_works_29 (by decide) ?_
    obtain ⟨J6, eJ6, hf⟩ := zl_some hf
    have hJ6 : ∀ (S7 : zS) (h : Nat → va_E), zE zDr h0 S7 (h, t) → J6 S7 = some R → zW (ia_P0 L xs fm) ia_nx (d + 0) 12 false cX12_works 4 (none) 45 [(0, .ref 41), (1, .ref w), (2, .int v2), (3, .int y1)] [] (h, t) (zQv zDr h0 t R) := by
      intro S7 h hE hf
      rw [eJ6] at hf
      refine z_iload_n dX12_works_45 rfl ?_
      refine z_iconst (v := 2) dX12_works_46 (by decide) ?_
      obtain ⟨J9, eJ9, hf⟩ := zl_some hf
      have hJ9 : ∀ (S10 : zS) (h : Nat → va_E), zE zDr h0 S10 (h, t) → J9 S10 = some R → zW (ia_P0 L xs fm) ia_nx (d + 0) 12 false cX12_works 4 (none) 60 [(0, .ref 41), (1, .ref w), (2, .int v2), (3, .int y1)] [] (h, t) (zQv zDr h0 t R) := by
        intro S10 h hE hf
        rw [eJ9] at hf
        refine z_iload_n dX12_works_60 rfl ?_
        refine z_iconst (v := 3) dX12_works_61 (by decide) ?_
        obtain ⟨J12, eJ12, hf⟩ := zl_some hf
        have hJ12 : ∀ (S13 : zS) (h : Nat → va_E), zE zDr h0 S13 (h, t) → J12 S13 = some R → zW (ia_P0 L xs fm) ia_nx (d + 0) 12 false cX12_works 4 (none) 82 [(0, .ref 41), (1, .ref w), (2, .int v2), (3, .int y1)] [] (h, t) (zQv zDr h0 t R) := by
          intro S13 h hE hf
          rw [eJ12] at hf
          refine z_aload_n dX12_works_82 rfl ?_
          refine z_bipush (v := 65) dX12_works_83 (by decide) ?_
          refine z_dup2 dX12_works_85 ⟨rfl, rfl⟩ ?_
          refine z_ialoadL (i := 65) dX12_works_86 hE ho_w.1 (by decide) (by decide) ?_
          refine z_iconst (v := 1) dX12_works_87 (by decide) ?_
          refine z_iadd dX12_works_88 ?_
          obtain ⟨S14, eS14, hf⟩ := zl_some hf
          refine z_iastoreL (i := 65) dX12_works_89 hE ho_w.1 (by decide) (by decide) (fun h hE => ?_)
          rw [← eS14] at hE
          have e_ := Option.some.inj hf
          subst e_
          exact z_vreturn dX12_works_90 rfl ⟨h, rfl, rfl, hE⟩
        by_cases c11 : ¬ v2 = 3
        · have hf := zif_t hf c11
          refine z_icmp_ne_t (tgt := 82) dX12_works_62 (by decide) c11 ?_
          exact zW.sub (hJ12 S10 _ hE hf) [0, 1, 2, 3] rfl rfl rfl rfl
        · have hf := zif_f hf c11
          refine z_icmp_ne_f (tgt := 82) dX12_works_62 (by decide) c11 ?_
          refine z_aload_n dX12_works_65 rfl ?_
          refine z_iload_n dX12_works_66 rfl ?_
          refine z_iconst (v := 2) dX12_works_67 (by decide) ?_
          refine z_iadd dX12_works_68 ?_
          refine z_bipush (v := 9) dX12_works_69 (by decide) ?_
          refine z_aload_n dX12_works_71 rfl ?_
          refine z_iload_n dX12_works_72 rfl ?_
          refine z_iconst (v := 2) dX12_works_73 (by decide) ?_
          refine z_iadd dX12_works_74 ?_
          obtain ⟨b15, hf⟩ := zchk hf
          refine z_ialoadL dX12_works_75 hE ho_w.1 b15 rfl ?_
          refine z_iconst (v := 3) dX12_works_76 (by decide) ?_
          refine z_iadd dX12_works_77 ?_
          refine z_mmin dX12_works_78 tM_12_310 (Nat.le_of_ble_eq_true rfl) ?_
          obtain ⟨b16, hf⟩ := zchk hf
          obtain ⟨S17, eS17, hf⟩ := zl_some hf
          refine z_iastoreL (i := (y1 + 2).toNatClampNeg) dX12_works_81 hE ho_w.1 b16 rfl (fun h hE => ?_)
          rw [← eS17] at hE
          exact zW.sub (hJ12 S17 _ hE hf) [0, 1, 2, 3] rfl rfl rfl rfl
      by_cases c8 : ¬ v2 = 2
      · have hf := zif_t hf c8
        refine z_icmp_ne_t (tgt := 60) dX12_works_47 (by decide) c8 ?_
        exact zW.sub (hJ9 S7 _ hE hf) [0, 1, 2, 3] rfl rfl rfl rfl
      · have hf := zif_f hf c8
        refine z_icmp_ne_f (tgt := 60) dX12_works_47 (by decide) c8 ?_
        refine z_aload_n dX12_works_50 rfl ?_
        refine z_iload_n dX12_works_51 rfl ?_
        refine z_iconst (v := 0) dX12_works_52 (by decide) ?_
        obtain ⟨b18, hf⟩ := zchk hf
        obtain ⟨S19, eS19, hf⟩ := zl_some hf
        refine z_iastoreL (i := y1.toNatClampNeg) dX12_works_53 hE ho_w.1 b18 rfl (fun h hE => ?_)
        rw [← eS19] at hE
        refine z_aload_n dX12_works_54 rfl ?_
        refine z_iload_n dX12_works_55 rfl ?_
        refine z_iconst (v := 4) dX12_works_56 (by decide) ?_
        refine z_iadd dX12_works_57 ?_
        refine z_iconst (v := 1) dX12_works_58 (by decide) ?_
        obtain ⟨b20, hf⟩ := zchk hf
        obtain ⟨S21, eS21, hf⟩ := zl_some hf
        refine z_iastoreL (i := (y1 + 4).toNatClampNeg) dX12_works_59 hE ho_w.1 b20 rfl (fun h hE => ?_)
        rw [← eS21] at hE
        exact zW.sub (hJ9 S21 _ hE hf) [0, 1, 2, 3] rfl rfl rfl rfl
    by_cases c5 : ¬ v2 = 1
    · have hf := zif_t hf c5
      refine z_icmp_ne_t (tgt := 45) dX12_works_30 (by decide) c5 ?_
      exact zW.sub (hJ6 S4 _ hE hf) [0, 1, 2, 3] rfl rfl rfl rfl
    · have hf := zif_f hf c5
      refine z_icmp_ne_f (tgt := 45) dX12_works_30 (by decide) c5 ?_
      refine z_aload_n dX12_works_33 rfl ?_
      refine z_iload_n dX12_works_34 rfl ?_
      refine z_iconst (v := 0) dX12_works_35 (by decide) ?_
      refine z_aload_n dX12_works_36 rfl ?_
      refine z_iload_n dX12_works_37 rfl ?_
      obtain ⟨b22, hf⟩ := zchk hf
      refine z_ialoadL dX12_works_38 hE ho_w.1 b22 rfl ?_
      refine z_iconst (v := 4) dX12_works_39 (by decide) ?_
      refine z_isub dX12_works_40 ?_
      refine z_mmax dX12_works_41 tM_12_308 (Nat.le_of_ble_eq_true rfl) ?_
      obtain ⟨b23, hf⟩ := zchk hf
      obtain ⟨S24, eS24, hf⟩ := zl_some hf
      refine z_iastoreL (i := y1.toNatClampNeg) dX12_works_44 hE ho_w.1 b23 rfl (fun h hE => ?_)
      rw [← eS24] at hE
      exact zW.sub (hJ6 S24 _ hE hf) [0, 1, 2, 3] rfl rfl rfl rfl
  by_cases c2 : ¬ v2 = 0
  · have hf := zif_t hf c2
    refine z_if_ne_t (tgt := 28) dX12_works_9 (by decide) c2 ?_
    exact zW.sub (hJ3 S _ hE hf) [1, 2, 3, 0] rfl rfl rfl rfl
  · have hf := zif_f hf c2
    refine z_if_ne_f (tgt := 28) dX12_works_9 (by decide) c2 ?_
    refine z_aload_n dX12_works_12 rfl ?_
    refine z_iload_n dX12_works_13 rfl ?_
    refine z_iconst (v := 1) dX12_works_14 (by decide) ?_
    refine z_iadd dX12_works_15 ?_
    refine z_iconst (v := 0) dX12_works_16 (by decide) ?_
    refine z_aload_n dX12_works_17 rfl ?_
    refine z_iload_n dX12_works_18 rfl ?_
    refine z_iconst (v := 1) dX12_works_19 (by decide) ?_
    refine z_iadd dX12_works_20 ?_
    obtain ⟨b25, hf⟩ := zchk hf
    refine z_ialoadL dX12_works_21 hE ho_w.1 b25 rfl ?_
    refine z_iconst (v := 3) dX12_works_22 (by decide) ?_
    refine z_isub dX12_works_23 ?_
    refine z_mmax dX12_works_24 tM_12_308 (Nat.le_of_ble_eq_true rfl) ?_
    obtain ⟨b26, hf⟩ := zchk hf
    obtain ⟨S27, eS27, hf⟩ := zl_some hf
    refine z_iastoreL (i := (y1 + 1).toNatClampNeg) dX12_works_27 hE ho_w.1 b26 rfl (fun h hE => ?_)
    rw [← eS27] at hE
    exact zW.sub (hJ3 S27 _ hE hf) [1, 2, 3, 0] rfl rfl rfl rfl
def f_X12_work (v1 : Int32) (S : zS) : Option (Int32 × zS) :=
zl (sV S 41 0 0) fun S1 =>
zb (f_X12_canWork S1) fun r3 S2 =>
if r3 = 0 then
some ((-1), S2)
else
zb (f_X12_isIn (v1.toInt64) 0 3 S2) fun r7 S6 =>
if ¬ r7 = 0 then
zb (f_X12_remember S6) fun _ S10 =>
zb (f_X12_works 54 v1 S10) fun _ S13 =>
zl (fun (q18 : Int32) =>
zb (f_X12_writes q18 S13) fun _ S19 =>
zb (f_X12_holdOf 54 (S19.1 54 64) S19) fun r23 S22 =>
some (r23, S22)) fun J17 =>
if ¬ v1 = 3 then
J17 v1
else
J17 7
else
some ((-1), S6)
theorem w_X12_work {L : Nat} {xs : Nat → Int32} {fm : Bool} {h0 : Nat → va_E} {t : Nat × Nat × Nat} (hn1 : 64 ≤ t.1) (hn2 : t.1 ≤ 1000000) (d : Nat) {h : Nat → va_E} {S : zS} (hE : zE zDr h0 S (h, t)) {v1 : Int32} {R : Int32 × zS} (hf : f_X12_work v1 S = some R) : zC (ia_P0 L xs fm) (d + 3) 12060 [.ref 41, .int v1] (h, t) (zQi zDr h0 t R) := by
  refine zC_of mt_12060 nn_12060 (Nat.le_of_ble_eq_true rfl) ?_
  refine zW_lv (lv' := [(0, .ref 41), (1, .int v1)]) rfl ?_
  unfold f_X12_work at hf
  refine z_aload_n dX12_work_0 rfl ?_
  refine z_iconst (v := 0) dX12_work_1 (by decide) ?_
  obtain ⟨S1, eS1, hf⟩ := zl_some hf
  refine z_putI dX12_work_2 tF_12_93 hE dr_41 rfl rfl rfl rfl (fun h hE => ?_)
  rw [← eS1] at hE
  refine z_aload_n dX12_work_5 rfl ?_
  obtain ⟨r3, S2, k4, hf⟩ := zb_some hf
  refine z_callVi dX12_work_6 tM_12_364 mt_12058 (Nat.le_of_ble_eq_true rfl) rfl rfl (z_recv hE dr_41 rfl) rfl (ia_oks_le hn1 rfl) (Nat.le_of_ble_eq_true rfl) (w_X12_canWork hn1 hn2 (d + 0) hE k4) (fun h hE => ?_)
  by_cases c5 : r3 = 0
  · have hf := zif_t hf c5
    refine z_if_eq_t (tgt := 24) dX12_work_9 (by decide) c5 ?_
    refine z_iconst (v := (-1)) dX12_work_24 (by decide) ?_
    have e_ := Option.some.inj hf
    subst e_
    exact z_ireturn dX12_work_25 rfl ⟨h, rfl, rfl, hE⟩
  · have hf := zif_f hf c5
    refine z_if_eq_f (tgt := 24) dX12_work_9 (by decide) c5 ?_
    refine z_iload_n dX12_work_12 rfl ?_
    refine z_i2l dX12_work_13 ?_
    refine z_lconst (v := 0) dX12_work_14 (by decide) ?_
    refine z_ldc2 dX12_work_15 tK_12_369 ?_
    obtain ⟨r7, S6, k8, hf⟩ := zb_some hf
    refine z_callSi dX12_work_18 tM_12_214 (by decide) mt_12007 (Nat.le_of_ble_eq_true rfl) rfl rfl (ia_oks_le hn1 rfl) (Nat.le_of_ble_eq_true rfl) (w_X12_isIn hn1 hn2 (d + 1) hE k8) (fun h hE => ?_)
    by_cases c9 : ¬ r7 = 0
    · have hf := zif_t hf c9
      refine z_if_ne_t (tgt := 26) dX12_work_21 (by decide) c9 ?_
      refine z_aload_n dX12_work_26 rfl ?_
      obtain ⟨r11, S10, k12, hf⟩ := zb_some hf
      refine z_callVv dX12_work_27 tM_12_358 mt_12054 (Nat.le_of_ble_eq_true rfl) rfl rfl (z_recv hE dr_41 rfl) rfl (ia_oks_le hn1 rfl) (Nat.le_of_ble_eq_true rfl) (w_X12_remember hn1 hn2 (d + 1) hE k12) (fun h hE => ?_)
      refine z_aload_n dX12_work_30 rfl ?_
      refine z_aload_n dX12_work_31 rfl ?_
      refine z_getC dX12_work_32 tF_12_61 hE dr_41 rfl rfl ?_
      refine z_iload_n dX12_work_35 rfl ?_
      obtain ⟨r14, S13, k15, hf⟩ := zb_some hf
      refine z_callVv dX12_work_36 tM_12_337 mt_12061 (Nat.le_of_ble_eq_true rfl) rfl rfl (z_recv hE dr_41 rfl) rfl (ia_oks_le hn1 rfl) (Nat.le_of_ble_eq_true rfl) (w_X12_works hn1 hn2 (d + 1) rw_54 hE k15) (fun h hE => ?_)
      refine z_aload_n dX12_work_39 rfl ?_
      refine z_iload_n dX12_work_40 rfl ?_
      refine z_iconst (v := 3) dX12_work_41 (by decide) ?_
      obtain ⟨J17, eJ17, hf⟩ := zl_some hf
      have hJ17 : ∀ (q18 : Int32) (h : Nat → va_E), zE zDr h0 S13 (h, t) → J17 q18 = some R → zW (ia_P0 L xs fm) ia_nx (d + 2) 12 false cX12_work 2 (some .int) 51 [(0, .ref 41), (1, .int v1)] [.int q18, .ref 41] (h, t) (zQi zDr h0 t R) := by
        intro q18 h hE hf
        rw [eJ17] at hf
        obtain ⟨r20, S19, k21, hf⟩ := zb_some hf
        refine z_callVv dX12_work_51 tM_12_361 mt_12056 (Nat.le_of_ble_eq_true rfl) rfl rfl (z_recv hE dr_41 rfl) rfl (ia_oks_le hn1 rfl) (Nat.le_of_ble_eq_true rfl) (w_X12_writes hn1 hn2 (d + 1) hE k21) (fun h hE => ?_)
        refine z_aload_n dX12_work_54 rfl ?_
        refine z_getC dX12_work_55 tF_12_61 hE dr_41 rfl rfl ?_
        refine z_aload_n dX12_work_58 rfl ?_
        refine z_getC dX12_work_59 tF_12_61 hE dr_41 rfl rfl ?_
        refine z_bipush (v := 64) dX12_work_62 (by decide) ?_
        refine z_ialoadL (i := 64) dX12_work_64 hE dr_54 (by decide) (by decide) ?_
        obtain ⟨r23, S22, k24, hf⟩ := zb_some hf
        refine z_callSi dX12_work_65 tM_12_321 (by decide) mt_12041 (Nat.le_of_ble_eq_true rfl) rfl rfl (ia_oks_le hn1 rfl) (Nat.le_of_ble_eq_true rfl) (w_X12_holdOf hn1 hn2 (d + 1) rw_54 hE k24) (fun h hE => ?_)
        have e_ := Option.some.inj hf
        subst e_
        exact z_ireturn dX12_work_68 rfl ⟨h, rfl, rfl, hE⟩
      by_cases c16 : ¬ v1 = 3
      · have hf := zif_t hf c16
        refine z_icmp_ne_t (tgt := 50) dX12_work_42 (by decide) c16 ?_
        refine z_iload_n dX12_work_50 rfl ?_
        exact zW.sub (hJ17 v1 _ hE hf) [0, 1] rfl rfl rfl rfl
      · have hf := zif_f hf c16
        refine z_icmp_ne_f (tgt := 50) dX12_work_42 (by decide) c16 ?_
        refine z_bipush (v := 7) dX12_work_45 (by decide) ?_
        refine z_goto (tgt := 51) dX12_work_47 (by decide) ?_
        exact zW.sub (hJ17 7 _ hE hf) [0, 1] rfl rfl rfl rfl
    · have hf := zif_f hf c9
      refine z_if_ne_f (tgt := 26) dX12_work_21 (by decide) c9 ?_
      refine z_iconst (v := (-1)) dX12_work_24 (by decide) ?_
      have e_ := Option.some.inj hf
      subst e_
      exact z_ireturn dX12_work_25 rfl ⟨h, rfl, rfl, hE⟩
def f_X12_dries (w : Nat) (v2 : Int32) (S : zS) : Option (Unit × zS) :=
if ia_in ((28 + (2 * v2)) + 1) 66 = true then
zl (sV S w (((28 + (2 * v2)) + 1).toNatClampNeg) 0) fun S2 =>
zl (sV S2 w 65 ((S2.1 w 65) + 1)) fun S3 =>
some ((), S3)
else none
theorem w_X12_dries {L : Nat} {xs : Nat → Int32} {fm : Bool} {h0 : Nat → va_E} {t : Nat × Nat × Nat} (hn1 : 64 ≤ t.1) (hn2 : t.1 ≤ 1000000) (d : Nat) {w : Nat} (ho_w : zRw w) {h : Nat → va_E} {S : zS} (hE : zE zDr h0 S (h, t)) {v2 : Int32} {R : Unit × zS} (hf : f_X12_dries w v2 S = some R) : zC (ia_P0 L xs fm) (d + 1) 12063 [.ref 41, .ref w, .int v2] (h, t) (zQv zDr h0 t R) := by
  refine zC_of mt_12063 nn_12063 (Nat.le_of_ble_eq_true rfl) ?_
  refine zW_lv (lv' := [(0, .ref 41), (1, .ref w), (2, .int v2)]) rfl ?_
  unfold f_X12_dries at hf
  refine z_aload_n dX12_dries_0 rfl ?_
  refine z_bipush (v := 28) dX12_dries_1 (by decide) ?_
  refine z_iconst (v := 2) dX12_dries_3 (by decide) ?_
  refine z_iload_n dX12_dries_4 rfl ?_
  refine z_imul dX12_dries_5 ?_
  refine z_iadd dX12_dries_6 ?_
  refine z_iconst (v := 1) dX12_dries_7 (by decide) ?_
  refine z_iadd dX12_dries_8 ?_
  refine z_iconst (v := 0) dX12_dries_9 (by decide) ?_
  obtain ⟨b1, hf⟩ := zchk hf
  obtain ⟨S2, eS2, hf⟩ := zl_some hf
  refine z_iastoreL (i := ((28 + (2 * v2)) + 1).toNatClampNeg) dX12_dries_10 hE ho_w.1 b1 rfl (fun h hE => ?_)
  rw [← eS2] at hE
  refine z_aload_n dX12_dries_11 rfl ?_
  refine z_bipush (v := 65) dX12_dries_12 (by decide) ?_
  refine z_dup2 dX12_dries_14 ⟨rfl, rfl⟩ ?_
  refine z_ialoadL (i := 65) dX12_dries_15 hE ho_w.1 (by decide) (by decide) ?_
  refine z_iconst (v := 1) dX12_dries_16 (by decide) ?_
  refine z_iadd dX12_dries_17 ?_
  obtain ⟨S3, eS3, hf⟩ := zl_some hf
  refine z_iastoreL (i := 65) dX12_dries_18 hE ho_w.1 (by decide) (by decide) (fun h hE => ?_)
  rw [← eS3] at hE
  have e_ := Option.some.inj hf
  subst e_
  exact z_vreturn dX12_dries_19 rfl ⟨h, rfl, rfl, hE⟩
def f_X12_dry (v1 : Int32) (S : zS) : Option (Int32 × zS) :=
zl (sV S 41 0 0) fun S1 =>
zb (f_X12_isHand v1 S1) fun r3 S2 =>
if ¬ r3 = 0 then
zb (f_X12_remember S2) fun _ S6 =>
zb (f_X12_dries 54 v1 S6) fun _ S9 =>
zb (f_X12_writes (10 + v1) S9) fun _ S12 =>
some (1, S12)
else
some (0, S2)
theorem w_X12_dry {L : Nat} {xs : Nat → Int32} {fm : Bool} {h0 : Nat → va_E} {t : Nat × Nat × Nat} (hn1 : 64 ≤ t.1) (hn2 : t.1 ≤ 1000000) (d : Nat) {h : Nat → va_E} {S : zS} (hE : zE zDr h0 S (h, t)) {v1 : Int32} {R : Int32 × zS} (hf : f_X12_dry v1 S = some R) : zC (ia_P0 L xs fm) (d + 2) 12062 [.ref 41, .int v1] (h, t) (zQi zDr h0 t R) := by
  refine zC_of mt_12062 nn_12062 (Nat.le_of_ble_eq_true rfl) ?_
  refine zW_lv (lv' := [(0, .ref 41), (1, .int v1)]) rfl ?_
  unfold f_X12_dry at hf
  refine z_aload_n dX12_dry_0 rfl ?_
  refine z_iconst (v := 0) dX12_dry_1 (by decide) ?_
  obtain ⟨S1, eS1, hf⟩ := zl_some hf
  refine z_putI dX12_dry_2 tF_12_93 hE dr_41 rfl rfl rfl rfl (fun h hE => ?_)
  rw [← eS1] at hE
  refine z_aload_n dX12_dry_5 rfl ?_
  refine z_iload_n dX12_dry_6 rfl ?_
  obtain ⟨r3, S2, k4, hf⟩ := zb_some hf
  refine z_callVi dX12_dry_7 tM_12_325 mt_12043 (Nat.le_of_ble_eq_true rfl) rfl rfl (z_recv hE dr_41 rfl) rfl (ia_oks_le hn1 rfl) (Nat.le_of_ble_eq_true rfl) (w_X12_isHand hn1 hn2 (d + 0) hE k4) (fun h hE => ?_)
  by_cases c5 : ¬ r3 = 0
  · have hf := zif_t hf c5
    refine z_if_ne_t (tgt := 15) dX12_dry_10 (by decide) c5 ?_
    refine z_aload_n dX12_dry_15 rfl ?_
    obtain ⟨r7, S6, k8, hf⟩ := zb_some hf
    refine z_callVv dX12_dry_16 tM_12_358 mt_12054 (Nat.le_of_ble_eq_true rfl) rfl rfl (z_recv hE dr_41 rfl) rfl (ia_oks_le hn1 rfl) (Nat.le_of_ble_eq_true rfl) (w_X12_remember hn1 hn2 (d + 0) hE k8) (fun h hE => ?_)
    refine z_aload_n dX12_dry_19 rfl ?_
    refine z_aload_n dX12_dry_20 rfl ?_
    refine z_getC dX12_dry_21 tF_12_61 hE dr_41 rfl rfl ?_
    refine z_iload_n dX12_dry_24 rfl ?_
    obtain ⟨r10, S9, k11, hf⟩ := zb_some hf
    refine z_callVv dX12_dry_25 tM_12_347 mt_12063 (Nat.le_of_ble_eq_true rfl) rfl rfl (z_recv hE dr_41 rfl) rfl (ia_oks_le hn1 rfl) (Nat.le_of_ble_eq_true rfl) (w_X12_dries hn1 hn2 (d + 0) rw_54 hE k11) (fun h hE => ?_)
    refine z_aload_n dX12_dry_28 rfl ?_
    refine z_bipush (v := 10) dX12_dry_29 (by decide) ?_
    refine z_iload_n dX12_dry_31 rfl ?_
    refine z_iadd dX12_dry_32 ?_
    obtain ⟨r13, S12, k14, hf⟩ := zb_some hf
    refine z_callVv dX12_dry_33 tM_12_361 mt_12056 (Nat.le_of_ble_eq_true rfl) rfl rfl (z_recv hE dr_41 rfl) rfl (ia_oks_le hn1 rfl) (Nat.le_of_ble_eq_true rfl) (w_X12_writes hn1 hn2 (d + 0) hE k14) (fun h hE => ?_)
    refine z_iconst (v := 1) dX12_dry_36 (by decide) ?_
    have e_ := Option.some.inj hf
    subst e_
    exact z_zreturn dX12_dry_37 rfl (by decide) ⟨h, rfl, rfl, hE⟩
  · have hf := zif_f hf c5
    refine z_if_ne_f (tgt := 15) dX12_dry_10 (by decide) c5 ?_
    refine z_iconst (v := 0) dX12_dry_13 (by decide) ?_
    have e_ := Option.some.inj hf
    subst e_
    exact z_zreturn dX12_dry_14 rfl (by decide) ⟨h, rfl, rfl, hE⟩
def f_X12_waits_L2 (w : Nat) (ex : Int32 → zS → Option (Unit × zS)) (i2 : Int32) : Nat → Int32 → zS → Option (Unit × zS)
  | 0, _, _ => none
  | k + 1, x3, S =>
    if (S.1 41 24) ≤ x3 then
    ex x3 S
    else
    if ia_in ((7 * x3) + 3) 66 = true then
    if ia_in ((7 * x3) + 3) 66 = true then
    zl (sV S w (((7 * x3) + 3).toNatClampNeg) (if 0 < ((S.1 w ((7 * x3) + 3).toNatClampNeg) - (2 * i2)) then ((S.1 w ((7 * x3) + 3).toNatClampNeg) - (2 * i2)) else 0)) fun S4 =>
    zl (x3 + 1) fun (y5 : Int32) =>
    f_X12_waits_L2 w ex i2 k y5 S4
    else none
    else none
def f_X12_waits_L42 (w : Nat) (ex : Int32 → zS → Option (Unit × zS)) (i2 : Int32) : Nat → Int32 → zS → Option (Unit × zS)
  | 0, _, _ => none
  | k + 1, x3, S =>
    if (S.1 41 25) ≤ x3 then
    ex x3 S
    else
    zl (28 + (2 * x3)) fun (y9 : Int32) =>
    if ia_in (5 * x3) 30 = true then
    if ia_in y9 66 = true then
    if ia_in y9 66 = true then
    zl (sV S w (y9.toNatClampNeg) (if ((S.1 w y9.toNatClampNeg) + i2) < (S.1 48 (5 * x3).toNatClampNeg) then ((S.1 w y9.toNatClampNeg) + i2) else (S.1 48 (5 * x3).toNatClampNeg))) fun S13 =>
    if ia_in (y9 + 1) 66 = true then
    if ia_in (y9 + 1) 66 = true then
    zl (sV S13 w ((y9 + 1).toNatClampNeg) (if 0 < ((S13.1 w (y9 + 1).toNatClampNeg) - (i2 / 10)) then ((S13.1 w (y9 + 1).toNatClampNeg) - (i2 / 10)) else 0)) fun S16 =>
    zl (x3 + 1) fun (y17 : Int32) =>
    f_X12_waits_L42 w ex i2 k y17 S16
    else none
    else none
    else none
    else none
    else none
def f_X12_waits (w : Nat) (v2 : Int32) (S : zS) : Option (Unit × zS) :=
f_X12_waits_L2 w (fun (q7 : Int32) (S6 : zS) =>
f_X12_waits_L42 w (fun (q19 : Int32) (S18 : zS) =>
zl (sV S18 w 65 ((S18.1 w 65) + v2)) fun S20 =>
some ((), S20)) v2 zN 0 S6) v2 zN 0 S
theorem w_X12_waits_L2 {L : Nat} {xs : Nat → Int32} {fm : Bool} {h0 : Nat → va_E} {t : Nat × Nat × Nat} (hn1 : 64 ≤ t.1) (hn2 : t.1 ≤ 1000000) (d : Nat) {w : Nat} (ho_w : zRw w) {ex : Int32 → zS → Option (Unit × zS)} {i2 : Int32} {R : Unit × zS} (hex : ∀ (x3 : Int32) (S : zS) (h : Nat → va_E), zE zDr h0 S (h, t) → ex x3 S = some R → zW (ia_P0 L xs fm) ia_nx (d + 0) 12 false cX12_waits 5 (none) 40 [(0, .ref 41), (1, .ref w), (2, .int i2), (3, .int x3)] [] (h, t) (zQv zDr h0 t R)) : ∀ (k : Nat) (x3 : Int32) (S : zS) (h : Nat → va_E), zE zDr h0 S (h, t) → f_X12_waits_L2 w ex i2 k x3 S = some R → zW (ia_P0 L xs fm) ia_nx (d + 0) 12 false cX12_waits 5 (none) 2 [(0, .ref 41), (1, .ref w), (2, .int i2), (3, .int x3)] [] (h, t) (zQv zDr h0 t R) := by
  intro k
  induction k with
  | zero => intro x3 S h hE hf; cases hf
  | succ k ih =>
    intro x3 S h hE hf
    unfold f_X12_waits_L2 at hf
    refine z_iload_n dX12_waits_2 rfl ?_
    refine z_aload_n dX12_waits_3 rfl ?_
    refine z_getI dX12_waits_4 tF_12_285 hE dr_41 rfl rfl ?_
    by_cases c1 : (S.1 41 24) ≤ x3
    · have hf := zif_t hf c1
      refine z_icmp_ge_t (tgt := 40) dX12_waits_7 (by decide) c1 ?_
      exact zW.sub (hex x3 S _ hE hf) [0, 1, 2, 3] rfl rfl rfl rfl
    · have hf := zif_f hf c1
      refine z_icmp_ge_f (tgt := 40) dX12_waits_7 (by decide) c1 ?_
      refine z_aload_n dX12_waits_10 rfl ?_
      refine z_bipush (v := 7) dX12_waits_11 (by decide) ?_
      refine z_iload_n dX12_waits_13 rfl ?_
      refine z_imul dX12_waits_14 ?_
      refine z_iconst (v := 3) dX12_waits_15 (by decide) ?_
      refine z_iadd dX12_waits_16 ?_
      refine z_iconst (v := 0) dX12_waits_17 (by decide) ?_
      refine z_aload_n dX12_waits_18 rfl ?_
      refine z_bipush (v := 7) dX12_waits_19 (by decide) ?_
      refine z_iload_n dX12_waits_21 rfl ?_
      refine z_imul dX12_waits_22 ?_
      refine z_iconst (v := 3) dX12_waits_23 (by decide) ?_
      refine z_iadd dX12_waits_24 ?_
      obtain ⟨b2, hf⟩ := zchk hf
      refine z_ialoadL dX12_waits_25 hE ho_w.1 b2 rfl ?_
      refine z_iconst (v := 2) dX12_waits_26 (by decide) ?_
      refine z_iload_n dX12_waits_27 rfl ?_
      refine z_imul dX12_waits_28 ?_
      refine z_isub dX12_waits_29 ?_
      refine z_mmax dX12_waits_30 tM_12_308 (Nat.le_of_ble_eq_true rfl) ?_
      obtain ⟨b3, hf⟩ := zchk hf
      obtain ⟨S4, eS4, hf⟩ := zl_some hf
      refine z_iastoreL (i := ((7 * x3) + 3).toNatClampNeg) dX12_waits_33 hE ho_w.1 b3 rfl (fun h hE => ?_)
      rw [← eS4] at hE
      obtain ⟨y5, ey5, hf⟩ := zl_some hf
      refine z_iincY (v := 1) (y := y5) (lv' := [(3, .int y5), (0, .ref 41), (1, .ref w), (2, .int i2)]) dX12_waits_34 rfl (by decide) (by decide) ey5 rfl ?_
      refine z_goto (tgt := 2) dX12_waits_37 (by decide) ?_
      exact zW.sub (ih y5 S4 _ hE hf) [1, 2, 3, 0] rfl rfl rfl rfl
theorem w_X12_waits_L42 {L : Nat} {xs : Nat → Int32} {fm : Bool} {h0 : Nat → va_E} {t : Nat × Nat × Nat} (hn1 : 64 ≤ t.1) (hn2 : t.1 ≤ 1000000) (d : Nat) {w : Nat} (ho_w : zRw w) {ex : Int32 → zS → Option (Unit × zS)} {i2 : Int32} {R : Unit × zS} (hex : ∀ (x3 : Int32) (S : zS) (h : Nat → va_E), zE zDr h0 S (h, t) → ex x3 S = some R → zW (ia_P0 L xs fm) ia_nx (d + 0) 12 false cX12_waits 5 (none) 106 [(0, .ref 41), (1, .ref w), (2, .int i2), (3, .int x3)] [] (h, t) (zQv zDr h0 t R)) : ∀ (k : Nat) (x3 : Int32) (S : zS) (h : Nat → va_E), zE zDr h0 S (h, t) → f_X12_waits_L42 w ex i2 k x3 S = some R → zW (ia_P0 L xs fm) ia_nx (d + 0) 12 false cX12_waits 5 (none) 42 [(0, .ref 41), (1, .ref w), (2, .int i2), (3, .int x3)] [] (h, t) (zQv zDr h0 t R) := by
  intro k
  induction k with
  | zero => intro x3 S h hE hf; cases hf
  | succ k ih =>
    intro x3 S h hE hf
    unfold f_X12_waits_L42 at hf
    refine z_iload_n dX12_waits_42 rfl ?_
    refine z_aload_n dX12_waits_43 rfl ?_
    refine z_getI dX12_waits_44 tF_12_288 hE dr_41 rfl rfl ?_
    by_cases c8 : (S.1 41 25) ≤ x3
    · have hf := zif_t hf c8
      refine z_icmp_ge_t (tgt := 106) dX12_waits_47 (by decide) c8 ?_
      exact zW.sub (hex x3 S _ hE hf) [0, 1, 2, 3] rfl rfl rfl rfl
    · have hf := zif_f hf c8
      refine z_icmp_ge_f (tgt := 106) dX12_waits_47 (by decide) c8 ?_
      refine z_bipush (v := 28) dX12_waits_50 (by decide) ?_
      refine z_iconst (v := 2) dX12_waits_52 (by decide) ?_
      refine z_iload_n dX12_waits_53 rfl ?_
      refine z_imul dX12_waits_54 ?_
      refine z_iadd dX12_waits_55 ?_
      obtain ⟨y9, ey9, hf⟩ := zl_some hf
      refine z_topi ey9 ?_
      refine z_istore (lv' := [(4, .int y9), (0, .ref 41), (1, .ref w), (2, .int i2), (3, .int x3)]) dX12_waits_56 (by decide) rfl ?_
      refine z_aload_n dX12_waits_58 rfl ?_
      refine z_iload dX12_waits_59 rfl ?_
      refine z_aload_n dX12_waits_61 rfl ?_
      refine z_getC dX12_waits_62 tF_12_43 hE dr_41 rfl rfl ?_
      refine z_iconst (v := 5) dX12_waits_65 (by decide) ?_
      refine z_iload_n dX12_waits_66 rfl ?_
      refine z_imul dX12_waits_67 ?_
      obtain ⟨b10, hf⟩ := zchk hf
      refine z_ialoadL dX12_waits_68 hE dr_48 b10 rfl ?_
      refine z_aload_n dX12_waits_69 rfl ?_
      refine z_iload dX12_waits_70 rfl ?_
      obtain ⟨b11, hf⟩ := zchk hf
      refine z_ialoadL dX12_waits_72 hE ho_w.1 b11 rfl ?_
      refine z_iload_n dX12_waits_73 rfl ?_
      refine z_iadd dX12_waits_74 ?_
      refine z_mmin dX12_waits_75 tM_12_310 (Nat.le_of_ble_eq_true rfl) ?_
      obtain ⟨b12, hf⟩ := zchk hf
      obtain ⟨S13, eS13, hf⟩ := zl_some hf
      refine z_iastoreL (i := y9.toNatClampNeg) dX12_waits_78 hE ho_w.1 b12 rfl (fun h hE => ?_)
      rw [← eS13] at hE
      refine z_aload_n dX12_waits_79 rfl ?_
      refine z_iload dX12_waits_80 rfl ?_
      refine z_iconst (v := 1) dX12_waits_82 (by decide) ?_
      refine z_iadd dX12_waits_83 ?_
      refine z_iconst (v := 0) dX12_waits_84 (by decide) ?_
      refine z_aload_n dX12_waits_85 rfl ?_
      refine z_iload dX12_waits_86 rfl ?_
      refine z_iconst (v := 1) dX12_waits_88 (by decide) ?_
      refine z_iadd dX12_waits_89 ?_
      obtain ⟨b14, hf⟩ := zchk hf
      refine z_ialoadL dX12_waits_90 hE ho_w.1 b14 rfl ?_
      refine z_iload_n dX12_waits_91 rfl ?_
      refine z_bipush (v := 10) dX12_waits_92 (by decide) ?_
      refine z_idiv dX12_waits_94 (by decide) ?_
      refine z_isub dX12_waits_95 ?_
      refine z_mmax dX12_waits_96 tM_12_308 (Nat.le_of_ble_eq_true rfl) ?_
      obtain ⟨b15, hf⟩ := zchk hf
      obtain ⟨S16, eS16, hf⟩ := zl_some hf
      refine z_iastoreL (i := (y9 + 1).toNatClampNeg) dX12_waits_99 hE ho_w.1 b15 rfl (fun h hE => ?_)
      rw [← eS16] at hE
      obtain ⟨y17, ey17, hf⟩ := zl_some hf
      refine z_iincY (v := 1) (y := y17) (lv' := [(3, .int y17), (4, .int y9), (0, .ref 41), (1, .ref w), (2, .int i2)]) dX12_waits_100 rfl (by decide) (by decide) ey17 rfl ?_
      refine z_goto (tgt := 42) dX12_waits_103 (by decide) ?_
      exact zW.sub (ih y17 S16 _ hE hf) [2, 3, 4, 0] rfl rfl rfl rfl
theorem w_X12_waits {L : Nat} {xs : Nat → Int32} {fm : Bool} {h0 : Nat → va_E} {t : Nat × Nat × Nat} (hn1 : 64 ≤ t.1) (hn2 : t.1 ≤ 1000000) (d : Nat) {w : Nat} (ho_w : zRw w) {h : Nat → va_E} {S : zS} (hE : zE zDr h0 S (h, t)) {v2 : Int32} {R : Unit × zS} (hf : f_X12_waits w v2 S = some R) : zC (ia_P0 L xs fm) (d + 1) 12065 [.ref 41, .ref w, .int v2] (h, t) (zQv zDr h0 t R) := by
  refine zC_of mt_12065 nn_12065 (Nat.le_of_ble_eq_true rfl) ?_
  refine zW_lv (lv' := [(0, .ref 41), (1, .ref w), (2, .int v2)]) rfl ?_
  unfold f_X12_waits at hf
  refine z_iconst (v := 0) dX12_waits_0 (by decide) ?_
  refine z_istore_n (lv' := [(3, .int 0), (0, .ref 41), (1, .ref w), (2, .int v2)]) dX12_waits_1 (by decide) rfl ?_
  refine zW.sub (w_X12_waits_L2 hn1 hn2 d ho_w (fun q7 S6 h hE hf => ?_) zN 0 S h hE hf) [1, 2, 3, 0] rfl rfl rfl rfl
  try dsimp only at hf
  refine z_iconst (v := 0) dX12_waits_40 (by decide) ?_
  refine z_istore_n (lv' := [(3, .int 0), (0, .ref 41), (1, .ref w), (2, .int v2)]) dX12_waits_41 (by decide) rfl ?_
  refine zW.sub (w_X12_waits_L42 hn1 hn2 d ho_w (fun q19 S18 h hE hf => ?_) zN 0 S6 h hE hf) [1, 2, 3, 0] rfl rfl rfl rfl
  try dsimp only at hf
  refine z_aload_n dX12_waits_106 rfl ?_
  refine z_bipush (v := 65) dX12_waits_107 (by decide) ?_
  refine z_dup2 dX12_waits_109 ⟨rfl, rfl⟩ ?_
  refine z_ialoadL (i := 65) dX12_waits_110 hE ho_w.1 (by decide) (by decide) ?_
  refine z_iload_n dX12_waits_111 rfl ?_
  refine z_iadd dX12_waits_112 ?_
  obtain ⟨S20, eS20, hf⟩ := zl_some hf
  refine z_iastoreL (i := 65) dX12_waits_113 hE ho_w.1 (by decide) (by decide) (fun h hE => ?_)
  rw [← eS20] at hE
  have e_ := Option.some.inj hf
  subst e_
  exact z_vreturn dX12_waits_114 rfl ⟨h, rfl, rfl, hE⟩
def f_X12_pause (v1 : Int32) (S : zS) : Option (Int32 × zS) :=
zl (sV S 41 0 0) fun S1 =>
if (S1.1 41 24) = 0 then
some ((-1), S1)
else
zb (f_X12_isIn (v1.toInt64) 1 60 S1) fun r4 S3 =>
if ¬ r4 = 0 then
zb (f_X12_remember S3) fun _ S7 =>
zb (f_X12_waits 54 v1 S7) fun _ S10 =>
zl (fun (q15 : Int32) =>
zb (f_X12_writes q15 S10) fun _ S16 =>
some (S16.1 54 65, S16)) fun J14 =>
if ¬ v1 = 10 then
J14 6
else
J14 4
else
some ((-1), S3)
theorem w_X12_pause {L : Nat} {xs : Nat → Int32} {fm : Bool} {h0 : Nat → va_E} {t : Nat × Nat × Nat} (hn1 : 64 ≤ t.1) (hn2 : t.1 ≤ 1000000) (d : Nat) {h : Nat → va_E} {S : zS} (hE : zE zDr h0 S (h, t)) {v1 : Int32} {R : Int32 × zS} (hf : f_X12_pause v1 S = some R) : zC (ia_P0 L xs fm) (d + 2) 12064 [.ref 41, .int v1] (h, t) (zQi zDr h0 t R) := by
  refine zC_of mt_12064 nn_12064 (Nat.le_of_ble_eq_true rfl) ?_
  refine zW_lv (lv' := [(0, .ref 41), (1, .int v1)]) rfl ?_
  unfold f_X12_pause at hf
  refine z_aload_n dX12_pause_0 rfl ?_
  refine z_iconst (v := 0) dX12_pause_1 (by decide) ?_
  obtain ⟨S1, eS1, hf⟩ := zl_some hf
  refine z_putI dX12_pause_2 tF_12_93 hE dr_41 rfl rfl rfl rfl (fun h hE => ?_)
  rw [← eS1] at hE
  refine z_aload_n dX12_pause_5 rfl ?_
  refine z_getI dX12_pause_6 tF_12_285 hE dr_41 rfl rfl ?_
  by_cases c2 : (S1.1 41 24) = 0
  · have hf := zif_t hf c2
    refine z_if_eq_t (tgt := 24) dX12_pause_9 (by decide) c2 ?_
    refine z_iconst (v := (-1)) dX12_pause_24 (by decide) ?_
    have e_ := Option.some.inj hf
    subst e_
    exact z_ireturn dX12_pause_25 rfl ⟨h, rfl, rfl, hE⟩
  · have hf := zif_f hf c2
    refine z_if_eq_f (tgt := 24) dX12_pause_9 (by decide) c2 ?_
    refine z_iload_n dX12_pause_12 rfl ?_
    refine z_i2l dX12_pause_13 ?_
    refine z_lconst (v := 1) dX12_pause_14 (by decide) ?_
    refine z_ldc2 dX12_pause_15 tK_12_367 ?_
    obtain ⟨r4, S3, k5, hf⟩ := zb_some hf
    refine z_callSi dX12_pause_18 tM_12_214 (by decide) mt_12007 (Nat.le_of_ble_eq_true rfl) rfl rfl (ia_oks_le hn1 rfl) (Nat.le_of_ble_eq_true rfl) (w_X12_isIn hn1 hn2 (d + 0) hE k5) (fun h hE => ?_)
    by_cases c6 : ¬ r4 = 0
    · have hf := zif_t hf c6
      refine z_if_ne_t (tgt := 26) dX12_pause_21 (by decide) c6 ?_
      refine z_aload_n dX12_pause_26 rfl ?_
      obtain ⟨r8, S7, k9, hf⟩ := zb_some hf
      refine z_callVv dX12_pause_27 tM_12_358 mt_12054 (Nat.le_of_ble_eq_true rfl) rfl rfl (z_recv hE dr_41 rfl) rfl (ia_oks_le hn1 rfl) (Nat.le_of_ble_eq_true rfl) (w_X12_remember hn1 hn2 (d + 0) hE k9) (fun h hE => ?_)
      refine z_aload_n dX12_pause_30 rfl ?_
      refine z_aload_n dX12_pause_31 rfl ?_
      refine z_getC dX12_pause_32 tF_12_61 hE dr_41 rfl rfl ?_
      refine z_iload_n dX12_pause_35 rfl ?_
      obtain ⟨r11, S10, k12, hf⟩ := zb_some hf
      refine z_callVv dX12_pause_36 tM_12_344 mt_12065 (Nat.le_of_ble_eq_true rfl) rfl rfl (z_recv hE dr_41 rfl) rfl (ia_oks_le hn1 rfl) (Nat.le_of_ble_eq_true rfl) (w_X12_waits hn1 hn2 (d + 0) rw_54 hE k12) (fun h hE => ?_)
      refine z_aload_n dX12_pause_39 rfl ?_
      refine z_iload_n dX12_pause_40 rfl ?_
      refine z_bipush (v := 10) dX12_pause_41 (by decide) ?_
      obtain ⟨J14, eJ14, hf⟩ := zl_some hf
      have hJ14 : ∀ (q15 : Int32) (h : Nat → va_E), zE zDr h0 S10 (h, t) → J14 q15 = some R → zW (ia_P0 L xs fm) ia_nx (d + 1) 12 false cX12_pause 2 (some .int) 52 [(0, .ref 41), (1, .int v1)] [.int q15, .ref 41] (h, t) (zQi zDr h0 t R) := by
        intro q15 h hE hf
        rw [eJ14] at hf
        obtain ⟨r17, S16, k18, hf⟩ := zb_some hf
        refine z_callVv dX12_pause_52 tM_12_361 mt_12056 (Nat.le_of_ble_eq_true rfl) rfl rfl (z_recv hE dr_41 rfl) rfl (ia_oks_le hn1 rfl) (Nat.le_of_ble_eq_true rfl) (w_X12_writes hn1 hn2 (d + 0) hE k18) (fun h hE => ?_)
        refine z_aload_n dX12_pause_55 rfl ?_
        refine z_getC dX12_pause_56 tF_12_61 hE dr_41 rfl rfl ?_
        refine z_bipush (v := 65) dX12_pause_59 (by decide) ?_
        refine z_ialoadL (i := 65) dX12_pause_61 hE dr_54 (by decide) (by decide) ?_
        have e_ := Option.some.inj hf
        subst e_
        exact z_ireturn dX12_pause_62 rfl ⟨h, rfl, rfl, hE⟩
      by_cases c13 : ¬ v1 = 10
      · have hf := zif_t hf c13
        refine z_icmp_ne_t (tgt := 50) dX12_pause_43 (by decide) c13 ?_
        refine z_bipush (v := 6) dX12_pause_50 (by decide) ?_
        exact zW.sub (hJ14 6 _ hE hf) [0, 1] rfl rfl rfl rfl
      · have hf := zif_f hf c13
        refine z_icmp_ne_f (tgt := 50) dX12_pause_43 (by decide) c13 ?_
        refine z_iconst (v := 4) dX12_pause_46 (by decide) ?_
        refine z_goto (tgt := 52) dX12_pause_47 (by decide) ?_
        exact zW.sub (hJ14 4 _ hE hf) [0, 1] rfl rfl rfl rfl
    · have hf := zif_f hf c6
      refine z_if_ne_f (tgt := 26) dX12_pause_21 (by decide) c6 ?_
      refine z_iconst (v := (-1)) dX12_pause_24 (by decide) ?_
      have e_ := Option.some.inj hf
      subst e_
      exact z_ireturn dX12_pause_25 rfl ⟨h, rfl, rfl, hE⟩
def f_X12_shut_L80 (ex : Int32 → zS → Option (Int32 × zS)) (i1 : Int32) (i2 : Int32) : Nat → Int32 → zS → Option (Int32 × zS)
  | 0, _, _ => none
  | k + 1, x3, S =>
    if (S.1 41 25) ≤ x3 then
    ex x3 S
    else
    if ia_in ((40 + (4 * x3)) + (S.1 54 64)) 66 = true then
    zl (sV S 54 (((40 + (4 * x3)) + (S.1 54 64)).toNatClampNeg) 0) fun S21 =>
    zl (x3 + 1) fun (y22 : Int32) =>
    f_X12_shut_L80 ex i1 i2 k y22 S21
    else none
def f_X12_shut (v1 : Int32) (S : zS) : Option (Int32 × zS) :=
zl (sV S 41 0 0) fun S1 =>
zl (7 * (S1.1 54 64)) fun (y2 : Int32) =>
zb (f_X12_isHand v1 S1) fun r4 S3 =>
if r4 = 0 then
some ((-1), S3)
else
if ia_in (y2 + 5) 66 = true then
if ¬ (S3.1 54 (y2 + 5).toNatClampNeg) = 0 then
zb (f_X12_remember S3) fun _ S9 =>
if ia_in (y2 + 5) 66 = true then
zl (sV S9 54 ((y2 + 5).toNatClampNeg) 0) fun S13 =>
if ia_in (28 + (2 * v1)) 66 = true then
if ia_in (y2 + 1) 66 = true then
zl (sV S13 54 ((y2 + 1).toNatClampNeg) ((S13.1 54 (28 + (2 * v1)).toNatClampNeg) / 2)) fun S16 =>
if ia_in y2 66 = true then
zl (sV S16 54 (y2.toNatClampNeg) 0) fun S18 =>
f_X12_shut_L80 (fun (q24 : Int32) (S23 : zS) =>
zl (sV S23 54 65 ((S23.1 54 65) + 1)) fun S25 =>
zb (f_X12_writes (20 + v1) S25) fun _ S26 =>
zb (f_X12_holdOf 54 (S26.1 54 64) S26) fun r30 S29 =>
some (r30, S29)) v1 y2 zN 0 S18
else none
else none
else none
else none
else
some ((-1), S3)
else none
theorem w_X12_shut_L80 {L : Nat} {xs : Nat → Int32} {fm : Bool} {h0 : Nat → va_E} {t : Nat × Nat × Nat} (hn1 : 64 ≤ t.1) (hn2 : t.1 ≤ 1000000) (d : Nat) {ex : Int32 → zS → Option (Int32 × zS)} {i1 : Int32} {i2 : Int32} {R : Int32 × zS} (hex : ∀ (x3 : Int32) (S : zS) (h : Nat → va_E), zE zDr h0 S (h, t) → ex x3 S = some R → zW (ia_P0 L xs fm) ia_nx (d + 1) 12 false cX12_shut 4 (some .int) 114 [(0, .ref 41), (1, .int i1), (2, .int i2), (3, .int x3)] [] (h, t) (zQi zDr h0 t R)) : ∀ (k : Nat) (x3 : Int32) (S : zS) (h : Nat → va_E), zE zDr h0 S (h, t) → f_X12_shut_L80 ex i1 i2 k x3 S = some R → zW (ia_P0 L xs fm) ia_nx (d + 1) 12 false cX12_shut 4 (some .int) 80 [(0, .ref 41), (1, .int i1), (2, .int i2), (3, .int x3)] [] (h, t) (zQi zDr h0 t R) := by
  intro k
  induction k with
  | zero => intro x3 S h hE hf; cases hf
  | succ k ih =>
    intro x3 S h hE hf
    unfold f_X12_shut_L80 at hf
    refine z_iload_n dX12_shut_80 rfl ?_
    refine z_aload_n dX12_shut_81 rfl ?_
    refine z_getI dX12_shut_82 tF_12_288 hE dr_41 rfl rfl ?_
    by_cases c19 : (S.1 41 25) ≤ x3
    · have hf := zif_t hf c19
      refine z_icmp_ge_t (tgt := 114) dX12_shut_85 (by decide) c19 ?_
      exact zW.sub (hex x3 S _ hE hf) [0, 1, 2, 3] rfl rfl rfl rfl
    · have hf := zif_f hf c19
      refine z_icmp_ge_f (tgt := 114) dX12_shut_85 (by decide) c19 ?_
      refine z_aload_n dX12_shut_88 rfl ?_
      refine z_getC dX12_shut_89 tF_12_61 hE dr_41 rfl rfl ?_
      refine z_bipush (v := 40) dX12_shut_92 (by decide) ?_
      refine z_iconst (v := 4) dX12_shut_94 (by decide) ?_
      refine z_iload_n dX12_shut_95 rfl ?_
      refine z_imul dX12_shut_96 ?_
      refine z_iadd dX12_shut_97 ?_
      refine z_aload_n dX12_shut_98 rfl ?_
      refine z_getC dX12_shut_99 tF_12_61 hE dr_41 rfl rfl ?_
      refine z_bipush (v := 64) dX12_shut_102 (by decide) ?_
      refine z_ialoadL (i := 64) dX12_shut_104 hE dr_54 (by decide) (by decide) ?_
      refine z_iadd dX12_shut_105 ?_
      refine z_iconst (v := 0) dX12_shut_106 (by decide) ?_
      obtain ⟨b20, hf⟩ := zchk hf
      obtain ⟨S21, eS21, hf⟩ := zl_some hf
      refine z_iastoreL (i := ((40 + (4 * x3)) + (S.1 54 64)).toNatClampNeg) dX12_shut_107 hE dr_54 b20 rfl (fun h hE => ?_)
      rw [← eS21] at hE
      obtain ⟨y22, ey22, hf⟩ := zl_some hf
      refine z_iincY (v := 1) (y := y22) (lv' := [(3, .int y22), (0, .ref 41), (1, .int i1), (2, .int i2)]) dX12_shut_108 rfl (by decide) (by decide) ey22 rfl ?_
      refine z_goto (tgt := 80) dX12_shut_111 (by decide) ?_
      exact zW.sub (ih y22 S21 _ hE hf) [1, 2, 3, 0] rfl rfl rfl rfl
theorem w_X12_shut {L : Nat} {xs : Nat → Int32} {fm : Bool} {h0 : Nat → va_E} {t : Nat × Nat × Nat} (hn1 : 64 ≤ t.1) (hn2 : t.1 ≤ 1000000) (d : Nat) {h : Nat → va_E} {S : zS} (hE : zE zDr h0 S (h, t)) {v1 : Int32} {R : Int32 × zS} (hf : f_X12_shut v1 S = some R) : zC (ia_P0 L xs fm) (d + 2) 12066 [.ref 41, .int v1] (h, t) (zQi zDr h0 t R) := by
  refine zC_of mt_12066 nn_12066 (Nat.le_of_ble_eq_true rfl) ?_
  refine zW_lv (lv' := [(0, .ref 41), (1, .int v1)]) rfl ?_
  unfold f_X12_shut at hf
  refine z_aload_n dX12_shut_0 rfl ?_
  refine z_iconst (v := 0) dX12_shut_1 (by decide) ?_
  obtain ⟨S1, eS1, hf⟩ := zl_some hf
  refine z_putI dX12_shut_2 tF_12_93 hE dr_41 rfl rfl rfl rfl (fun h hE => ?_)
  rw [← eS1] at hE
  refine z_bipush (v := 7) dX12_shut_5 (by decide) ?_
  refine z_aload_n dX12_shut_7 rfl ?_
  refine z_getC dX12_shut_8 tF_12_61 hE dr_41 rfl rfl ?_
  refine z_bipush (v := 64) dX12_shut_11 (by decide) ?_
  refine z_ialoadL (i := 64) dX12_shut_13 hE dr_54 (by decide) (by decide) ?_
  refine z_imul dX12_shut_14 ?_
  obtain ⟨y2, ey2, hf⟩ := zl_some hf
  refine z_topi ey2 ?_
  refine z_istore_n (lv' := [(2, .int y2), (0, .ref 41), (1, .int v1)]) dX12_shut_15 (by decide) rfl ?_
  refine z_aload_n dX12_shut_16 rfl ?_
  refine z_iload_n dX12_shut_17 rfl ?_
  obtain ⟨r4, S3, k5, hf⟩ := zb_some hf
  refine z_callVi dX12_shut_18 tM_12_325 mt_12043 (Nat.le_of_ble_eq_true rfl) rfl rfl (z_recv hE dr_41 rfl) rfl (ia_oks_le hn1 rfl) (Nat.le_of_ble_eq_true rfl) (w_X12_isHand hn1 hn2 (d + 0) hE k5) (fun h hE => ?_)
  by_cases c6 : r4 = 0
  · have hf := zif_t hf c6
    refine z_if_eq_t (tgt := 35) dX12_shut_21 (by decide) c6 ?_
    refine z_iconst (v := (-1)) dX12_shut_35 (by decide) ?_
    have e_ := Option.some.inj hf
    subst e_
    exact z_ireturn dX12_shut_36 rfl ⟨h, rfl, rfl, hE⟩
  · have hf := zif_f hf c6
    refine z_if_eq_f (tgt := 35) dX12_shut_21 (by decide) c6 ?_
    refine z_aload_n dX12_shut_24 rfl ?_
    refine z_getC dX12_shut_25 tF_12_61 hE dr_41 rfl rfl ?_
    refine z_iload_n dX12_shut_28 rfl ?_
    refine z_iconst (v := 5) dX12_shut_29 (by decide) ?_
    refine z_iadd dX12_shut_30 ?_
    obtain ⟨b7, hf⟩ := zchk hf
    refine z_ialoadL dX12_shut_31 hE dr_54 b7 rfl ?_
    by_cases c8 : ¬ (S3.1 54 (y2 + 5).toNatClampNeg) = 0
    · have hf := zif_t hf c8
      refine z_if_ne_t (tgt := 37) dX12_shut_32 (by decide) c8 ?_
      refine z_aload_n dX12_shut_37 rfl ?_
      obtain ⟨r10, S9, k11, hf⟩ := zb_some hf
      refine z_callVv dX12_shut_38 tM_12_358 mt_12054 (Nat.le_of_ble_eq_true rfl) rfl rfl (z_recv hE dr_41 rfl) rfl (ia_oks_le hn1 rfl) (Nat.le_of_ble_eq_true rfl) (w_X12_remember hn1 hn2 (d + 0) hE k11) (fun h hE => ?_)
      refine z_aload_n dX12_shut_41 rfl ?_
      refine z_getC dX12_shut_42 tF_12_61 hE dr_41 rfl rfl ?_
      refine z_iload_n dX12_shut_45 rfl ?_
      refine z_iconst (v := 5) dX12_shut_46 (by decide) ?_
      refine z_iadd dX12_shut_47 ?_
      refine z_iconst (v := 0) dX12_shut_48 (by decide) ?_
      obtain ⟨b12, hf⟩ := zchk hf
      obtain ⟨S13, eS13, hf⟩ := zl_some hf
      refine z_iastoreL (i := (y2 + 5).toNatClampNeg) dX12_shut_49 hE dr_54 b12 rfl (fun h hE => ?_)
      rw [← eS13] at hE
      refine z_aload_n dX12_shut_50 rfl ?_
      refine z_getC dX12_shut_51 tF_12_61 hE dr_41 rfl rfl ?_
      refine z_iload_n dX12_shut_54 rfl ?_
      refine z_iconst (v := 1) dX12_shut_55 (by decide) ?_
      refine z_iadd dX12_shut_56 ?_
      refine z_aload_n dX12_shut_57 rfl ?_
      refine z_getC dX12_shut_58 tF_12_61 hE dr_41 rfl rfl ?_
      refine z_bipush (v := 28) dX12_shut_61 (by decide) ?_
      refine z_iconst (v := 2) dX12_shut_63 (by decide) ?_
      refine z_iload_n dX12_shut_64 rfl ?_
      refine z_imul dX12_shut_65 ?_
      refine z_iadd dX12_shut_66 ?_
      obtain ⟨b14, hf⟩ := zchk hf
      refine z_ialoadL dX12_shut_67 hE dr_54 b14 rfl ?_
      refine z_iconst (v := 2) dX12_shut_68 (by decide) ?_
      refine z_idiv dX12_shut_69 (by decide) ?_
      obtain ⟨b15, hf⟩ := zchk hf
      obtain ⟨S16, eS16, hf⟩ := zl_some hf
      refine z_iastoreL (i := (y2 + 1).toNatClampNeg) dX12_shut_70 hE dr_54 b15 rfl (fun h hE => ?_)
      rw [← eS16] at hE
      refine z_aload_n dX12_shut_71 rfl ?_
      refine z_getC dX12_shut_72 tF_12_61 hE dr_41 rfl rfl ?_
      refine z_iload_n dX12_shut_75 rfl ?_
      refine z_iconst (v := 0) dX12_shut_76 (by decide) ?_
      obtain ⟨b17, hf⟩ := zchk hf
      obtain ⟨S18, eS18, hf⟩ := zl_some hf
      refine z_iastoreL (i := y2.toNatClampNeg) dX12_shut_77 hE dr_54 b17 rfl (fun h hE => ?_)
      rw [← eS18] at hE
      refine z_iconst (v := 0) dX12_shut_78 (by decide) ?_
      refine z_istore_n (lv' := [(3, .int 0), (2, .int y2), (0, .ref 41), (1, .int v1)]) dX12_shut_79 (by decide) rfl ?_
      refine zW.sub (w_X12_shut_L80 hn1 hn2 d (fun q24 S23 h hE hf => ?_) zN 0 S18 h hE hf) [2, 3, 1, 0] rfl rfl rfl rfl
      try dsimp only at hf
      refine z_aload_n dX12_shut_114 rfl ?_
      refine z_getC dX12_shut_115 tF_12_61 hE dr_41 rfl rfl ?_
      refine z_bipush (v := 65) dX12_shut_118 (by decide) ?_
      refine z_dup2 dX12_shut_120 ⟨rfl, rfl⟩ ?_
      refine z_ialoadL (i := 65) dX12_shut_121 hE dr_54 (by decide) (by decide) ?_
      refine z_iconst (v := 1) dX12_shut_122 (by decide) ?_
      refine z_iadd dX12_shut_123 ?_
      obtain ⟨S25, eS25, hf⟩ := zl_some hf
      refine z_iastoreL (i := 65) dX12_shut_124 hE dr_54 (by decide) (by decide) (fun h hE => ?_)
      rw [← eS25] at hE
      refine z_aload_n dX12_shut_125 rfl ?_
      refine z_bipush (v := 20) dX12_shut_126 (by decide) ?_
      refine z_iload_n dX12_shut_128 rfl ?_
      refine z_iadd dX12_shut_129 ?_
      obtain ⟨r27, S26, k28, hf⟩ := zb_some hf
      refine z_callVv dX12_shut_130 tM_12_361 mt_12056 (Nat.le_of_ble_eq_true rfl) rfl rfl (z_recv hE dr_41 rfl) rfl (ia_oks_le hn1 rfl) (Nat.le_of_ble_eq_true rfl) (w_X12_writes hn1 hn2 (d + 0) hE k28) (fun h hE => ?_)
      refine z_aload_n dX12_shut_133 rfl ?_
      refine z_getC dX12_shut_134 tF_12_61 hE dr_41 rfl rfl ?_
      refine z_aload_n dX12_shut_137 rfl ?_
      refine z_getC dX12_shut_138 tF_12_61 hE dr_41 rfl rfl ?_
      refine z_bipush (v := 64) dX12_shut_141 (by decide) ?_
      refine z_ialoadL (i := 64) dX12_shut_143 hE dr_54 (by decide) (by decide) ?_
      obtain ⟨r30, S29, k31, hf⟩ := zb_some hf
      refine z_callSi dX12_shut_144 tM_12_321 (by decide) mt_12041 (Nat.le_of_ble_eq_true rfl) rfl rfl (ia_oks_le hn1 rfl) (Nat.le_of_ble_eq_true rfl) (w_X12_holdOf hn1 hn2 (d + 0) rw_54 hE k31) (fun h hE => ?_)
      have e_ := Option.some.inj hf
      subst e_
      exact z_ireturn dX12_shut_147 rfl ⟨h, rfl, rfl, hE⟩
    · have hf := zif_f hf c8
      refine z_if_ne_f (tgt := 37) dX12_shut_32 (by decide) c8 ?_
      refine z_iconst (v := (-1)) dX12_shut_35 (by decide) ?_
      have e_ := Option.some.inj hf
      subst e_
      exact z_ireturn dX12_shut_36 rfl ⟨h, rfl, rfl, hE⟩
def f_X12_table (v1 : Int32) (S : zS) : Option (Int32 × zS) :=
zl (sV S 41 0 0) fun S1 =>
zb (f_X12_isJar v1 S1) fun r3 S2 =>
if r3 = 0 then
some (0, S2)
else
if ¬ (S2.1 54 64) = v1 then
zb (f_X12_remember S2) fun _ S7 =>
zl (sV S7 54 64 v1) fun S10 =>
zb (f_X12_writes (30 + v1) S10) fun _ S11 =>
some (1, S11)
else
some (0, S2)
theorem w_X12_table {L : Nat} {xs : Nat → Int32} {fm : Bool} {h0 : Nat → va_E} {t : Nat × Nat × Nat} (hn1 : 64 ≤ t.1) (hn2 : t.1 ≤ 1000000) (d : Nat) {h : Nat → va_E} {S : zS} (hE : zE zDr h0 S (h, t)) {v1 : Int32} {R : Int32 × zS} (hf : f_X12_table v1 S = some R) : zC (ia_P0 L xs fm) (d + 2) 12067 [.ref 41, .int v1] (h, t) (zQi zDr h0 t R) := by
  refine zC_of mt_12067 nn_12067 (Nat.le_of_ble_eq_true rfl) ?_
  refine zW_lv (lv' := [(0, .ref 41), (1, .int v1)]) rfl ?_
  unfold f_X12_table at hf
  refine z_aload_n dX12_table_0 rfl ?_
  refine z_iconst (v := 0) dX12_table_1 (by decide) ?_
  obtain ⟨S1, eS1, hf⟩ := zl_some hf
  refine z_putI dX12_table_2 tF_12_93 hE dr_41 rfl rfl rfl rfl (fun h hE => ?_)
  rw [← eS1] at hE
  refine z_aload_n dX12_table_5 rfl ?_
  refine z_iload_n dX12_table_6 rfl ?_
  obtain ⟨r3, S2, k4, hf⟩ := zb_some hf
  refine z_callVi dX12_table_7 tM_12_316 mt_12040 (Nat.le_of_ble_eq_true rfl) rfl rfl (z_recv hE dr_41 rfl) rfl (ia_oks_le hn1 rfl) (Nat.le_of_ble_eq_true rfl) (w_X12_isJar hn1 hn2 (d + 0) hE k4) (fun h hE => ?_)
  by_cases c5 : r3 = 0
  · have hf := zif_t hf c5
    refine z_if_eq_t (tgt := 24) dX12_table_10 (by decide) c5 ?_
    refine z_iconst (v := 0) dX12_table_24 (by decide) ?_
    have e_ := Option.some.inj hf
    subst e_
    exact z_zreturn dX12_table_25 rfl (by decide) ⟨h, rfl, rfl, hE⟩
  · have hf := zif_f hf c5
    refine z_if_eq_f (tgt := 24) dX12_table_10 (by decide) c5 ?_
    refine z_aload_n dX12_table_13 rfl ?_
    refine z_getC dX12_table_14 tF_12_61 hE dr_41 rfl rfl ?_
    refine z_bipush (v := 64) dX12_table_17 (by decide) ?_
    refine z_ialoadL (i := 64) dX12_table_19 hE dr_54 (by decide) (by decide) ?_
    refine z_iload_n dX12_table_20 rfl ?_
    by_cases c6 : ¬ (S2.1 54 64) = v1
    · have hf := zif_t hf c6
      refine z_icmp_ne_t (tgt := 26) dX12_table_21 (by decide) c6 ?_
      refine z_aload_n dX12_table_26 rfl ?_
      obtain ⟨r8, S7, k9, hf⟩ := zb_some hf
      refine z_callVv dX12_table_27 tM_12_358 mt_12054 (Nat.le_of_ble_eq_true rfl) rfl rfl (z_recv hE dr_41 rfl) rfl (ia_oks_le hn1 rfl) (Nat.le_of_ble_eq_true rfl) (w_X12_remember hn1 hn2 (d + 0) hE k9) (fun h hE => ?_)
      refine z_aload_n dX12_table_30 rfl ?_
      refine z_getC dX12_table_31 tF_12_61 hE dr_41 rfl rfl ?_
      refine z_bipush (v := 64) dX12_table_34 (by decide) ?_
      refine z_iload_n dX12_table_36 rfl ?_
      obtain ⟨S10, eS10, hf⟩ := zl_some hf
      refine z_iastoreL (i := 64) dX12_table_37 hE dr_54 (by decide) (by decide) (fun h hE => ?_)
      rw [← eS10] at hE
      refine z_aload_n dX12_table_38 rfl ?_
      refine z_bipush (v := 30) dX12_table_39 (by decide) ?_
      refine z_iload_n dX12_table_41 rfl ?_
      refine z_iadd dX12_table_42 ?_
      obtain ⟨r12, S11, k13, hf⟩ := zb_some hf
      refine z_callVv dX12_table_43 tM_12_361 mt_12056 (Nat.le_of_ble_eq_true rfl) rfl rfl (z_recv hE dr_41 rfl) rfl (ia_oks_le hn1 rfl) (Nat.le_of_ble_eq_true rfl) (w_X12_writes hn1 hn2 (d + 0) hE k13) (fun h hE => ?_)
      refine z_iconst (v := 1) dX12_table_46 (by decide) ?_
      have e_ := Option.some.inj hf
      subst e_
      exact z_zreturn dX12_table_47 rfl (by decide) ⟨h, rfl, rfl, hE⟩
    · have hf := zif_f hf c6
      refine z_icmp_ne_f (tgt := 26) dX12_table_21 (by decide) c6 ?_
      refine z_iconst (v := 0) dX12_table_24 (by decide) ?_
      have e_ := Option.some.inj hf
      subst e_
      exact z_zreturn dX12_table_25 rfl (by decide) ⟨h, rfl, rfl, hE⟩
def f_X12_undo_L26 (ex : Int32 → zS → Option (Int32 × zS))  : Nat → Int32 → zS → Option (Int32 × zS)
  | 0, _, _ => none
  | k + 1, x1, S =>
    if 66 ≤ x1 then
    ex x1 S
    else
    if ia_in ((66 * (S.1 41 39)) + x1) 2640 = true then
    if ia_in x1 66 = true then
    zl (sV S 54 (x1.toNatClampNeg) (S.1 56 ((66 * (S.1 41 39)) + x1).toNatClampNeg)) fun S7 =>
    zl (x1 + 1) fun (y8 : Int32) =>
    f_X12_undo_L26 ex k y8 S7
    else none
    else none
def f_X12_undo  (S : zS) : Option (Int32 × zS) :=
zl (sV S 41 0 0) fun S1 =>
if ¬ (S1.1 41 39) = 0 then
zl (sV S1 41 39 ((S1.1 41 39) - 1)) fun S3 =>
f_X12_undo_L26 (fun (q10 : Int32) (S9 : zS) =>
zl (sV S9 41 40 ((S9.1 41 40) - 1)) fun S11 =>
some (S11.1 41 39, S11))  zN 0 S3
else
some ((-1), S1)
theorem w_X12_undo_L26 {L : Nat} {xs : Nat → Int32} {fm : Bool} {h0 : Nat → va_E} {t : Nat × Nat × Nat} (hn1 : 64 ≤ t.1) (hn2 : t.1 ≤ 1000000) (d : Nat) {ex : Int32 → zS → Option (Int32 × zS)} {R : Int32 × zS} (hex : ∀ (x1 : Int32) (S : zS) (h : Nat → va_E), zE zDr h0 S (h, t) → ex x1 S = some R → zW (ia_P0 L xs fm) ia_nx (d + 0) 12 false cX12_undo 2 (some .int) 58 [(0, .ref 41), (1, .int x1)] [] (h, t) (zQi zDr h0 t R)) : ∀ (k : Nat) (x1 : Int32) (S : zS) (h : Nat → va_E), zE zDr h0 S (h, t) → f_X12_undo_L26 ex  k x1 S = some R → zW (ia_P0 L xs fm) ia_nx (d + 0) 12 false cX12_undo 2 (some .int) 26 [(0, .ref 41), (1, .int x1)] [] (h, t) (zQi zDr h0 t R) := by
  intro k
  induction k with
  | zero => intro x1 S h hE hf; cases hf
  | succ k ih =>
    intro x1 S h hE hf
    unfold f_X12_undo_L26 at hf
    refine z_iload_n dX12_undo_26 rfl ?_
    refine z_bipush (v := 66) dX12_undo_27 (by decide) ?_
    by_cases c4 : 66 ≤ x1
    · have hf := zif_t hf c4
      refine z_icmp_ge_t (tgt := 58) dX12_undo_29 (by decide) c4 ?_
      exact zW.sub (hex x1 S _ hE hf) [0, 1] rfl rfl rfl rfl
    · have hf := zif_f hf c4
      refine z_icmp_ge_f (tgt := 58) dX12_undo_29 (by decide) c4 ?_
      refine z_aload_n dX12_undo_32 rfl ?_
      refine z_getC dX12_undo_33 tF_12_61 hE dr_41 rfl rfl ?_
      refine z_iload_n dX12_undo_36 rfl ?_
      refine z_aload_n dX12_undo_37 rfl ?_
      refine z_getC dX12_undo_38 tF_12_71 hE dr_41 rfl rfl ?_
      refine z_bipush (v := 66) dX12_undo_41 (by decide) ?_
      refine z_aload_n dX12_undo_43 rfl ?_
      refine z_getI dX12_undo_44 tF_12_297 hE dr_41 rfl rfl ?_
      refine z_imul dX12_undo_47 ?_
      refine z_iload_n dX12_undo_48 rfl ?_
      refine z_iadd dX12_undo_49 ?_
      obtain ⟨b5, hf⟩ := zchk hf
      refine z_ialoadL dX12_undo_50 hE dr_56 b5 rfl ?_
      obtain ⟨b6, hf⟩ := zchk hf
      obtain ⟨S7, eS7, hf⟩ := zl_some hf
      refine z_iastoreL (i := x1.toNatClampNeg) dX12_undo_51 hE dr_54 b6 rfl (fun h hE => ?_)
      rw [← eS7] at hE
      obtain ⟨y8, ey8, hf⟩ := zl_some hf
      refine z_iincY (v := 1) (y := y8) (lv' := [(1, .int y8), (0, .ref 41)]) dX12_undo_52 rfl (by decide) (by decide) ey8 rfl ?_
      refine z_goto (tgt := 26) dX12_undo_55 (by decide) ?_
      exact zW.sub (ih y8 S7 _ hE hf) [1, 0] rfl rfl rfl rfl
theorem w_X12_undo {L : Nat} {xs : Nat → Int32} {fm : Bool} {h0 : Nat → va_E} {t : Nat × Nat × Nat} (hn1 : 64 ≤ t.1) (hn2 : t.1 ≤ 1000000) (d : Nat) {h : Nat → va_E} {S : zS} (hE : zE zDr h0 S (h, t)) {R : Int32 × zS} (hf : f_X12_undo  S = some R) : zC (ia_P0 L xs fm) (d + 1) 12068 [.ref 41] (h, t) (zQi zDr h0 t R) := by
  refine zC_of mt_12068 nn_12068 (Nat.le_of_ble_eq_true rfl) ?_
  refine zW_lv (lv' := [(0, .ref 41)]) rfl ?_
  unfold f_X12_undo at hf
  refine z_aload_n dX12_undo_0 rfl ?_
  refine z_iconst (v := 0) dX12_undo_1 (by decide) ?_
  obtain ⟨S1, eS1, hf⟩ := zl_some hf
  refine z_putI dX12_undo_2 tF_12_93 hE dr_41 rfl rfl rfl rfl (fun h hE => ?_)
  rw [← eS1] at hE
  refine z_aload_n dX12_undo_5 rfl ?_
  refine z_getI dX12_undo_6 tF_12_297 hE dr_41 rfl rfl ?_
  by_cases c2 : ¬ (S1.1 41 39) = 0
  · have hf := zif_t hf c2
    refine z_if_ne_t (tgt := 14) dX12_undo_9 (by decide) c2 ?_
    refine z_aload_n dX12_undo_14 rfl ?_
    refine z_dup dX12_undo_15 rfl ?_
    refine z_getI dX12_undo_16 tF_12_297 hE dr_41 rfl rfl ?_
    refine z_iconst (v := 1) dX12_undo_19 (by decide) ?_
    refine z_isub dX12_undo_20 ?_
    obtain ⟨S3, eS3, hf⟩ := zl_some hf
    refine z_putI dX12_undo_21 tF_12_297 hE dr_41 rfl rfl rfl rfl (fun h hE => ?_)
    rw [← eS3] at hE
    refine z_iconst (v := 0) dX12_undo_24 (by decide) ?_
    refine z_istore_n (lv' := [(1, .int 0), (0, .ref 41)]) dX12_undo_25 (by decide) rfl ?_
    refine zW.sub (w_X12_undo_L26 hn1 hn2 d (fun q10 S9 h hE hf => ?_) zN 0 S3 h hE hf) [1, 0] rfl rfl rfl rfl
    try dsimp only at hf
    refine z_aload_n dX12_undo_58 rfl ?_
    refine z_dup dX12_undo_59 rfl ?_
    refine z_getI dX12_undo_60 tF_12_300 hE dr_41 rfl rfl ?_
    refine z_iconst (v := 1) dX12_undo_63 (by decide) ?_
    refine z_isub dX12_undo_64 ?_
    obtain ⟨S11, eS11, hf⟩ := zl_some hf
    refine z_putI dX12_undo_65 tF_12_300 hE dr_41 rfl rfl rfl rfl (fun h hE => ?_)
    rw [← eS11] at hE
    refine z_aload_n dX12_undo_68 rfl ?_
    refine z_getI dX12_undo_69 tF_12_297 hE dr_41 rfl rfl ?_
    have e_ := Option.some.inj hf
    subst e_
    exact z_ireturn dX12_undo_72 rfl ⟨h, rfl, rfl, hE⟩
  · have hf := zif_f hf c2
    refine z_if_ne_f (tgt := 14) dX12_undo_9 (by decide) c2 ?_
    refine z_iconst (v := (-1)) dX12_undo_12 (by decide) ?_
    have e_ := Option.some.inj hf
    subst e_
    exact z_ireturn dX12_undo_13 rfl ⟨h, rfl, rfl, hE⟩
def f_X12_isStep (v1 : Int32) (S : zS) : Option (Int32 × zS) :=
if 10 ≤ v1 then
zl (fun (q4 : Int32) =>
zb (f_X12_isHand q4 S) fun r6 S5 =>
if r6 = 0 then
some (0, S5)
else
zl (fun (u11 : Unit) =>
some (1, S5)) fun J10 =>
if v1 < 100 then
J10 ()
else
if (v1 - v1 / 10 * 10) = 9 then
J10 ()
else
if (S5.1 41 26) ≤ (v1 - v1 / 10 * 10) then
some (0, S5)
else
J10 ()) fun J3 =>
if 100 ≤ v1 then
J3 ((v1 / 10) - (v1 / 10) / 10 * 10)
else
J3 (v1 - 10)
else
some (1, S)
theorem w_X12_isStep {L : Nat} {xs : Nat → Int32} {fm : Bool} {h0 : Nat → va_E} {t : Nat × Nat × Nat} (hn1 : 64 ≤ t.1) (hn2 : t.1 ≤ 1000000) (d : Nat) {h : Nat → va_E} {S : zS} (hE : zE zDr h0 S (h, t)) {v1 : Int32} {R : Int32 × zS} (hf : f_X12_isStep v1 S = some R) : zC (ia_P0 L xs fm) (d + 2) 12073 [.ref 41, .int v1] (h, t) (zQi zDr h0 t R) := by
  refine zC_of mt_12073 nn_12073 (Nat.le_of_ble_eq_true rfl) ?_
  refine zW_lv (lv' := [(0, .ref 41), (1, .int v1)]) rfl ?_
  unfold f_X12_isStep at hf
  refine z_iload_n dX12_isStep_0 rfl ?_
  refine z_bipush (v := 10) dX12_isStep_1 (by decide) ?_
  by_cases c1 : 10 ≤ v1
  · have hf := zif_t hf c1
    refine z_icmp_ge_t (tgt := 8) dX12_isStep_3 (by decide) c1 ?_
    refine z_iload_n dX12_isStep_8 rfl ?_
    refine z_bipush (v := 100) dX12_isStep_9 (by decide) ?_
    obtain ⟨J3, eJ3, hf⟩ := zl_some hf
    have hJ3 : ∀ (q4 : Int32) (h : Nat → va_E), zE zDr h0 S (h, t) → J3 q4 = some R → zW (ia_P0 L xs fm) ia_nx (d + 1) 12 false cX12_isStep 3 (some .boolean) 28 [(0, .ref 41), (1, .int v1)] [.int q4] (h, t) (zQi zDr h0 t R) := by
      intro q4 h hE hf
      rw [eJ3] at hf
      refine z_istore_n (lv' := [(2, .int q4), (0, .ref 41), (1, .int v1)]) dX12_isStep_28 (by decide) rfl ?_
      refine z_aload_n dX12_isStep_29 rfl ?_
      refine z_iload_n dX12_isStep_30 rfl ?_
      obtain ⟨r6, S5, k7, hf⟩ := zb_some hf
      refine z_callVi dX12_isStep_31 tM_12_325 mt_12043 (Nat.le_of_ble_eq_true rfl) rfl rfl (z_recv hE dr_41 rfl) rfl (ia_oks_le hn1 rfl) (Nat.le_of_ble_eq_true rfl) (w_X12_isHand hn1 hn2 (d + 0) hE k7) (fun h hE => ?_)
      by_cases c8 : r6 = 0
      · have hf := zif_t hf c8
        refine z_if_eq_t (tgt := 67) dX12_isStep_34 (by decide) c8 ?_
        refine z_iconst (v := 0) dX12_isStep_67 (by decide) ?_
        have e_ := Option.some.inj hf
        subst e_
        exact z_zreturn dX12_isStep_68 rfl (by decide) ⟨h, rfl, rfl, hE⟩
      · have hf := zif_f hf c8
        refine z_if_eq_f (tgt := 67) dX12_isStep_34 (by decide) c8 ?_
        refine z_iload_n dX12_isStep_37 rfl ?_
        refine z_bipush (v := 100) dX12_isStep_38 (by decide) ?_
        obtain ⟨J10, eJ10, hf⟩ := zl_some hf
        have hJ10 : ∀ (u11 : Unit) (h : Nat → va_E), zE zDr h0 S5 (h, t) → J10 u11 = some R → zW (ia_P0 L xs fm) ia_nx (d + 1) 12 false cX12_isStep 3 (some .boolean) 63 [(0, .ref 41), (1, .int v1), (2, .int q4)] [] (h, t) (zQi zDr h0 t R) := by
          intro u11 h hE hf
          rw [eJ10] at hf
          refine z_iconst (v := 1) dX12_isStep_63 (by decide) ?_
          refine z_goto (tgt := 68) dX12_isStep_64 (by decide) ?_
          have e_ := Option.some.inj hf
          subst e_
          exact z_zreturn dX12_isStep_68 rfl (by decide) ⟨h, rfl, rfl, hE⟩
        by_cases c9 : v1 < 100
        · have hf := zif_t hf c9
          refine z_icmp_lt_t (tgt := 63) dX12_isStep_40 (by decide) c9 ?_
          exact zW.sub (hJ10 () _ hE hf) [1, 2, 0] rfl rfl rfl rfl
        · have hf := zif_f hf c9
          refine z_icmp_lt_f (tgt := 63) dX12_isStep_40 (by decide) c9 ?_
          refine z_iload_n dX12_isStep_43 rfl ?_
          refine z_bipush (v := 10) dX12_isStep_44 (by decide) ?_
          refine z_irem dX12_isStep_46 (by decide) ?_
          refine z_bipush (v := 9) dX12_isStep_47 (by decide) ?_
          by_cases c12 : (v1 - v1 / 10 * 10) = 9
          · have hf := zif_t hf c12
            refine z_icmp_eq_t (tgt := 63) dX12_isStep_49 (by decide) c12 ?_
            exact zW.sub (hJ10 () _ hE hf) [1, 2, 0] rfl rfl rfl rfl
          · have hf := zif_f hf c12
            refine z_icmp_eq_f (tgt := 63) dX12_isStep_49 (by decide) c12 ?_
            refine z_iload_n dX12_isStep_52 rfl ?_
            refine z_bipush (v := 10) dX12_isStep_53 (by decide) ?_
            refine z_irem dX12_isStep_55 (by decide) ?_
            refine z_aload_n dX12_isStep_56 rfl ?_
            refine z_getI dX12_isStep_57 tF_12_291 hE dr_41 rfl rfl ?_
            by_cases c13 : (S5.1 41 26) ≤ (v1 - v1 / 10 * 10)
            · have hf := zif_t hf c13
              refine z_icmp_ge_t (tgt := 67) dX12_isStep_60 (by decide) c13 ?_
              refine z_iconst (v := 0) dX12_isStep_67 (by decide) ?_
              have e_ := Option.some.inj hf
              subst e_
              exact z_zreturn dX12_isStep_68 rfl (by decide) ⟨h, rfl, rfl, hE⟩
            · have hf := zif_f hf c13
              refine z_icmp_ge_f (tgt := 67) dX12_isStep_60 (by decide) c13 ?_
              exact zW.sub (hJ10 () _ hE hf) [1, 2, 0] rfl rfl rfl rfl
    by_cases c2 : 100 ≤ v1
    · have hf := zif_t hf c2
      refine z_icmp_ge_t (tgt := 21) dX12_isStep_11 (by decide) c2 ?_
      refine z_iload_n dX12_isStep_21 rfl ?_
      refine z_bipush (v := 10) dX12_isStep_22 (by decide) ?_
      refine z_idiv dX12_isStep_24 (by decide) ?_
      refine z_bipush (v := 10) dX12_isStep_25 (by decide) ?_
      refine z_irem dX12_isStep_27 (by decide) ?_
      exact zW.sub (hJ3 ((v1 / 10) - (v1 / 10) / 10 * 10) _ hE hf) [0, 1] rfl rfl rfl rfl
    · have hf := zif_f hf c2
      refine z_icmp_ge_f (tgt := 21) dX12_isStep_11 (by decide) c2 ?_
      refine z_iload_n dX12_isStep_14 rfl ?_
      refine z_bipush (v := 10) dX12_isStep_15 (by decide) ?_
      refine z_isub dX12_isStep_17 ?_
      refine z_goto (tgt := 28) dX12_isStep_18 (by decide) ?_
      exact zW.sub (hJ3 (v1 - 10) _ hE hf) [0, 1] rfl rfl rfl rfl
  · have hf := zif_f hf c1
    refine z_icmp_ge_f (tgt := 8) dX12_isStep_3 (by decide) c1 ?_
    refine z_iconst (v := 1) dX12_isStep_6 (by decide) ?_
    have e_ := Option.some.inj hf
    subst e_
    exact z_zreturn dX12_isStep_7 rfl (by decide) ⟨h, rfl, rfl, hE⟩
def f_X12_isAct (v1 : Int32) (v2 : Int32) (S : zS) : Option (Int32 × zS) :=
zl (fun (u3 : Unit) =>
zb (f_X12_isStep v1 S) fun r5 S4 =>
if r5 = 0 then
some (0, S4)
else
zl (fun (u10 : Unit) =>
some (1, S4)) fun J9 =>
if ¬ v2 = 0 then
J9 ()
else
if v1 = 2 then
some (0, S4)
else
J9 ()) fun J2 =>
if v1 < 5 then
J2 ()
else
zl (fun (u14 : Unit) =>
if v1 ≤ 99 then
some (0, S)
else
J2 ()) fun J13 =>
if v1 ≤ 9 then
J13 ()
else
if v1 < 16 then
J2 ()
else
J13 ()
theorem w_X12_isAct {L : Nat} {xs : Nat → Int32} {fm : Bool} {h0 : Nat → va_E} {t : Nat × Nat × Nat} (hn1 : 64 ≤ t.1) (hn2 : t.1 ≤ 1000000) (d : Nat) {h : Nat → va_E} {S : zS} (hE : zE zDr h0 S (h, t)) {v1 : Int32} {v2 : Int32} {R : Int32 × zS} (hf : f_X12_isAct v1 v2 S = some R) : zC (ia_P0 L xs fm) (d + 3) 12072 [.ref 41, .int v1, .int v2] (h, t) (zQi zDr h0 t R) := by
  refine zC_of mt_12072 nn_12072 (Nat.le_of_ble_eq_true rfl) ?_
  refine zW_lv (lv' := [(0, .ref 41), (1, .int v1), (2, .int v2)]) rfl ?_
  unfold f_X12_isAct at hf
  refine z_iload_n dX12_isAct_0 rfl ?_
  refine z_iconst (v := 5) dX12_isAct_1 (by decide) ?_
  obtain ⟨J2, eJ2, hf⟩ := zl_some hf
  have hJ2 : ∀ (u3 : Unit) (h : Nat → va_E), zE zDr h0 S (h, t) → J2 u3 = some R → zW (ia_P0 L xs fm) ia_nx (d + 2) 12 false cX12_isAct 3 (some .boolean) 23 [(0, .ref 41), (1, .int v1), (2, .int v2)] [] (h, t) (zQi zDr h0 t R) := by
    intro u3 h hE hf
    rw [eJ2] at hf
    refine z_aload_n dX12_isAct_23 rfl ?_
    refine z_iload_n dX12_isAct_24 rfl ?_
    obtain ⟨r5, S4, k6, hf⟩ := zb_some hf
    refine z_callVi dX12_isAct_25 tM_12_375 mt_12073 (Nat.le_of_ble_eq_true rfl) rfl rfl (z_recv hE dr_41 rfl) rfl (ia_oks_le hn1 rfl) (Nat.le_of_ble_eq_true rfl) (w_X12_isStep hn1 hn2 (d + 0) hE k6) (fun h hE => ?_)
    by_cases c7 : r5 = 0
    · have hf := zif_t hf c7
      refine z_if_eq_t (tgt := 44) dX12_isAct_28 (by decide) c7 ?_
      refine z_iconst (v := 0) dX12_isAct_44 (by decide) ?_
      have e_ := Option.some.inj hf
      subst e_
      exact z_zreturn dX12_isAct_45 rfl (by decide) ⟨h, rfl, rfl, hE⟩
    · have hf := zif_f hf c7
      refine z_if_eq_f (tgt := 44) dX12_isAct_28 (by decide) c7 ?_
      refine z_iload_n dX12_isAct_31 rfl ?_
      obtain ⟨J9, eJ9, hf⟩ := zl_some hf
      have hJ9 : ∀ (u10 : Unit) (h : Nat → va_E), zE zDr h0 S4 (h, t) → J9 u10 = some R → zW (ia_P0 L xs fm) ia_nx (d + 2) 12 false cX12_isAct 3 (some .boolean) 40 [(0, .ref 41), (1, .int v1), (2, .int v2)] [] (h, t) (zQi zDr h0 t R) := by
        intro u10 h hE hf
        rw [eJ9] at hf
        refine z_iconst (v := 1) dX12_isAct_40 (by decide) ?_
        refine z_goto (tgt := 45) dX12_isAct_41 (by decide) ?_
        have e_ := Option.some.inj hf
        subst e_
        exact z_zreturn dX12_isAct_45 rfl (by decide) ⟨h, rfl, rfl, hE⟩
      by_cases c8 : ¬ v2 = 0
      · have hf := zif_t hf c8
        refine z_if_ne_t (tgt := 40) dX12_isAct_32 (by decide) c8 ?_
        exact zW.sub (hJ9 () _ hE hf) [0, 1, 2] rfl rfl rfl rfl
      · have hf := zif_f hf c8
        refine z_if_ne_f (tgt := 40) dX12_isAct_32 (by decide) c8 ?_
        refine z_iload_n dX12_isAct_35 rfl ?_
        refine z_iconst (v := 2) dX12_isAct_36 (by decide) ?_
        by_cases c11 : v1 = 2
        · have hf := zif_t hf c11
          refine z_icmp_eq_t (tgt := 44) dX12_isAct_37 (by decide) c11 ?_
          refine z_iconst (v := 0) dX12_isAct_44 (by decide) ?_
          have e_ := Option.some.inj hf
          subst e_
          exact z_zreturn dX12_isAct_45 rfl (by decide) ⟨h, rfl, rfl, hE⟩
        · have hf := zif_f hf c11
          refine z_icmp_eq_f (tgt := 44) dX12_isAct_37 (by decide) c11 ?_
          exact zW.sub (hJ9 () _ hE hf) [0, 1, 2] rfl rfl rfl rfl
  by_cases c1 : v1 < 5
  · have hf := zif_t hf c1
    refine z_icmp_lt_t (tgt := 23) dX12_isAct_2 (by decide) c1 ?_
    exact zW.sub (hJ2 () _ hE hf) [0, 1, 2] rfl rfl rfl rfl
  · have hf := zif_f hf c1
    refine z_icmp_lt_f (tgt := 23) dX12_isAct_2 (by decide) c1 ?_
    refine z_iload_n dX12_isAct_5 rfl ?_
    refine z_bipush (v := 9) dX12_isAct_6 (by decide) ?_
    obtain ⟨J13, eJ13, hf⟩ := zl_some hf
    have hJ13 : ∀ (u14 : Unit) (h : Nat → va_E), zE zDr h0 S (h, t) → J13 u14 = some R → zW (ia_P0 L xs fm) ia_nx (d + 2) 12 false cX12_isAct 3 (some .boolean) 17 [(0, .ref 41), (1, .int v1), (2, .int v2)] [] (h, t) (zQi zDr h0 t R) := by
      intro u14 h hE hf
      rw [eJ13] at hf
      refine z_iload_n dX12_isAct_17 rfl ?_
      refine z_bipush (v := 99) dX12_isAct_18 (by decide) ?_
      by_cases c15 : v1 ≤ 99
      · have hf := zif_t hf c15
        refine z_icmp_le_t (tgt := 44) dX12_isAct_20 (by decide) c15 ?_
        refine z_iconst (v := 0) dX12_isAct_44 (by decide) ?_
        have e_ := Option.some.inj hf
        subst e_
        exact z_zreturn dX12_isAct_45 rfl (by decide) ⟨h, rfl, rfl, hE⟩
      · have hf := zif_f hf c15
        refine z_icmp_le_f (tgt := 44) dX12_isAct_20 (by decide) c15 ?_
        exact zW.sub (hJ2 () _ hE hf) [0, 1, 2] rfl rfl rfl rfl
    by_cases c12 : v1 ≤ 9
    · have hf := zif_t hf c12
      refine z_icmp_le_t (tgt := 17) dX12_isAct_8 (by decide) c12 ?_
      exact zW.sub (hJ13 () _ hE hf) [0, 1, 2] rfl rfl rfl rfl
    · have hf := zif_f hf c12
      refine z_icmp_le_f (tgt := 17) dX12_isAct_8 (by decide) c12 ?_
      refine z_iload_n dX12_isAct_11 rfl ?_
      refine z_bipush (v := 16) dX12_isAct_12 (by decide) ?_
      by_cases c16 : v1 < 16
      · have hf := zif_t hf c16
        refine z_icmp_lt_t (tgt := 23) dX12_isAct_14 (by decide) c16 ?_
        exact zW.sub (hJ2 () _ hE hf) [0, 1, 2] rfl rfl rfl rfl
      · have hf := zif_f hf c16
        refine z_icmp_lt_f (tgt := 23) dX12_isAct_14 (by decide) c16 ?_
        exact zW.sub (hJ13 () _ hE hf) [0, 1, 2] rfl rfl rfl rfl
def f_X12_does (w : Nat) (v2 : Int32) (S : zS) : Option (Unit × zS) :=
if 3 ≤ v2 then
if ¬ v2 = 3 then
if ¬ v2 = 4 then
if 100 ≤ v2 then
zl (fun (q7 : Int32) =>
if ia_in ((6 * (S.1 w 64)) + 3) 24 = true then
zb (f_X12_turns w ((v2 / 10) - (v2 / 10) / 10 * 10) q7 (S.1 46 ((6 * (S.1 w 64)) + 3).toNatClampNeg) 0 S) fun _ S9 =>
some ((), S9)
else none) fun J6 =>
if ¬ (v2 - v2 / 10 * 10) = 9 then
J6 (v2 - v2 / 10 * 10)
else
J6 (-1)
else
zb (f_X12_dries w (v2 - 10) S) fun _ S12 =>
some ((), S12)
else
zb (f_X12_waits w 10 S) fun _ S15 =>
some ((), S15)
else
zb (f_X12_heats w 10 S) fun _ S18 =>
some ((), S18)
else
zb (f_X12_works w v2 S) fun _ S21 =>
some ((), S21)
theorem w_X12_does {L : Nat} {xs : Nat → Int32} {fm : Bool} {h0 : Nat → va_E} {t : Nat × Nat × Nat} (hn1 : 64 ≤ t.1) (hn2 : t.1 ≤ 1000000) (d : Nat) {w : Nat} (ho_w : zRw w) {h : Nat → va_E} {S : zS} (hE : zE zDr h0 S (h, t)) {v2 : Int32} {R : Unit × zS} (hf : f_X12_does w v2 S = some R) : zC (ia_P0 L xs fm) (d + 113) 12074 [.ref 41, .ref w, .int v2] (h, t) (zQv zDr h0 t R) := by
  refine zC_of mt_12074 nn_12074 (Nat.le_of_ble_eq_true rfl) ?_
  refine zW_lv (lv' := [(0, .ref 41), (1, .ref w), (2, .int v2)]) rfl ?_
  unfold f_X12_does at hf
  refine z_iload_n dX12_does_0 rfl ?_
  refine z_iconst (v := 3) dX12_does_1 (by decide) ?_
  by_cases c1 : 3 ≤ v2
  · have hf := zif_t hf c1
    refine z_icmp_ge_t (tgt := 14) dX12_does_2 (by decide) c1 ?_
    refine z_iload_n dX12_does_14 rfl ?_
    refine z_iconst (v := 3) dX12_does_15 (by decide) ?_
    by_cases c2 : ¬ v2 = 3
    · have hf := zif_t hf c2
      refine z_icmp_ne_t (tgt := 29) dX12_does_16 (by decide) c2 ?_
      refine z_iload_n dX12_does_29 rfl ?_
      refine z_iconst (v := 4) dX12_does_30 (by decide) ?_
      by_cases c3 : ¬ v2 = 4
      · have hf := zif_t hf c3
        refine z_icmp_ne_t (tgt := 44) dX12_does_31 (by decide) c3 ?_
        refine z_iload_n dX12_does_44 rfl ?_
        refine z_bipush (v := 100) dX12_does_45 (by decide) ?_
        by_cases c4 : 100 ≤ v2
        · have hf := zif_t hf c4
          refine z_icmp_ge_t (tgt := 62) dX12_does_47 (by decide) c4 ?_
          refine z_aload_n dX12_does_62 rfl ?_
          refine z_aload_n dX12_does_63 rfl ?_
          refine z_iload_n dX12_does_64 rfl ?_
          refine z_bipush (v := 10) dX12_does_65 (by decide) ?_
          refine z_idiv dX12_does_67 (by decide) ?_
          refine z_bipush (v := 10) dX12_does_68 (by decide) ?_
          refine z_irem dX12_does_70 (by decide) ?_
          refine z_iload_n dX12_does_71 rfl ?_
          refine z_bipush (v := 10) dX12_does_72 (by decide) ?_
          refine z_irem dX12_does_74 (by decide) ?_
          refine z_bipush (v := 9) dX12_does_75 (by decide) ?_
          obtain ⟨J6, eJ6, hf⟩ := zl_some hf
          have hJ6 : ∀ (q7 : Int32) (h : Nat → va_E), zE zDr h0 S (h, t) → J6 q7 = some R → zW (ia_P0 L xs fm) ia_nx (d + 112) 12 false cX12_does 3 (none) 88 [(0, .ref 41), (1, .ref w), (2, .int v2)] [.int q7, .int ((v2 / 10) - (v2 / 10) / 10 * 10), .ref w, .ref 41] (h, t) (zQv zDr h0 t R) := by
            intro q7 h hE hf
            rw [eJ6] at hf
            refine z_aload_n dX12_does_88 rfl ?_
            refine z_getC dX12_does_89 tF_12_37 hE dr_41 rfl rfl ?_
            refine z_bipush (v := 6) dX12_does_92 (by decide) ?_
            refine z_aload_n dX12_does_94 rfl ?_
            refine z_bipush (v := 64) dX12_does_95 (by decide) ?_
            refine z_ialoadL (i := 64) dX12_does_97 hE ho_w.1 (by decide) (by decide) ?_
            refine z_imul dX12_does_98 ?_
            refine z_iconst (v := 3) dX12_does_99 (by decide) ?_
            refine z_iadd dX12_does_100 ?_
            obtain ⟨b8, hf⟩ := zchk hf
            refine z_ialoadL dX12_does_101 hE dr_46 b8 rfl ?_
            refine z_iconst (v := 0) dX12_does_102 (by decide) ?_
            obtain ⟨r10, S9, k11, hf⟩ := zb_some hf
            refine z_callVv dX12_does_103 tM_12_350 mt_12055 (Nat.le_of_ble_eq_true rfl) rfl rfl (z_recv hE dr_41 rfl) rfl (by have q0 : 41 < t.1 := Nat.lt_of_lt_of_le (by decide) hn1; have q1 : w < t.1 := Nat.lt_of_lt_of_le ho_w.2 (Nat.le_trans (by decide) hn1); simp [ia_oks, ia_okv, q0, q1]) (Nat.le_of_ble_eq_true rfl) (w_X12_turns hn1 hn2 (d + 0) ho_w hE k11) (fun h hE => ?_)
            have e_ := Option.some.inj hf
            subst e_
            exact z_vreturn dX12_does_106 rfl ⟨h, rfl, rfl, hE⟩
          by_cases c5 : ¬ (v2 - v2 / 10 * 10) = 9
          · have hf := zif_t hf c5
            refine z_icmp_ne_t (tgt := 84) dX12_does_77 (by decide) c5 ?_
            refine z_iload_n dX12_does_84 rfl ?_
            refine z_bipush (v := 10) dX12_does_85 (by decide) ?_
            refine z_irem dX12_does_87 (by decide) ?_
            exact zW.sub (hJ6 (v2 - v2 / 10 * 10) _ hE hf) [0, 1, 2] rfl rfl rfl rfl
          · have hf := zif_f hf c5
            refine z_icmp_ne_f (tgt := 84) dX12_does_77 (by decide) c5 ?_
            refine z_iconst (v := (-1)) dX12_does_80 (by decide) ?_
            refine z_goto (tgt := 88) dX12_does_81 (by decide) ?_
            exact zW.sub (hJ6 (-1) _ hE hf) [0, 1, 2] rfl rfl rfl rfl
        · have hf := zif_f hf c4
          refine z_icmp_ge_f (tgt := 62) dX12_does_47 (by decide) c4 ?_
          refine z_aload_n dX12_does_50 rfl ?_
          refine z_aload_n dX12_does_51 rfl ?_
          refine z_iload_n dX12_does_52 rfl ?_
          refine z_bipush (v := 10) dX12_does_53 (by decide) ?_
          refine z_isub dX12_does_55 ?_
          obtain ⟨r13, S12, k14, hf⟩ := zb_some hf
          refine z_callVv dX12_does_56 tM_12_347 mt_12063 (Nat.le_of_ble_eq_true rfl) rfl rfl (z_recv hE dr_41 rfl) rfl (by have q0 : 41 < t.1 := Nat.lt_of_lt_of_le (by decide) hn1; have q1 : w < t.1 := Nat.lt_of_lt_of_le ho_w.2 (Nat.le_trans (by decide) hn1); simp [ia_oks, ia_okv, q0, q1]) (Nat.le_of_ble_eq_true rfl) (w_X12_dries hn1 hn2 (d + 111) ho_w hE k14) (fun h hE => ?_)
          refine z_goto (tgt := 106) dX12_does_59 (by decide) ?_
          have e_ := Option.some.inj hf
          subst e_
          exact z_vreturn dX12_does_106 rfl ⟨h, rfl, rfl, hE⟩
      · have hf := zif_f hf c3
        refine z_icmp_ne_f (tgt := 44) dX12_does_31 (by decide) c3 ?_
        refine z_aload_n dX12_does_34 rfl ?_
        refine z_aload_n dX12_does_35 rfl ?_
        refine z_bipush (v := 10) dX12_does_36 (by decide) ?_
        obtain ⟨r16, S15, k17, hf⟩ := zb_some hf
        refine z_callVv dX12_does_38 tM_12_344 mt_12065 (Nat.le_of_ble_eq_true rfl) rfl rfl (z_recv hE dr_41 rfl) rfl (by have q0 : 41 < t.1 := Nat.lt_of_lt_of_le (by decide) hn1; have q1 : w < t.1 := Nat.lt_of_lt_of_le ho_w.2 (Nat.le_trans (by decide) hn1); simp [ia_oks, ia_okv, q0, q1]) (Nat.le_of_ble_eq_true rfl) (w_X12_waits hn1 hn2 (d + 111) ho_w hE k17) (fun h hE => ?_)
        refine z_goto (tgt := 106) dX12_does_41 (by decide) ?_
        have e_ := Option.some.inj hf
        subst e_
        exact z_vreturn dX12_does_106 rfl ⟨h, rfl, rfl, hE⟩
    · have hf := zif_f hf c2
      refine z_icmp_ne_f (tgt := 29) dX12_does_16 (by decide) c2 ?_
      refine z_aload_n dX12_does_19 rfl ?_
      refine z_aload_n dX12_does_20 rfl ?_
      refine z_bipush (v := 10) dX12_does_21 (by decide) ?_
      obtain ⟨r19, S18, k20, hf⟩ := zb_some hf
      refine z_callVv dX12_does_23 tM_12_341 mt_12059 (Nat.le_of_ble_eq_true rfl) rfl rfl (z_recv hE dr_41 rfl) rfl (by have q0 : 41 < t.1 := Nat.lt_of_lt_of_le (by decide) hn1; have q1 : w < t.1 := Nat.lt_of_lt_of_le ho_w.2 (Nat.le_trans (by decide) hn1); simp [ia_oks, ia_okv, q0, q1]) (Nat.le_of_ble_eq_true rfl) (w_X12_heats hn1 hn2 (d + 111) ho_w hE k20) (fun h hE => ?_)
      refine z_goto (tgt := 106) dX12_does_26 (by decide) ?_
      have e_ := Option.some.inj hf
      subst e_
      exact z_vreturn dX12_does_106 rfl ⟨h, rfl, rfl, hE⟩
  · have hf := zif_f hf c1
    refine z_icmp_ge_f (tgt := 14) dX12_does_2 (by decide) c1 ?_
    refine z_aload_n dX12_does_5 rfl ?_
    refine z_aload_n dX12_does_6 rfl ?_
    refine z_iload_n dX12_does_7 rfl ?_
    obtain ⟨r22, S21, k23, hf⟩ := zb_some hf
    refine z_callVv dX12_does_8 tM_12_337 mt_12061 (Nat.le_of_ble_eq_true rfl) rfl rfl (z_recv hE dr_41 rfl) rfl (by have q0 : 41 < t.1 := Nat.lt_of_lt_of_le (by decide) hn1; have q1 : w < t.1 := Nat.lt_of_lt_of_le ho_w.2 (Nat.le_trans (by decide) hn1); simp [ia_oks, ia_okv, q0, q1]) (Nat.le_of_ble_eq_true rfl) (w_X12_works hn1 hn2 (d + 111) ho_w hE k23) (fun h hE => ?_)
    refine z_goto (tgt := 106) dX12_does_11 (by decide) ?_
    have e_ := Option.some.inj hf
    subst e_
    exact z_vreturn dX12_does_106 rfl ⟨h, rfl, rfl, hE⟩
def f_X12_opensFirst_o_L15 (hub : Int32 → Int32 → Int32 → zS → Option (Int32 × zS)) (ex : Int32 → zS → Option (Int32 × zS)) (i1 : Int32) (i2 : Int32) (i3 : Int32) (i4 : Int32) : Nat → Int32 → zS → Option (Int32 × zS)
  | 0, _, _ => none
  | k + 1, x5, S =>
    if 66 ≤ x5 then
    ex x5 S
    else
    if ia_in ((66 * i3) + x5) 264 = true then
    if ia_in x5 66 = true then
    zl (sV S 55 (x5.toNatClampNeg) (S.1 59 ((66 * i3) + x5).toNatClampNeg)) fun S8 =>
    zl (x5 + 1) fun (y9 : Int32) =>
    f_X12_opensFirst_o_L15 hub ex i1 i2 i3 i4 k y9 S8
    else none
    else none
def f_X12_opensFirst_o_L107 (hub : Int32 → Int32 → Int32 → zS → Option (Int32 × zS)) (ex : Int32 → zS → Option (Int32 × zS)) (i1 : Int32) (i2 : Int32) (i3 : Int32) (i4 : Int32) (i5 : Int32) : Nat → Int32 → zS → Option (Int32 × zS)
  | 0, _, _ => none
  | k + 1, x6, S =>
    if 66 ≤ x6 then
    ex x6 S
    else
    if ia_in x6 66 = true then
    if ia_in ((66 * (i3 + 1)) + x6) 264 = true then
    zl (sV S 59 (((66 * (i3 + 1)) + x6).toNatClampNeg) (S.1 55 x6.toNatClampNeg)) fun S24 =>
    zl (x6 + 1) fun (y25 : Int32) =>
    f_X12_opensFirst_o_L107 hub ex i1 i2 i3 i4 i5 k y25 S24
    else none
    else none
def f_X12_opensFirst_o (hub : Int32 → Int32 → Int32 → zS → Option (Int32 × zS)) (v1 : Int32) (v2 : Int32) (v3 : Int32) (v4 : Int32) (S : zS) : Option (Int32 × zS) :=
zb (f_X12_isAct v1 v4 S) fun r2 S1 =>
if ¬ r2 = 0 then
f_X12_opensFirst_o_L15 hub (fun (q11 : Int32) (S10 : zS) =>
zb (f_X12_does 55 v1 S10) fun _ S12 =>
zl (7 * (S12.1 55 64)) fun (y15 : Int32) =>
if ia_in (y15 + 5) 66 = true then
if ¬ (S12.1 55 (y15 + 5).toNatClampNeg) = 1 then
if v2 = 1 then
some (0, S12)
else
if ia_in (y15 + 6) 66 = true then
if ¬ (S12.1 55 (y15 + 6).toNatClampNeg) = 1 then
f_X12_opensFirst_o_L107 hub (fun (q27 : Int32) (S26 : zS) =>
zb (hub (v2 - 1) (v3 + 1) v4 S26) fun r29 S28 =>
if r29 = 0 ∨ r29 = 1 then some (r29, S28) else none) v1 v2 v3 v4 y15 zN 0 S12
else
some (0, S12)
else none
else
some (1, S12)
else none) v1 v2 v3 v4 zN 0 S1
else
some (0, S1)
theorem w_X12_opensFirst_o_L15 {L : Nat} {xs : Nat → Int32} {fm : Bool} {h0 : Nat → va_E} {t : Nat × Nat × Nat} (hn1 : 64 ≤ t.1) (hn2 : t.1 ≤ 1000000) (d : Nat) {hub : Int32 → Int32 → Int32 → zS → Option (Int32 × zS)} (hh : ∀ (a0 a1 a2 : Int32) (h : Nat → va_E) (S : zS) (R : Int32 × zS), zE zDr h0 S (h, t) → hub a0 a1 a2 S = some R → zC (ia_P0 L xs fm) (d + 113) 12075 [.ref 41, .int a0, .int a1, .int a2] (h, t) (zQi zDr h0 t R)) {ex : Int32 → zS → Option (Int32 × zS)} {i1 : Int32} {i2 : Int32} {i3 : Int32} {i4 : Int32} {R : Int32 × zS} (hex : ∀ (x5 : Int32) (S : zS) (h : Nat → va_E), zE zDr h0 S (h, t) → ex x5 S = some R → zW (ia_P0 L xs fm) ia_nx (d + 113) 12 false cX12_opensFirst 7 (some .boolean) 47 [(0, .ref 41), (1, .int i1), (2, .int i2), (3, .int i3), (4, .int i4), (5, .int x5)] [] (h, t) (zQi zDr h0 t R)) : ∀ (k : Nat) (x5 : Int32) (S : zS) (h : Nat → va_E), zE zDr h0 S (h, t) → f_X12_opensFirst_o_L15 hub ex i1 i2 i3 i4 k x5 S = some R → zW (ia_P0 L xs fm) ia_nx (d + 113) 12 false cX12_opensFirst 7 (some .boolean) 15 [(0, .ref 41), (1, .int i1), (2, .int i2), (3, .int i3), (4, .int i4), (5, .int x5)] [] (h, t) (zQi zDr h0 t R) := by
  intro k
  induction k with
  | zero => intro x5 S h hE hf; cases hf
  | succ k ih =>
    intro x5 S h hE hf
    unfold f_X12_opensFirst_o_L15 at hf
    refine z_iload dX12_opensFirst_15 rfl ?_
    refine z_bipush (v := 66) dX12_opensFirst_17 (by decide) ?_
    by_cases c5 : 66 ≤ x5
    · have hf := zif_t hf c5
      refine z_icmp_ge_t (tgt := 47) dX12_opensFirst_19 (by decide) c5 ?_
      exact zW.sub (hex x5 S _ hE hf) [0, 1, 2, 3, 4, 5] rfl rfl rfl rfl
    · have hf := zif_f hf c5
      refine z_icmp_ge_f (tgt := 47) dX12_opensFirst_19 (by decide) c5 ?_
      refine z_aload_n dX12_opensFirst_22 rfl ?_
      refine z_getC dX12_opensFirst_23 tF_12_64 hE dr_41 rfl rfl ?_
      refine z_iload dX12_opensFirst_26 rfl ?_
      refine z_aload_n dX12_opensFirst_28 rfl ?_
      refine z_getC dX12_opensFirst_29 tF_12_80 hE dr_41 rfl rfl ?_
      refine z_bipush (v := 66) dX12_opensFirst_32 (by decide) ?_
      refine z_iload_n dX12_opensFirst_34 rfl ?_
      refine z_imul dX12_opensFirst_35 ?_
      refine z_iload dX12_opensFirst_36 rfl ?_
      refine z_iadd dX12_opensFirst_38 ?_
      obtain ⟨b6, hf⟩ := zchk hf
      refine z_ialoadL dX12_opensFirst_39 hE dr_59 b6 rfl ?_
      obtain ⟨b7, hf⟩ := zchk hf
      obtain ⟨S8, eS8, hf⟩ := zl_some hf
      refine z_iastoreL (i := x5.toNatClampNeg) dX12_opensFirst_40 hE dr_55 b7 rfl (fun h hE => ?_)
      rw [← eS8] at hE
      obtain ⟨y9, ey9, hf⟩ := zl_some hf
      refine z_iincY (v := 1) (y := y9) (lv' := [(5, .int y9), (0, .ref 41), (1, .int i1), (2, .int i2), (3, .int i3), (4, .int i4)]) dX12_opensFirst_41 rfl (by decide) (by decide) ey9 rfl ?_
      refine z_goto (tgt := 15) dX12_opensFirst_44 (by decide) ?_
      exact zW.sub (ih y9 S8 _ hE hf) [1, 2, 3, 4, 5, 0] rfl rfl rfl rfl
theorem w_X12_opensFirst_o_L107 {L : Nat} {xs : Nat → Int32} {fm : Bool} {h0 : Nat → va_E} {t : Nat × Nat × Nat} (hn1 : 64 ≤ t.1) (hn2 : t.1 ≤ 1000000) (d : Nat) {hub : Int32 → Int32 → Int32 → zS → Option (Int32 × zS)} (hh : ∀ (a0 a1 a2 : Int32) (h : Nat → va_E) (S : zS) (R : Int32 × zS), zE zDr h0 S (h, t) → hub a0 a1 a2 S = some R → zC (ia_P0 L xs fm) (d + 113) 12075 [.ref 41, .int a0, .int a1, .int a2] (h, t) (zQi zDr h0 t R)) {ex : Int32 → zS → Option (Int32 × zS)} {i1 : Int32} {i2 : Int32} {i3 : Int32} {i4 : Int32} {i5 : Int32} {R : Int32 × zS} (hex : ∀ (x6 : Int32) (S : zS) (h : Nat → va_E), zE zDr h0 S (h, t) → ex x6 S = some R → zW (ia_P0 L xs fm) ia_nx (d + 113) 12 false cX12_opensFirst 7 (some .boolean) 141 [(0, .ref 41), (1, .int i1), (2, .int i2), (3, .int i3), (4, .int i4), (5, .int i5), (6, .int x6)] [] (h, t) (zQi zDr h0 t R)) : ∀ (k : Nat) (x6 : Int32) (S : zS) (h : Nat → va_E), zE zDr h0 S (h, t) → f_X12_opensFirst_o_L107 hub ex i1 i2 i3 i4 i5 k x6 S = some R → zW (ia_P0 L xs fm) ia_nx (d + 113) 12 false cX12_opensFirst 7 (some .boolean) 107 [(0, .ref 41), (1, .int i1), (2, .int i2), (3, .int i3), (4, .int i4), (5, .int i5), (6, .int x6)] [] (h, t) (zQi zDr h0 t R) := by
  intro k
  induction k with
  | zero => intro x6 S h hE hf; cases hf
  | succ k ih =>
    intro x6 S h hE hf
    unfold f_X12_opensFirst_o_L107 at hf
    refine z_iload dX12_opensFirst_107 rfl ?_
    refine z_bipush (v := 66) dX12_opensFirst_109 (by decide) ?_
    by_cases c21 : 66 ≤ x6
    · have hf := zif_t hf c21
      refine z_icmp_ge_t (tgt := 141) dX12_opensFirst_111 (by decide) c21 ?_
      exact zW.sub (hex x6 S _ hE hf) [0, 1, 2, 3, 4, 5, 6] rfl rfl rfl rfl
    · have hf := zif_f hf c21
      refine z_icmp_ge_f (tgt := 141) dX12_opensFirst_111 (by decide) c21 ?_
      refine z_aload_n dX12_opensFirst_114 rfl ?_
      refine z_getC dX12_opensFirst_115 tF_12_80 hE dr_41 rfl rfl ?_
      refine z_bipush (v := 66) dX12_opensFirst_118 (by decide) ?_
      refine z_iload_n dX12_opensFirst_120 rfl ?_
      refine z_iconst (v := 1) dX12_opensFirst_121 (by decide) ?_
      refine z_iadd dX12_opensFirst_122 ?_
      refine z_imul dX12_opensFirst_123 ?_
      refine z_iload dX12_opensFirst_124 rfl ?_
      refine z_iadd dX12_opensFirst_126 ?_
      refine z_aload_n dX12_opensFirst_127 rfl ?_
      refine z_getC dX12_opensFirst_128 tF_12_64 hE dr_41 rfl rfl ?_
      refine z_iload dX12_opensFirst_131 rfl ?_
      obtain ⟨b22, hf⟩ := zchk hf
      refine z_ialoadL dX12_opensFirst_133 hE dr_55 b22 rfl ?_
      obtain ⟨b23, hf⟩ := zchk hf
      obtain ⟨S24, eS24, hf⟩ := zl_some hf
      refine z_iastoreL (i := ((66 * (i3 + 1)) + x6).toNatClampNeg) dX12_opensFirst_134 hE dr_59 b23 rfl (fun h hE => ?_)
      rw [← eS24] at hE
      obtain ⟨y25, ey25, hf⟩ := zl_some hf
      refine z_iincY (v := 1) (y := y25) (lv' := [(6, .int y25), (0, .ref 41), (1, .int i1), (2, .int i2), (3, .int i3), (4, .int i4), (5, .int i5)]) dX12_opensFirst_135 rfl (by decide) (by decide) ey25 rfl ?_
      refine z_goto (tgt := 107) dX12_opensFirst_138 (by decide) ?_
      exact zW.sub (ih y25 S24 _ hE hf) [1, 2, 3, 4, 5, 6, 0] rfl rfl rfl rfl
theorem w_X12_opensFirst_o {L : Nat} {xs : Nat → Int32} {fm : Bool} {h0 : Nat → va_E} {t : Nat × Nat × Nat} (hn1 : 64 ≤ t.1) (hn2 : t.1 ≤ 1000000) (d : Nat) {hub : Int32 → Int32 → Int32 → zS → Option (Int32 × zS)} (hh : ∀ (a0 a1 a2 : Int32) (h : Nat → va_E) (S : zS) (R : Int32 × zS), zE zDr h0 S (h, t) → hub a0 a1 a2 S = some R → zC (ia_P0 L xs fm) (d + 113) 12075 [.ref 41, .int a0, .int a1, .int a2] (h, t) (zQi zDr h0 t R)) {h : Nat → va_E} {S : zS} (hE : zE zDr h0 S (h, t)) {v1 : Int32} {v2 : Int32} {v3 : Int32} {v4 : Int32} {R : Int32 × zS} (hf : f_X12_opensFirst_o hub v1 v2 v3 v4 S = some R) : zC (ia_P0 L xs fm) (d + 114) 12071 [.ref 41, .int v1, .int v2, .int v3, .int v4] (h, t) (zQi zDr h0 t R) := by
  refine zC_of mt_12071 nn_12071 (Nat.le_of_ble_eq_true rfl) ?_
  refine zW_lv (lv' := [(0, .ref 41), (1, .int v1), (2, .int v2), (3, .int v3), (4, .int v4)]) rfl ?_
  unfold f_X12_opensFirst_o at hf
  refine z_aload_n dX12_opensFirst_0 rfl ?_
  refine z_iload_n dX12_opensFirst_1 rfl ?_
  refine z_iload dX12_opensFirst_2 rfl ?_
  obtain ⟨r2, S1, k3, hf⟩ := zb_some hf
  refine z_callVi dX12_opensFirst_4 tM_12_378 mt_12072 (Nat.le_of_ble_eq_true rfl) rfl rfl (z_recv hE dr_41 rfl) rfl (ia_oks_le hn1 rfl) (Nat.le_of_ble_eq_true rfl) (w_X12_isAct hn1 hn2 (d + 110) hE k3) (fun h hE => ?_)
  by_cases c4 : ¬ r2 = 0
  · have hf := zif_t hf c4
    refine z_if_ne_t (tgt := 12) dX12_opensFirst_7 (by decide) c4 ?_
    refine z_iconst (v := 0) dX12_opensFirst_12 (by decide) ?_
    refine z_istore (lv' := [(5, .int 0), (0, .ref 41), (1, .int v1), (2, .int v2), (3, .int v3), (4, .int v4)]) dX12_opensFirst_13 (by decide) rfl ?_
    refine zW.sub (w_X12_opensFirst_o_L15 hn1 hn2 d hh (fun q11 S10 h hE hf => ?_) zN 0 S1 h hE hf) [1, 2, 3, 4, 5, 0] rfl rfl rfl rfl
    try dsimp only at hf
    refine z_aload_n dX12_opensFirst_47 rfl ?_
    refine z_aload_n dX12_opensFirst_48 rfl ?_
    refine z_getC dX12_opensFirst_49 tF_12_64 hE dr_41 rfl rfl ?_
    refine z_iload_n dX12_opensFirst_52 rfl ?_
    obtain ⟨r13, S12, k14, hf⟩ := zb_some hf
    refine z_callVv dX12_opensFirst_53 tM_12_382 mt_12074 (Nat.le_of_ble_eq_true rfl) rfl rfl (z_recv hE dr_41 rfl) rfl (ia_oks_le hn1 rfl) (Nat.le_of_ble_eq_true rfl) (w_X12_does hn1 hn2 (d + 0) rw_55 hE k14) (fun h hE => ?_)
    refine z_bipush (v := 7) dX12_opensFirst_56 (by decide) ?_
    refine z_aload_n dX12_opensFirst_58 rfl ?_
    refine z_getC dX12_opensFirst_59 tF_12_64 hE dr_41 rfl rfl ?_
    refine z_bipush (v := 64) dX12_opensFirst_62 (by decide) ?_
    refine z_ialoadL (i := 64) dX12_opensFirst_64 hE dr_55 (by decide) (by decide) ?_
    refine z_imul dX12_opensFirst_65 ?_
    obtain ⟨y15, ey15, hf⟩ := zl_some hf
    refine z_topi ey15 ?_
    refine z_istore (lv' := [(5, .int y15), (0, .ref 41), (1, .int v1), (2, .int v2), (3, .int v3), (4, .int v4)]) dX12_opensFirst_66 (by decide) rfl ?_
    refine z_aload_n dX12_opensFirst_68 rfl ?_
    refine z_getC dX12_opensFirst_69 tF_12_64 hE dr_41 rfl rfl ?_
    refine z_iload dX12_opensFirst_72 rfl ?_
    refine z_iconst (v := 5) dX12_opensFirst_74 (by decide) ?_
    refine z_iadd dX12_opensFirst_75 ?_
    obtain ⟨b16, hf⟩ := zchk hf
    refine z_ialoadL dX12_opensFirst_76 hE dr_55 b16 rfl ?_
    refine z_iconst (v := 1) dX12_opensFirst_77 (by decide) ?_
    by_cases c17 : ¬ (S12.1 55 (y15 + 5).toNatClampNeg) = 1
    · have hf := zif_t hf c17
      refine z_icmp_ne_t (tgt := 83) dX12_opensFirst_78 (by decide) c17 ?_
      refine z_iload_n dX12_opensFirst_83 rfl ?_
      refine z_iconst (v := 1) dX12_opensFirst_84 (by decide) ?_
      by_cases c18 : v2 = 1
      · have hf := zif_t hf c18
        refine z_icmp_eq_t (tgt := 102) dX12_opensFirst_85 (by decide) c18 ?_
        refine z_iconst (v := 0) dX12_opensFirst_102 (by decide) ?_
        have e_ := Option.some.inj hf
        subst e_
        exact z_zreturn dX12_opensFirst_103 rfl (by decide) ⟨h, rfl, rfl, hE⟩
      · have hf := zif_f hf c18
        refine z_icmp_eq_f (tgt := 102) dX12_opensFirst_85 (by decide) c18 ?_
        refine z_aload_n dX12_opensFirst_88 rfl ?_
        refine z_getC dX12_opensFirst_89 tF_12_64 hE dr_41 rfl rfl ?_
        refine z_iload dX12_opensFirst_92 rfl ?_
        refine z_bipush (v := 6) dX12_opensFirst_94 (by decide) ?_
        refine z_iadd dX12_opensFirst_96 ?_
        obtain ⟨b19, hf⟩ := zchk hf
        refine z_ialoadL dX12_opensFirst_97 hE dr_55 b19 rfl ?_
        refine z_iconst (v := 1) dX12_opensFirst_98 (by decide) ?_
        by_cases c20 : ¬ (S12.1 55 (y15 + 6).toNatClampNeg) = 1
        · have hf := zif_t hf c20
          refine z_icmp_ne_t (tgt := 104) dX12_opensFirst_99 (by decide) c20 ?_
          refine z_iconst (v := 0) dX12_opensFirst_104 (by decide) ?_
          refine z_istore (lv' := [(6, .int 0), (5, .int y15), (0, .ref 41), (1, .int v1), (2, .int v2), (3, .int v3), (4, .int v4)]) dX12_opensFirst_105 (by decide) rfl ?_
          refine zW.sub (w_X12_opensFirst_o_L107 hn1 hn2 d hh (fun q27 S26 h hE hf => ?_) zN 0 S12 h hE hf) [2, 3, 4, 5, 6, 1, 0] rfl rfl rfl rfl
          try dsimp only at hf
          refine z_aload_n dX12_opensFirst_141 rfl ?_
          refine z_iload_n dX12_opensFirst_142 rfl ?_
          refine z_iconst (v := 1) dX12_opensFirst_143 (by decide) ?_
          refine z_isub dX12_opensFirst_144 ?_
          refine z_iload_n dX12_opensFirst_145 rfl ?_
          refine z_iconst (v := 1) dX12_opensFirst_146 (by decide) ?_
          refine z_iadd dX12_opensFirst_147 ?_
          refine z_iload dX12_opensFirst_148 rfl ?_
          obtain ⟨r29, S28, k30, hf⟩ := zb_some hf
          refine z_callVi dX12_opensFirst_150 tM_12_385 mt_12075 (Nat.le_of_ble_eq_true rfl) rfl rfl (z_recv hE dr_41 rfl) rfl (ia_oks_le hn1 rfl) (Nat.le_of_ble_eq_true rfl) ((hh (v2 - 1) (v3 + 1) v4 h S26 _ hE k30).mono (by omega)) (fun h hE => ?_)
          obtain ⟨b31, hf⟩ := zchk hf
          have e_ := Option.some.inj hf
          subst e_
          exact z_zreturn dX12_opensFirst_153 rfl b31 ⟨h, rfl, rfl, hE⟩
        · have hf := zif_f hf c20
          refine z_icmp_ne_f (tgt := 104) dX12_opensFirst_99 (by decide) c20 ?_
          refine z_iconst (v := 0) dX12_opensFirst_102 (by decide) ?_
          have e_ := Option.some.inj hf
          subst e_
          exact z_zreturn dX12_opensFirst_103 rfl (by decide) ⟨h, rfl, rfl, hE⟩
    · have hf := zif_f hf c17
      refine z_icmp_ne_f (tgt := 83) dX12_opensFirst_78 (by decide) c17 ?_
      refine z_iconst (v := 1) dX12_opensFirst_81 (by decide) ?_
      have e_ := Option.some.inj hf
      subst e_
      exact z_zreturn dX12_opensFirst_82 rfl (by decide) ⟨h, rfl, rfl, hE⟩
  · have hf := zif_f hf c4
    refine z_if_ne_f (tgt := 12) dX12_opensFirst_7 (by decide) c4 ?_
    refine z_iconst (v := 0) dX12_opensFirst_10 (by decide) ?_
    have e_ := Option.some.inj hf
    subst e_
    exact z_zreturn dX12_opensFirst_11 rfl (by decide) ⟨h, rfl, rfl, hE⟩
def f_X12_opensBy_o_L3 (hub : Int32 → Int32 → Int32 → zS → Option (Int32 × zS)) (ex : Int32 → zS → Option (Int32 × zS)) (i1 : Int32) (i2 : Int32) (i3 : Int32) : Nat → Int32 → zS → Option (Int32 × zS)
  | 0, _, _ => none
  | k + 1, x4, S =>
    if 160 ≤ x4 then
    ex x4 S
    else
    zb (f_X12_opensFirst_o hub x4 i1 i2 i3 S) fun r3 S2 =>
    if r3 = 0 then
    zl (x4 + 1) fun (y6 : Int32) =>
    f_X12_opensBy_o_L3 hub ex i1 i2 i3 k y6 S2
    else
    some (1, S2)
def f_X12_opensBy_o (hub : Int32 → Int32 → Int32 → zS → Option (Int32 × zS)) (v1 : Int32) (v2 : Int32) (v3 : Int32) (S : zS) : Option (Int32 × zS) :=
f_X12_opensBy_o_L3 hub (fun (q8 : Int32) (S7 : zS) =>
some (0, S7)) v1 v2 v3 zN 0 S
theorem w_X12_opensBy_o_L3 {L : Nat} {xs : Nat → Int32} {fm : Bool} {h0 : Nat → va_E} {t : Nat × Nat × Nat} (hn1 : 64 ≤ t.1) (hn2 : t.1 ≤ 1000000) (d : Nat) {hub : Int32 → Int32 → Int32 → zS → Option (Int32 × zS)} (hh : ∀ (a0 a1 a2 : Int32) (h : Nat → va_E) (S : zS) (R : Int32 × zS), zE zDr h0 S (h, t) → hub a0 a1 a2 S = some R → zC (ia_P0 L xs fm) (d + 113) 12075 [.ref 41, .int a0, .int a1, .int a2] (h, t) (zQi zDr h0 t R)) {ex : Int32 → zS → Option (Int32 × zS)} {i1 : Int32} {i2 : Int32} {i3 : Int32} {R : Int32 × zS} (hex : ∀ (x4 : Int32) (S : zS) (h : Nat → va_E), zE zDr h0 S (h, t) → ex x4 S = some R → zW (ia_P0 L xs fm) ia_nx (d + 114) 12 false cX12_opensBy 5 (some .boolean) 31 [(0, .ref 41), (1, .int i1), (2, .int i2), (3, .int i3), (4, .int x4)] [] (h, t) (zQi zDr h0 t R)) : ∀ (k : Nat) (x4 : Int32) (S : zS) (h : Nat → va_E), zE zDr h0 S (h, t) → f_X12_opensBy_o_L3 hub ex i1 i2 i3 k x4 S = some R → zW (ia_P0 L xs fm) ia_nx (d + 114) 12 false cX12_opensBy 5 (some .boolean) 3 [(0, .ref 41), (1, .int i1), (2, .int i2), (3, .int i3), (4, .int x4)] [] (h, t) (zQi zDr h0 t R) := by
  intro k
  induction k with
  | zero => intro x4 S h hE hf; cases hf
  | succ k ih =>
    intro x4 S h hE hf
    unfold f_X12_opensBy_o_L3 at hf
    refine z_iload dX12_opensBy_3 rfl ?_
    refine z_sipush (v := 160) dX12_opensBy_5 (by decide) ?_
    by_cases c1 : 160 ≤ x4
    · have hf := zif_t hf c1
      refine z_icmp_ge_t (tgt := 31) dX12_opensBy_8 (by decide) c1 ?_
      exact zW.sub (hex x4 S _ hE hf) [0, 1, 2, 3, 4] rfl rfl rfl rfl
    · have hf := zif_f hf c1
      refine z_icmp_ge_f (tgt := 31) dX12_opensBy_8 (by decide) c1 ?_
      refine z_aload_n dX12_opensBy_11 rfl ?_
      refine z_iload dX12_opensBy_12 rfl ?_
      refine z_iload_n dX12_opensBy_14 rfl ?_
      refine z_iload_n dX12_opensBy_15 rfl ?_
      refine z_iload_n dX12_opensBy_16 rfl ?_
      obtain ⟨r3, S2, k4, hf⟩ := zb_some hf
      refine z_callVi dX12_opensBy_17 tM_12_371 mt_12071 (Nat.le_of_ble_eq_true rfl) rfl rfl (z_recv hE dr_41 rfl) rfl (ia_oks_le hn1 rfl) (Nat.le_of_ble_eq_true rfl) (w_X12_opensFirst_o hn1 hn2 (d + 0) (fun a0 a1 a2 h S R hE hk => (hh a0 a1 a2 h S R hE hk).mono (by omega)) hE k4) (fun h hE => ?_)
      by_cases c5 : r3 = 0
      · have hf := zif_t hf c5
        refine z_if_eq_t (tgt := 25) dX12_opensBy_20 (by decide) c5 ?_
        obtain ⟨y6, ey6, hf⟩ := zl_some hf
        refine z_iincY (v := 1) (y := y6) (lv' := [(4, .int y6), (0, .ref 41), (1, .int i1), (2, .int i2), (3, .int i3)]) dX12_opensBy_25 rfl (by decide) (by decide) ey6 rfl ?_
        refine z_goto (tgt := 3) dX12_opensBy_28 (by decide) ?_
        exact zW.sub (ih y6 S2 _ hE hf) [1, 2, 3, 4, 0] rfl rfl rfl rfl
      · have hf := zif_f hf c5
        refine z_if_eq_f (tgt := 25) dX12_opensBy_20 (by decide) c5 ?_
        refine z_iconst (v := 1) dX12_opensBy_23 (by decide) ?_
        have e_ := Option.some.inj hf
        subst e_
        exact z_zreturn dX12_opensBy_24 rfl (by decide) ⟨h, rfl, rfl, hE⟩
theorem w_X12_opensBy_o {L : Nat} {xs : Nat → Int32} {fm : Bool} {h0 : Nat → va_E} {t : Nat × Nat × Nat} (hn1 : 64 ≤ t.1) (hn2 : t.1 ≤ 1000000) (d : Nat) {hub : Int32 → Int32 → Int32 → zS → Option (Int32 × zS)} (hh : ∀ (a0 a1 a2 : Int32) (h : Nat → va_E) (S : zS) (R : Int32 × zS), zE zDr h0 S (h, t) → hub a0 a1 a2 S = some R → zC (ia_P0 L xs fm) (d + 113) 12075 [.ref 41, .int a0, .int a1, .int a2] (h, t) (zQi zDr h0 t R)) {h : Nat → va_E} {S : zS} (hE : zE zDr h0 S (h, t)) {v1 : Int32} {v2 : Int32} {v3 : Int32} {R : Int32 × zS} (hf : f_X12_opensBy_o hub v1 v2 v3 S = some R) : zC (ia_P0 L xs fm) (d + 115) 12075 [.ref 41, .int v1, .int v2, .int v3] (h, t) (zQi zDr h0 t R) := by
  refine zC_of mt_12075 nn_12075 (Nat.le_of_ble_eq_true rfl) ?_
  refine zW_lv (lv' := [(0, .ref 41), (1, .int v1), (2, .int v2), (3, .int v3)]) rfl ?_
  unfold f_X12_opensBy_o at hf
  refine z_iconst (v := 0) dX12_opensBy_0 (by decide) ?_
  refine z_istore (lv' := [(4, .int 0), (0, .ref 41), (1, .int v1), (2, .int v2), (3, .int v3)]) dX12_opensBy_1 (by decide) rfl ?_
  refine zW.sub (w_X12_opensBy_o_L3 hn1 hn2 d hh (fun q8 S7 h hE hf => ?_) zN 0 S h hE hf) [1, 2, 3, 4, 0] rfl rfl rfl rfl
  try dsimp only at hf
  refine z_iconst (v := 0) dX12_opensBy_31 (by decide) ?_
  have e_ := Option.some.inj hf
  subst e_
  exact z_zreturn dX12_opensBy_32 rfl (by decide) ⟨h, rfl, rfl, hE⟩
def f_X12_opensBy_g : Nat → Int32 → Int32 → Int32 → zS → Option (Int32 × zS)
  | 0 => fun _ _ _ _ => none
  | g + 1 => f_X12_opensBy_o (f_X12_opensBy_g g)
theorem w_X12_opensBy_g {L : Nat} {xs : Nat → Int32} {fm : Bool} {h0 : Nat → va_E} {t : Nat × Nat × Nat} (hn1 : 64 ≤ t.1) (hn2 : t.1 ≤ 1000000) (d : Nat) : ∀ g : Nat, ∀ (a0 a1 a2 : Int32) (h : Nat → va_E) (S : zS) (R : Int32 × zS), zE zDr h0 S (h, t) → f_X12_opensBy_g g a0 a1 a2 S = some R → zC (ia_P0 L xs fm) (d + 2 * g + 113) 12075 [.ref 41, .int a0, .int a1, .int a2] (h, t) (zQi zDr h0 t R) := by
  intro g
  induction g with
  | zero => intro a0 a1 a2 h S R hE hf; cases hf
  | succ g ih => intro a0 a1 a2 h S R hE hf; exact (w_X12_opensBy_o hn1 hn2 (d + 2 * g) ih hE hf).mono (by omega)
def f_X12_opensFirst (a0 : Int32) (a1 : Int32) (a2 : Int32) (a3 : Int32) (S : zS) : Option (Int32 × zS) := f_X12_opensFirst_o (f_X12_opensBy_g 16) a0 a1 a2 a3 S
theorem w_X12_opensFirst {L : Nat} {xs : Nat → Int32} {fm : Bool} {h0 : Nat → va_E} {t : Nat × Nat × Nat} (hn1 : 64 ≤ t.1) (hn2 : t.1 ≤ 1000000) (d : Nat) {h : Nat → va_E} {S : zS} (hE : zE zDr h0 S (h, t)) {a0 : Int32} {a1 : Int32} {a2 : Int32} {a3 : Int32} {R : Int32 × zS} (hf : f_X12_opensFirst a0 a1 a2 a3 S = some R) : zC (ia_P0 L xs fm) (d + 146) 12071 [.ref 41, .int a0, .int a1, .int a2, .int a3] (h, t) (zQi zDr h0 t R) :=
  (w_X12_opensFirst_o hn1 hn2 (d + 2 * 16) (w_X12_opensBy_g hn1 hn2 d 16) hE hf).mono (by omega)
def f_X12_soonest_L94 (ex : Int32 → zS → Option (Int32 × zS)) (i1 : Int32) (i2 : Int32) (i3 : Int32) : Nat → Int32 → zS → Option (Int32 × zS)
  | 0, _, _ => none
  | k + 1, x4, S =>
    if 66 ≤ x4 then
    ex x4 S
    else
    if ia_in x4 66 = true then
    if ia_in x4 264 = true then
    zl (sV S 59 (x4.toNatClampNeg) (S.1 54 x4.toNatClampNeg)) fun S18 =>
    zl (x4 + 1) fun (y19 : Int32) =>
    f_X12_soonest_L94 ex i1 i2 i3 k y19 S18
    else none
    else none
def f_X12_soonest_L133 (ex : Int32 → Int32 → zS → Option (Int32 × zS)) (i1 : Int32) (i2 : Int32) (i3 : Int32) : Nat → Int32 → Int32 → zS → Option (Int32 × zS)
  | 0, _, _, _ => none
  | k + 1, x4, x5, S =>
    if 160 ≤ x5 then
    zl (x4 + 1) fun (y24 : Int32) =>
    if i1 < y24 then
    ex y24 x5 S
    else
    f_X12_soonest_L133 ex i1 i2 i3 k y24 0 S
    else
    zb (f_X12_opensFirst x5 x4 0 i2 S) fun r27 S26 =>
    if r27 = 0 then
    zl (x5 + 1) fun (y30 : Int32) =>
    f_X12_soonest_L133 ex i1 i2 i3 k x4 y30 S26
    else
    if ¬ i3 = 0 then
    some (x5, S26)
    else
    some (x4, S26)
def f_X12_soonest_L124 (ex : Int32 → zS → Option (Int32 × zS)) (i1 : Int32) (i2 : Int32) (i3 : Int32) : Nat → Int32 → zS → Option (Int32 × zS)
  | 0, _, _ => none
  | k + 1, x4, S =>
    if i1 < x4 then
    ex x4 S
    else
    f_X12_soonest_L133 (fun (q33 : Int32) (q34 : Int32) (S32 : zS) =>
    ex q33 S32) i1 i2 i3 zN x4 0 S
def f_X12_soonest (v1 : Int32) (v2 : Int32) (v3 : Int32) (S : zS) : Option (Int32 × zS) :=
zl (sV S 41 0 0) fun S1 =>
if (S1.1 41 24) = 0 then
some ((-1000000), S1)
else
zb (f_X12_isIn (v1.toInt64) 1 3 S1) fun r4 S3 =>
if r4 = 0 then
some ((-1000000), S3)
else
zb (f_X12_isIn (v3.toInt64) 0 1 S3) fun r8 S7 =>
if r8 = 0 then
some ((-1000000), S7)
else
if ia_in ((7 * (S7.1 54 64)) + 6) 66 = true then
if ¬ (S7.1 54 ((7 * (S7.1 54 64)) + 6).toNatClampNeg) = 1 then
if ia_in ((7 * (S7.1 54 64)) + 5) 66 = true then
if ¬ (S7.1 54 ((7 * (S7.1 54 64)) + 5).toNatClampNeg) = 1 then
f_X12_soonest_L94 (fun (q21 : Int32) (S20 : zS) =>
f_X12_soonest_L124 (fun (q36 : Int32) (S35 : zS) =>
some ((-1000000), S35)) v1 v2 v3 zN 1 S20) v1 v2 v3 zN 0 S7
else
if ¬ v3 = 0 then
some ((-1), S7)
else
some (0, S7)
else none
else
some ((-1000000), S7)
else none
theorem w_X12_soonest_L94 {L : Nat} {xs : Nat → Int32} {fm : Bool} {h0 : Nat → va_E} {t : Nat × Nat × Nat} (hn1 : 64 ≤ t.1) (hn2 : t.1 ≤ 1000000) (d : Nat) {ex : Int32 → zS → Option (Int32 × zS)} {i1 : Int32} {i2 : Int32} {i3 : Int32} {R : Int32 × zS} (hex : ∀ (x4 : Int32) (S : zS) (h : Nat → va_E), zE zDr h0 S (h, t) → ex x4 S = some R → zW (ia_P0 L xs fm) ia_nx (d + 146) 12 false cX12_soonest 6 (some .int) 121 [(0, .ref 41), (1, .int i1), (2, .int i2), (3, .int i3), (4, .int x4)] [] (h, t) (zQi zDr h0 t R)) : ∀ (k : Nat) (x4 : Int32) (S : zS) (h : Nat → va_E), zE zDr h0 S (h, t) → f_X12_soonest_L94 ex i1 i2 i3 k x4 S = some R → zW (ia_P0 L xs fm) ia_nx (d + 146) 12 false cX12_soonest 6 (some .int) 94 [(0, .ref 41), (1, .int i1), (2, .int i2), (3, .int i3), (4, .int x4)] [] (h, t) (zQi zDr h0 t R) := by
  intro k
  induction k with
  | zero => intro x4 S h hE hf; cases hf
  | succ k ih =>
    intro x4 S h hE hf
    unfold f_X12_soonest_L94 at hf
    refine z_iload dX12_soonest_94 rfl ?_
    refine z_bipush (v := 66) dX12_soonest_96 (by decide) ?_
    by_cases c15 : 66 ≤ x4
    · have hf := zif_t hf c15
      refine z_icmp_ge_t (tgt := 121) dX12_soonest_98 (by decide) c15 ?_
      exact zW.sub (hex x4 S _ hE hf) [0, 1, 2, 3, 4] rfl rfl rfl rfl
    · have hf := zif_f hf c15
      refine z_icmp_ge_f (tgt := 121) dX12_soonest_98 (by decide) c15 ?_
      refine z_aload_n dX12_soonest_101 rfl ?_
      refine z_getC dX12_soonest_102 tF_12_80 hE dr_41 rfl rfl ?_
      refine z_iload dX12_soonest_105 rfl ?_
      refine z_aload_n dX12_soonest_107 rfl ?_
      refine z_getC dX12_soonest_108 tF_12_61 hE dr_41 rfl rfl ?_
      refine z_iload dX12_soonest_111 rfl ?_
      obtain ⟨b16, hf⟩ := zchk hf
      refine z_ialoadL dX12_soonest_113 hE dr_54 b16 rfl ?_
      obtain ⟨b17, hf⟩ := zchk hf
      obtain ⟨S18, eS18, hf⟩ := zl_some hf
      refine z_iastoreL (i := x4.toNatClampNeg) dX12_soonest_114 hE dr_59 b17 rfl (fun h hE => ?_)
      rw [← eS18] at hE
      obtain ⟨y19, ey19, hf⟩ := zl_some hf
      refine z_iincY (v := 1) (y := y19) (lv' := [(4, .int y19), (0, .ref 41), (1, .int i1), (2, .int i2), (3, .int i3)]) dX12_soonest_115 rfl (by decide) (by decide) ey19 rfl ?_
      refine z_goto (tgt := 94) dX12_soonest_118 (by decide) ?_
      exact zW.sub (ih y19 S18 _ hE hf) [1, 2, 3, 4, 0] rfl rfl rfl rfl
theorem w_X12_soonest_L133 {L : Nat} {xs : Nat → Int32} {fm : Bool} {h0 : Nat → va_E} {t : Nat × Nat × Nat} (hn1 : 64 ≤ t.1) (hn2 : t.1 ≤ 1000000) (d : Nat) {ex : Int32 → Int32 → zS → Option (Int32 × zS)} {i1 : Int32} {i2 : Int32} {i3 : Int32} {R : Int32 × zS} (hex : ∀ (x4 : Int32) (x5 : Int32) (S : zS) (h : Nat → va_E), zE zDr h0 S (h, t) → ex x4 x5 S = some R → zW (ia_P0 L xs fm) ia_nx (d + 146) 12 false cX12_soonest 6 (some .int) 178 [(0, .ref 41), (1, .int i1), (2, .int i2), (3, .int i3), (4, .int x4), (5, .int x5)] [] (h, t) (zQi zDr h0 t R)) : ∀ (k : Nat) (x4 : Int32) (x5 : Int32) (S : zS) (h : Nat → va_E), zE zDr h0 S (h, t) → f_X12_soonest_L133 ex i1 i2 i3 k x4 x5 S = some R → zW (ia_P0 L xs fm) ia_nx (d + 146) 12 false cX12_soonest 6 (some .int) 133 [(0, .ref 41), (1, .int i1), (2, .int i2), (3, .int i3), (4, .int x4), (5, .int x5)] [] (h, t) (zQi zDr h0 t R) := by
  intro k
  induction k with
  | zero => intro x4 x5 S h hE hf; cases hf
  | succ k ih =>
    intro x4 x5 S h hE hf
    unfold f_X12_soonest_L133 at hf
    refine z_iload dX12_soonest_133 rfl ?_
    refine z_sipush (v := 160) dX12_soonest_135 (by decide) ?_
    by_cases c23 : 160 ≤ x5
    · have hf := zif_t hf c23
      refine z_icmp_ge_t (tgt := 172) dX12_soonest_138 (by decide) c23 ?_
      obtain ⟨y24, ey24, hf⟩ := zl_some hf
      refine z_iincY (v := 1) (y := y24) (lv' := [(4, .int y24), (0, .ref 41), (1, .int i1), (2, .int i2), (3, .int i3), (5, .int x5)]) dX12_soonest_172 rfl (by decide) (by decide) ey24 rfl ?_
      refine z_goto (tgt := 124) dX12_soonest_175 (by decide) ?_
      refine z_iload dX12_soonest_124 rfl ?_
      refine z_iload_n dX12_soonest_126 rfl ?_
      by_cases c25 : i1 < y24
      · have hf := zif_t hf c25
        refine z_icmp_gt_t (tgt := 178) dX12_soonest_127 (by decide) c25 ?_
        exact zW.sub (hex y24 x5 S _ hE hf) [1, 2, 3, 4, 0, 5] rfl rfl rfl rfl
      · have hf := zif_f hf c25
        refine z_icmp_gt_f (tgt := 178) dX12_soonest_127 (by decide) c25 ?_
        refine z_iconst (v := 0) dX12_soonest_130 (by decide) ?_
        refine z_istore (lv' := [(5, .int 0), (4, .int y24), (0, .ref 41), (1, .int i1), (2, .int i2), (3, .int i3)]) dX12_soonest_131 (by decide) rfl ?_
        exact zW.sub (ih y24 0 S _ hE hf) [2, 3, 4, 5, 1, 0] rfl rfl rfl rfl
    · have hf := zif_f hf c23
      refine z_icmp_ge_f (tgt := 172) dX12_soonest_138 (by decide) c23 ?_
      refine z_aload_n dX12_soonest_141 rfl ?_
      refine z_iload dX12_soonest_142 rfl ?_
      refine z_iload dX12_soonest_144 rfl ?_
      refine z_iconst (v := 0) dX12_soonest_146 (by decide) ?_
      refine z_iload_n dX12_soonest_147 rfl ?_
      obtain ⟨r27, S26, k28, hf⟩ := zb_some hf
      refine z_callVi dX12_soonest_148 tM_12_371 mt_12071 (Nat.le_of_ble_eq_true rfl) rfl rfl (z_recv hE dr_41 rfl) rfl (ia_oks_le hn1 rfl) (Nat.le_of_ble_eq_true rfl) (w_X12_opensFirst hn1 hn2 (d + 0) hE k28) (fun h hE => ?_)
      by_cases c29 : r27 = 0
      · have hf := zif_t hf c29
        refine z_if_eq_t (tgt := 166) dX12_soonest_151 (by decide) c29 ?_
        obtain ⟨y30, ey30, hf⟩ := zl_some hf
        refine z_iincY (v := 1) (y := y30) (lv' := [(5, .int y30), (0, .ref 41), (1, .int i1), (2, .int i2), (3, .int i3), (4, .int x4)]) dX12_soonest_166 rfl (by decide) (by decide) ey30 rfl ?_
        refine z_goto (tgt := 133) dX12_soonest_169 (by decide) ?_
        exact zW.sub (ih x4 y30 S26 _ hE hf) [1, 2, 3, 4, 5, 0] rfl rfl rfl rfl
      · have hf := zif_f hf c29
        refine z_if_eq_f (tgt := 166) dX12_soonest_151 (by decide) c29 ?_
        refine z_iload_n dX12_soonest_154 rfl ?_
        by_cases c31 : ¬ i3 = 0
        · have hf := zif_t hf c31
          refine z_if_ne_t (tgt := 163) dX12_soonest_155 (by decide) c31 ?_
          refine z_iload dX12_soonest_163 rfl ?_
          have e_ := Option.some.inj hf
          subst e_
          exact z_ireturn dX12_soonest_165 rfl ⟨h, rfl, rfl, hE⟩
        · have hf := zif_f hf c31
          refine z_if_ne_f (tgt := 163) dX12_soonest_155 (by decide) c31 ?_
          refine z_iload dX12_soonest_158 rfl ?_
          refine z_goto (tgt := 165) dX12_soonest_160 (by decide) ?_
          have e_ := Option.some.inj hf
          subst e_
          exact z_ireturn dX12_soonest_165 rfl ⟨h, rfl, rfl, hE⟩
theorem w_X12_soonest_L124 {L : Nat} {xs : Nat → Int32} {fm : Bool} {h0 : Nat → va_E} {t : Nat × Nat × Nat} (hn1 : 64 ≤ t.1) (hn2 : t.1 ≤ 1000000) (d : Nat) {ex : Int32 → zS → Option (Int32 × zS)} {i1 : Int32} {i2 : Int32} {i3 : Int32} {R : Int32 × zS} (hex : ∀ (x4 : Int32) (S : zS) (h : Nat → va_E), zE zDr h0 S (h, t) → ex x4 S = some R → zW (ia_P0 L xs fm) ia_nx (d + 146) 12 false cX12_soonest 6 (some .int) 178 [(0, .ref 41), (1, .int i1), (2, .int i2), (3, .int i3), (4, .int x4)] [] (h, t) (zQi zDr h0 t R)) : ∀ (k : Nat) (x4 : Int32) (S : zS) (h : Nat → va_E), zE zDr h0 S (h, t) → f_X12_soonest_L124 ex i1 i2 i3 k x4 S = some R → zW (ia_P0 L xs fm) ia_nx (d + 146) 12 false cX12_soonest 6 (some .int) 124 [(0, .ref 41), (1, .int i1), (2, .int i2), (3, .int i3), (4, .int x4)] [] (h, t) (zQi zDr h0 t R) := by
  intro k
  induction k with
  | zero => intro x4 S h hE hf; cases hf
  | succ k ih =>
    intro x4 S h hE hf
    unfold f_X12_soonest_L124 at hf
    refine z_iload dX12_soonest_124 rfl ?_
    refine z_iload_n dX12_soonest_126 rfl ?_
    by_cases c22 : i1 < x4
    · have hf := zif_t hf c22
      refine z_icmp_gt_t (tgt := 178) dX12_soonest_127 (by decide) c22 ?_
      exact zW.sub (hex x4 S _ hE hf) [0, 1, 2, 3, 4] rfl rfl rfl rfl
    · have hf := zif_f hf c22
      refine z_icmp_gt_f (tgt := 178) dX12_soonest_127 (by decide) c22 ?_
      refine z_iconst (v := 0) dX12_soonest_130 (by decide) ?_
      refine z_istore (lv' := [(5, .int 0), (0, .ref 41), (1, .int i1), (2, .int i2), (3, .int i3), (4, .int x4)]) dX12_soonest_131 (by decide) rfl ?_
      refine zW.sub (w_X12_soonest_L133 hn1 hn2 d (fun q33 q34 S32 h hE hf => ?_) zN x4 0 S h hE hf) [1, 2, 3, 4, 5, 0] rfl rfl rfl rfl
      try dsimp only at hf
      exact zW.sub (hex q33 S32 _ hE hf) [0, 1, 2, 3, 4] rfl rfl rfl rfl
theorem w_X12_soonest {L : Nat} {xs : Nat → Int32} {fm : Bool} {h0 : Nat → va_E} {t : Nat × Nat × Nat} (hn1 : 64 ≤ t.1) (hn2 : t.1 ≤ 1000000) (d : Nat) {h : Nat → va_E} {S : zS} (hE : zE zDr h0 S (h, t)) {v1 : Int32} {v2 : Int32} {v3 : Int32} {R : Int32 × zS} (hf : f_X12_soonest v1 v2 v3 S = some R) : zC (ia_P0 L xs fm) (d + 147) 12070 [.ref 41, .int v1, .int v2, .int v3] (h, t) (zQi zDr h0 t R) := by
  refine zC_of mt_12070 nn_12070 (Nat.le_of_ble_eq_true rfl) ?_
  refine zW_lv (lv' := [(0, .ref 41), (1, .int v1), (2, .int v2), (3, .int v3)]) rfl ?_
  unfold f_X12_soonest at hf
  refine z_aload_n dX12_soonest_0 rfl ?_
  refine z_iconst (v := 0) dX12_soonest_1 (by decide) ?_
  obtain ⟨S1, eS1, hf⟩ := zl_some hf
  refine z_putI dX12_soonest_2 tF_12_93 hE dr_41 rfl rfl rfl rfl (fun h hE => ?_)
  rw [← eS1] at hE
  refine z_aload_n dX12_soonest_5 rfl ?_
  refine z_getI dX12_soonest_6 tF_12_285 hE dr_41 rfl rfl ?_
  by_cases c2 : (S1.1 41 24) = 0
  · have hf := zif_t hf c2
    refine z_if_eq_t (tgt := 56) dX12_soonest_9 (by decide) c2 ?_
    refine z_ldcw dX12_soonest_56 tK_12_389 ?_
    have e_ := Option.some.inj hf
    subst e_
    exact z_ireturn dX12_soonest_59 rfl ⟨h, rfl, rfl, hE⟩
  · have hf := zif_f hf c2
    refine z_if_eq_f (tgt := 56) dX12_soonest_9 (by decide) c2 ?_
    refine z_iload_n dX12_soonest_12 rfl ?_
    refine z_i2l dX12_soonest_13 ?_
    refine z_lconst (v := 1) dX12_soonest_14 (by decide) ?_
    refine z_ldc2 dX12_soonest_15 tK_12_369 ?_
    obtain ⟨r4, S3, k5, hf⟩ := zb_some hf
    refine z_callSi dX12_soonest_18 tM_12_214 (by decide) mt_12007 (Nat.le_of_ble_eq_true rfl) rfl rfl (ia_oks_le hn1 rfl) (Nat.le_of_ble_eq_true rfl) (w_X12_isIn hn1 hn2 (d + 145) hE k5) (fun h hE => ?_)
    by_cases c6 : r4 = 0
    · have hf := zif_t hf c6
      refine z_if_eq_t (tgt := 56) dX12_soonest_21 (by decide) c6 ?_
      refine z_ldcw dX12_soonest_56 tK_12_389 ?_
      have e_ := Option.some.inj hf
      subst e_
      exact z_ireturn dX12_soonest_59 rfl ⟨h, rfl, rfl, hE⟩
    · have hf := zif_f hf c6
      refine z_if_eq_f (tgt := 56) dX12_soonest_21 (by decide) c6 ?_
      refine z_iload_n dX12_soonest_24 rfl ?_
      refine z_i2l dX12_soonest_25 ?_
      refine z_lconst (v := 0) dX12_soonest_26 (by decide) ?_
      refine z_lconst (v := 1) dX12_soonest_27 (by decide) ?_
      obtain ⟨r8, S7, k9, hf⟩ := zb_some hf
      refine z_callSi dX12_soonest_28 tM_12_214 (by decide) mt_12007 (Nat.le_of_ble_eq_true rfl) rfl rfl (ia_oks_le hn1 rfl) (Nat.le_of_ble_eq_true rfl) (w_X12_isIn hn1 hn2 (d + 145) hE k9) (fun h hE => ?_)
      by_cases c10 : r8 = 0
      · have hf := zif_t hf c10
        refine z_if_eq_t (tgt := 56) dX12_soonest_31 (by decide) c10 ?_
        refine z_ldcw dX12_soonest_56 tK_12_389 ?_
        have e_ := Option.some.inj hf
        subst e_
        exact z_ireturn dX12_soonest_59 rfl ⟨h, rfl, rfl, hE⟩
      · have hf := zif_f hf c10
        refine z_if_eq_f (tgt := 56) dX12_soonest_31 (by decide) c10 ?_
        refine z_aload_n dX12_soonest_34 rfl ?_
        refine z_getC dX12_soonest_35 tF_12_61 hE dr_41 rfl rfl ?_
        refine z_bipush (v := 7) dX12_soonest_38 (by decide) ?_
        refine z_aload_n dX12_soonest_40 rfl ?_
        refine z_getC dX12_soonest_41 tF_12_61 hE dr_41 rfl rfl ?_
        refine z_bipush (v := 64) dX12_soonest_44 (by decide) ?_
        refine z_ialoadL (i := 64) dX12_soonest_46 hE dr_54 (by decide) (by decide) ?_
        refine z_imul dX12_soonest_47 ?_
        refine z_bipush (v := 6) dX12_soonest_48 (by decide) ?_
        refine z_iadd dX12_soonest_50 ?_
        obtain ⟨b11, hf⟩ := zchk hf
        refine z_ialoadL dX12_soonest_51 hE dr_54 b11 rfl ?_
        refine z_iconst (v := 1) dX12_soonest_52 (by decide) ?_
        by_cases c12 : ¬ (S7.1 54 ((7 * (S7.1 54 64)) + 6).toNatClampNeg) = 1
        · have hf := zif_t hf c12
          refine z_icmp_ne_t (tgt := 60) dX12_soonest_53 (by decide) c12 ?_
          refine z_aload_n dX12_soonest_60 rfl ?_
          refine z_getC dX12_soonest_61 tF_12_61 hE dr_41 rfl rfl ?_
          refine z_bipush (v := 7) dX12_soonest_64 (by decide) ?_
          refine z_aload_n dX12_soonest_66 rfl ?_
          refine z_getC dX12_soonest_67 tF_12_61 hE dr_41 rfl rfl ?_
          refine z_bipush (v := 64) dX12_soonest_70 (by decide) ?_
          refine z_ialoadL (i := 64) dX12_soonest_72 hE dr_54 (by decide) (by decide) ?_
          refine z_imul dX12_soonest_73 ?_
          refine z_iconst (v := 5) dX12_soonest_74 (by decide) ?_
          refine z_iadd dX12_soonest_75 ?_
          obtain ⟨b13, hf⟩ := zchk hf
          refine z_ialoadL dX12_soonest_76 hE dr_54 b13 rfl ?_
          refine z_iconst (v := 1) dX12_soonest_77 (by decide) ?_
          by_cases c14 : ¬ (S7.1 54 ((7 * (S7.1 54 64)) + 5).toNatClampNeg) = 1
          · have hf := zif_t hf c14
            refine z_icmp_ne_t (tgt := 91) dX12_soonest_78 (by decide) c14 ?_
            refine z_iconst (v := 0) dX12_soonest_91 (by decide) ?_
            refine z_istore (lv' := [(4, .int 0), (0, .ref 41), (1, .int v1), (2, .int v2), (3, .int v3)]) dX12_soonest_92 (by decide) rfl ?_
            refine zW.sub (w_X12_soonest_L94 hn1 hn2 d (fun q21 S20 h hE hf => ?_) zN 0 S7 h hE hf) [1, 2, 3, 4, 0] rfl rfl rfl rfl
            try dsimp only at hf
            refine z_iconst (v := 1) dX12_soonest_121 (by decide) ?_
            refine z_istore (lv' := [(4, .int 1), (0, .ref 41), (1, .int v1), (2, .int v2), (3, .int v3)]) dX12_soonest_122 (by decide) rfl ?_
            refine zW.sub (w_X12_soonest_L124 hn1 hn2 d (fun q36 S35 h hE hf => ?_) zN 1 S20 h hE hf) [1, 2, 3, 4, 0] rfl rfl rfl rfl
            try dsimp only at hf
            refine z_ldcw dX12_soonest_178 tK_12_389 ?_
            have e_ := Option.some.inj hf
            subst e_
            exact z_ireturn dX12_soonest_181 rfl ⟨h, rfl, rfl, hE⟩
          · have hf := zif_f hf c14
            refine z_icmp_ne_f (tgt := 91) dX12_soonest_78 (by decide) c14 ?_
            refine z_iload_n dX12_soonest_81 rfl ?_
            by_cases c37 : ¬ v3 = 0
            · have hf := zif_t hf c37
              refine z_if_ne_t (tgt := 89) dX12_soonest_82 (by decide) c37 ?_
              refine z_iconst (v := (-1)) dX12_soonest_89 (by decide) ?_
              have e_ := Option.some.inj hf
              subst e_
              exact z_ireturn dX12_soonest_90 rfl ⟨h, rfl, rfl, hE⟩
            · have hf := zif_f hf c37
              refine z_if_ne_f (tgt := 89) dX12_soonest_82 (by decide) c37 ?_
              refine z_iconst (v := 0) dX12_soonest_85 (by decide) ?_
              refine z_goto (tgt := 90) dX12_soonest_86 (by decide) ?_
              have e_ := Option.some.inj hf
              subst e_
              exact z_ireturn dX12_soonest_90 rfl ⟨h, rfl, rfl, hE⟩
        · have hf := zif_f hf c12
          refine z_icmp_ne_f (tgt := 60) dX12_soonest_53 (by decide) c12 ?_
          refine z_ldcw dX12_soonest_56 tK_12_389 ?_
          have e_ := Option.some.inj hf
          subst e_
          exact z_ireturn dX12_soonest_59 rfl ⟨h, rfl, rfl, hE⟩
end ZX
