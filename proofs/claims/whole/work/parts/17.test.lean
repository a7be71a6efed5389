section ZX
def f_X7_handCell (o : Nat) (v1 : Int32) (v2 : Int32) (S : zS) : Option (Int32 × zS) :=
if ia_in ((28 + (v1 * 2)) + v2) 66 = true then
some (S.1 (o + 1) ((28 + (v1 * 2)) + v2).toNatClampNeg, S)
else none
theorem w_X7_handCell {L : Nat} {xs : Nat → Int32} {fm : Value} {h0 : Nat → va_E} {t : Nat × Nat × Nat} (hn1 : 64 ≤ t.1) (hn2 : t.1 ≤ 1000000) (d : Nat) {o : Nat} (ho_o : zSc t.1 o) {h : Nat → va_E} {S : zS} (hE : zE (zDc t.1) h0 S (h, t)) {v1 : Int32} {v2 : Int32} {R : Int32 × zS} (hf : f_X7_handCell o v1 v2 S = some R) : zC (ia_P0 L xs fm) (d + 1) 7003 [.ref o, .int v1, .int v2] (h, t) (zQi (zDc t.1) h0 t R) := by
  refine zC_of mt_7003 nn_7003 (Nat.le_of_ble_eq_true rfl) ?_
  refine zW_lv (lv' := [(0, .ref o), (1, .int v1), (2, .int v2)]) rfl ?_
  unfold f_X7_handCell at hf
  refine z_aload_n dX7_handCell_0 rfl ?_
  refine z_getC dX7_handCell_1 tF_7_9 hE ho_o.1 rfl rfl ?_
  refine z_bipush (v := 28) dX7_handCell_4 (by decide) ?_
  refine z_iload_n dX7_handCell_6 rfl ?_
  refine z_iconst (v := 2) dX7_handCell_7 (by decide) ?_
  refine z_imul dX7_handCell_8 ?_
  refine z_iadd dX7_handCell_9 ?_
  refine z_iload_n dX7_handCell_10 rfl ?_
  refine z_iadd dX7_handCell_11 ?_
  obtain ⟨b1, hf⟩ := zchk hf
  refine z_ialoadL dX7_handCell_12 hE ho_o.2.1 b1 rfl ?_
  have e_ := Option.some.inj hf
  subst e_
  exact z_ireturn dX7_handCell_13 rfl ⟨h, rfl, rfl, hE⟩
def f_X10_cellOf (v0 : Int32) (v1 : Int32) (v2 : Int32) (S : zS) : Option (Int32 × zS) :=
if ia_in v0 3 = true then
if ia_in v0 3 = true then
some (((zc_1000003 v0.toNatClampNeg) + (v1 * (zc_1000002 v0.toNatClampNeg))) + v2, S)
else none
else none
theorem w_X10_cellOf {L : Nat} {xs : Nat → Int32} {fm : Value} {h0 : Nat → va_E} {t : Nat × Nat × Nat} (hn1 : 64 ≤ t.1) (hn2 : t.1 ≤ 1000000) (d : Nat) {h : Nat → va_E} {S : zS} (hE : zE (zDc t.1) h0 S (h, t)) {v0 : Int32} {v1 : Int32} {v2 : Int32} {R : Int32 × zS} (hf : f_X10_cellOf v0 v1 v2 S = some R) : zC (ia_P0 L xs fm) (d + 1) 10002 [.int v0, .int v1, .int v2] (h, t) (zQi (zDc t.1) h0 t R) := by
  refine zC_of mt_10002 nn_10002 (Nat.le_of_ble_eq_true rfl) ?_
  refine zW_lv (lv' := [(0, .int v0), (1, .int v1), (2, .int v2)]) rfl ?_
  unfold f_X10_cellOf at hf
  refine z_getstatic dX10_cellOf_0 tS_10_30 ?_
  refine z_iload_n dX10_cellOf_3 rfl ?_
  obtain ⟨b1, hf⟩ := zchk hf
  refine z_ialoadC dX10_cellOf_4 (by decide) hn2 hc_1000003 b1 ?_
  refine z_iload_n dX10_cellOf_5 rfl ?_
  refine z_getstatic dX10_cellOf_6 tS_10_33 ?_
  refine z_iload_n dX10_cellOf_9 rfl ?_
  obtain ⟨b2, hf⟩ := zchk hf
  refine z_ialoadC dX10_cellOf_10 (by decide) hn2 hc_1000002 b2 ?_
  refine z_imul dX10_cellOf_11 ?_
  refine z_iadd dX10_cellOf_12 ?_
  refine z_iload_n dX10_cellOf_13 rfl ?_
  refine z_iadd dX10_cellOf_14 ?_
  have e_ := Option.some.inj hf
  subst e_
  exact z_ireturn dX10_cellOf_15 rfl ⟨h, rfl, rfl, hE⟩
def f_X10_item (v1 : Int32) (v2 : Int32) (v3 : Int32) (S : zS) : Option (Int32 × zS) :=
zb (f_X10_cellOf v1 v2 v3 S) fun r2 S1 =>
if ia_in r2 62 = true then
some (S1.1 13 r2.toNatClampNeg, S1)
else none
theorem w_X10_item {L : Nat} {xs : Nat → Int32} {fm : Value} {h0 : Nat → va_E} {t : Nat × Nat × Nat} (hn1 : 64 ≤ t.1) (hn2 : t.1 ≤ 1000000) (d : Nat) {h : Nat → va_E} {S : zS} (hE : zE (zDc t.1) h0 S (h, t)) {v1 : Int32} {v2 : Int32} {v3 : Int32} {R : Int32 × zS} (hf : f_X10_item v1 v2 v3 S = some R) : zC (ia_P0 L xs fm) (d + 2) 10004 [.ref 11, .int v1, .int v2, .int v3] (h, t) (zQi (zDc t.1) h0 t R) := by
  refine zC_of mt_10004 nn_10004 (Nat.le_of_ble_eq_true rfl) ?_
  refine zW_lv (lv' := [(0, .ref 11), (1, .int v1), (2, .int v2), (3, .int v3)]) rfl ?_
  unfold f_X10_item at hf
  refine z_aload_n dX10_item_0 rfl ?_
  refine z_getC dX10_item_1 tF_10_15 hE dc_11 rfl rfl ?_
  refine z_iload_n dX10_item_4 rfl ?_
  refine z_iload_n dX10_item_5 rfl ?_
  refine z_iload_n dX10_item_6 rfl ?_
  obtain ⟨r2, S1, k3, hf⟩ := zb_some hf
  refine z_callSi dX10_item_7 tM_10_36 (by decide) mt_10002 (Nat.le_of_ble_eq_true rfl) rfl rfl (ia_oks_le hn1 rfl) (Nat.le_of_ble_eq_true rfl) (w_X10_cellOf hn1 hn2 (d + 0) hE k3) (fun h hE => ?_)
  obtain ⟨b4, hf⟩ := zchk hf
  refine z_ialoadL dX10_item_10 hE dc_13 b4 rfl ?_
  have e_ := Option.some.inj hf
  subst e_
  exact z_ireturn dX10_item_11 rfl ⟨h, rfl, rfl, hE⟩
def f_X7_jarCell (o : Nat) (v1 : Int32) (v2 : Int32) (S : zS) : Option (Int32 × zS) :=
if ia_in ((v1 * 7) + v2) 66 = true then
some (S.1 (o + 1) ((v1 * 7) + v2).toNatClampNeg, S)
else none
theorem w_X7_jarCell {L : Nat} {xs : Nat → Int32} {fm : Value} {h0 : Nat → va_E} {t : Nat × Nat × Nat} (hn1 : 64 ≤ t.1) (hn2 : t.1 ≤ 1000000) (d : Nat) {o : Nat} (ho_o : zSc t.1 o) {h : Nat → va_E} {S : zS} (hE : zE (zDc t.1) h0 S (h, t)) {v1 : Int32} {v2 : Int32} {R : Int32 × zS} (hf : f_X7_jarCell o v1 v2 S = some R) : zC (ia_P0 L xs fm) (d + 1) 7007 [.ref o, .int v1, .int v2] (h, t) (zQi (zDc t.1) h0 t R) := by
  refine zC_of mt_7007 nn_7007 (Nat.le_of_ble_eq_true rfl) ?_
  refine zW_lv (lv' := [(0, .ref o), (1, .int v1), (2, .int v2)]) rfl ?_
  unfold f_X7_jarCell at hf
  refine z_aload_n dX7_jarCell_0 rfl ?_
  refine z_getC dX7_jarCell_1 tF_7_9 hE ho_o.1 rfl rfl ?_
  refine z_iload_n dX7_jarCell_4 rfl ?_
  refine z_bipush (v := 7) dX7_jarCell_5 (by decide) ?_
  refine z_imul dX7_jarCell_7 ?_
  refine z_iload_n dX7_jarCell_8 rfl ?_
  refine z_iadd dX7_jarCell_9 ?_
  obtain ⟨b1, hf⟩ := zchk hf
  refine z_ialoadL dX7_jarCell_10 hE ho_o.2.1 b1 rfl ?_
  have e_ := Option.some.inj hf
  subst e_
  exact z_ireturn dX7_jarCell_11 rfl ⟨h, rfl, rfl, hE⟩
def f_X2_plainWorth  (S : zS) : Option (Int32 × zS) :=
zl (fun (x3 : Int32) =>
some (((((S.1 15 0) + (S.1 15 5)) - (4 * (S.1 15 2))) - (3 * x3)) - (S.1 15 4), S)) fun J2 =>
if (S.1 15 3) ≤ (S.1 15 1) then
J2 0
else
J2 ((S.1 15 3) - (S.1 15 1))
theorem w_X2_plainWorth {L : Nat} {xs : Nat → Int32} {fm : Value} {h0 : Nat → va_E} {t : Nat × Nat × Nat} (hn1 : 64 ≤ t.1) (hn2 : t.1 ≤ 1000000) (d : Nat) {h : Nat → va_E} {S : zS} (hE : zE (zDc t.1) h0 S (h, t)) {R : Int32 × zS} (hf : f_X2_plainWorth  S = some R) : zC (ia_P0 L xs fm) (d + 1) 2001 [.ref 14] (h, t) (zQi (zDc t.1) h0 t R) := by
  refine zC_of mt_2001 nn_2001 (Nat.le_of_ble_eq_true rfl) ?_
  refine zW_lv (lv' := [(0, .ref 14)]) rfl ?_
  unfold f_X2_plainWorth at hf
  refine z_aload_n dX2_plainWorth_0 rfl ?_
  refine z_getC dX2_plainWorth_1 tF_2_9 hE dc_14 rfl rfl ?_
  refine z_iconst (v := 3) dX2_plainWorth_4 (by decide) ?_
  refine z_ialoadL (i := 3) dX2_plainWorth_5 hE dc_15 (by decide) (by decide) ?_
  refine z_aload_n dX2_plainWorth_6 rfl ?_
  refine z_getC dX2_plainWorth_7 tF_2_9 hE dc_14 rfl rfl ?_
  refine z_iconst (v := 1) dX2_plainWorth_10 (by decide) ?_
  refine z_ialoadL (i := 1) dX2_plainWorth_11 hE dc_15 (by decide) (by decide) ?_
  obtain ⟨J2, eJ2, hf⟩ := zl_some hf
  have hJ2 : ∀ (x3 : Int32) (h : Nat → va_E), zE (zDc t.1) h0 S (h, t) → J2 x3 = some R → zW (ia_P0 L xs fm) (d + 0) 2 false cX2_plainWorth 2 (some .int) 32 [(0, .ref 14)] [.int x3] (h, t) (zQi (zDc t.1) h0 t R) := by
    intro x3 h hE hf
    rw [eJ2] at hf
    refine z_istore_n (lv' := [(1, .int x3), (0, .ref 14)]) dX2_plainWorth_32 (by decide) rfl ?_
    refine z_aload_n dX2_plainWorth_33 rfl ?_
    refine z_getC dX2_plainWorth_34 tF_2_9 hE dc_14 rfl rfl ?_
    refine z_iconst (v := 0) dX2_plainWorth_37 (by decide) ?_
    refine z_ialoadL (i := 0) dX2_plainWorth_38 hE dc_15 (by decide) (by decide) ?_
    refine z_aload_n dX2_plainWorth_39 rfl ?_
    refine z_getC dX2_plainWorth_40 tF_2_9 hE dc_14 rfl rfl ?_
    refine z_iconst (v := 5) dX2_plainWorth_43 (by decide) ?_
    refine z_ialoadL (i := 5) dX2_plainWorth_44 hE dc_15 (by decide) (by decide) ?_
    refine z_iadd dX2_plainWorth_45 ?_
    refine z_iconst (v := 4) dX2_plainWorth_46 (by decide) ?_
    refine z_aload_n dX2_plainWorth_47 rfl ?_
    refine z_getC dX2_plainWorth_48 tF_2_9 hE dc_14 rfl rfl ?_
    refine z_iconst (v := 2) dX2_plainWorth_51 (by decide) ?_
    refine z_ialoadL (i := 2) dX2_plainWorth_52 hE dc_15 (by decide) (by decide) ?_
    refine z_imul dX2_plainWorth_53 ?_
    refine z_isub dX2_plainWorth_54 ?_
    refine z_iconst (v := 3) dX2_plainWorth_55 (by decide) ?_
    refine z_iload_n dX2_plainWorth_56 rfl ?_
    refine z_imul dX2_plainWorth_57 ?_
    refine z_isub dX2_plainWorth_58 ?_
    refine z_aload_n dX2_plainWorth_59 rfl ?_
    refine z_getC dX2_plainWorth_60 tF_2_9 hE dc_14 rfl rfl ?_
    refine z_iconst (v := 4) dX2_plainWorth_63 (by decide) ?_
    refine z_ialoadL (i := 4) dX2_plainWorth_64 hE dc_15 (by decide) (by decide) ?_
    refine z_isub dX2_plainWorth_65 ?_
    have e_ := Option.some.inj hf
    subst e_
    exact z_ireturn dX2_plainWorth_66 rfl ⟨h, rfl, rfl, hE⟩
  by_cases c1 : (S.1 15 3) ≤ (S.1 15 1)
  · have hf := zif_t hf c1
    refine z_icmp_le_t (tgt := 31) dX2_plainWorth_12 (by decide) c1 ?_
    refine z_iconst (v := 0) dX2_plainWorth_31 (by decide) ?_
    exact zW.sub (hJ2 0 _ hE hf) [0] rfl rfl rfl rfl
  · have hf := zif_f hf c1
    refine z_icmp_le_f (tgt := 31) dX2_plainWorth_12 (by decide) c1 ?_
    refine z_aload_n dX2_plainWorth_15 rfl ?_
    refine z_getC dX2_plainWorth_16 tF_2_9 hE dc_14 rfl rfl ?_
    refine z_iconst (v := 3) dX2_plainWorth_19 (by decide) ?_
    refine z_ialoadL (i := 3) dX2_plainWorth_20 hE dc_15 (by decide) (by decide) ?_
    refine z_aload_n dX2_plainWorth_21 rfl ?_
    refine z_getC dX2_plainWorth_22 tF_2_9 hE dc_14 rfl rfl ?_
    refine z_iconst (v := 1) dX2_plainWorth_25 (by decide) ?_
    refine z_ialoadL (i := 1) dX2_plainWorth_26 hE dc_15 (by decide) (by decide) ?_
    refine z_isub dX2_plainWorth_27 ?_
    refine z_goto (tgt := 32) dX2_plainWorth_28 (by decide) ?_
    exact zW.sub (hJ2 ((S.1 15 3) - (S.1 15 1)) _ hE hf) [0] rfl rfl rfl rfl
def f_X2_joined (v0 : Int32) (v1 : Int32) (v2 : Int32) (S : zS) : Option (Int32 × zS) :=
if v0.toInt < 38 ∨ 62 < v0.toInt then
some (v1 ||| v2, S)
else
if v0 = 38 then
some (v1 &&& v2, S)
else if v0 = 39 then
some (v1 ||| v2, S)
else if v0 = 40 then
some (v1 ||| v2, S)
else if v0 = 41 then
some (v1 ||| v2, S)
else if v0 = 42 then
if (lg_cmp ((v1.toInt64) * (v2.toInt64)) 1000000) ≤ 0 then
if 0 ≤ (lg_cmp ((v1.toInt64) * (v2.toInt64)) (-1000000)) then
some (((v1.toInt64) * (v2.toInt64)).toInt32, S)
else
some ((-1000000), S)
else
some (1000000, S)
else if v0 = 43 then
if (lg_cmp ((v1.toInt64) + (v2.toInt64)) 1000000) ≤ 0 then
if 0 ≤ (lg_cmp ((v1.toInt64) + (v2.toInt64)) (-1000000)) then
some (((v1.toInt64) + (v2.toInt64)).toInt32, S)
else
some ((-1000000), S)
else
some (1000000, S)
else if v0 = 44 then
some (v1 ||| v2, S)
else if v0 = 45 then
if (lg_cmp ((v1.toInt64) - (v2.toInt64)) 1000000) ≤ 0 then
if 0 ≤ (lg_cmp ((v1.toInt64) - (v2.toInt64)) (-1000000)) then
some (((v1.toInt64) - (v2.toInt64)).toInt32, S)
else
some ((-1000000), S)
else
some (1000000, S)
else if v0 = 46 then
some (v1 ||| v2, S)
else if v0 = 47 then
if ¬ v2 = 0 then
if v2 = 0 then none else
if (lg_cmp ((v1 / v2).toInt64) 1000000) ≤ 0 then
if 0 ≤ (lg_cmp ((v1 / v2).toInt64) (-1000000)) then
some (((v1 / v2).toInt64).toInt32, S)
else
some ((-1000000), S)
else
some (1000000, S)
else
if (lg_cmp 0 1000000) ≤ 0 then
if 0 ≤ (lg_cmp 0 (-1000000)) then
some ((0 : Int64).toInt32, S)
else
some ((-1000000), S)
else
some (1000000, S)
else if v0 = 48 then
some (v1 ||| v2, S)
else if v0 = 49 then
some (v1 ||| v2, S)
else if v0 = 50 then
some (v1 ||| v2, S)
else if v0 = 51 then
some (v1 ||| v2, S)
else if v0 = 52 then
some (v1 ||| v2, S)
else if v0 = 53 then
some (v1 ||| v2, S)
else if v0 = 54 then
some (v1 ||| v2, S)
else if v0 = 55 then
some (v1 ||| v2, S)
else if v0 = 56 then
some (v1 ||| v2, S)
else if v0 = 57 then
some (v1 ||| v2, S)
else if v0 = 58 then
some (v1 ||| v2, S)
else if v0 = 59 then
some (v1 ||| v2, S)
else if v0 = 60 then
if v2 ≤ v1 then
some (0, S)
else
some (1, S)
else if v0 = 61 then
if ¬ v1 = v2 then
some (0, S)
else
some (1, S)
else if v0 = 62 then
if v1 ≤ v2 then
some (0, S)
else
some (1, S)
else none
theorem w_X2_joined {L : Nat} {xs : Nat → Int32} {fm : Value} {h0 : Nat → va_E} {t : Nat × Nat × Nat} (hn1 : 64 ≤ t.1) (hn2 : t.1 ≤ 1000000) (d : Nat) {h : Nat → va_E} {S : zS} (hE : zE (zDc t.1) h0 S (h, t)) {v0 : Int32} {v1 : Int32} {v2 : Int32} {R : Int32 × zS} (hf : f_X2_joined v0 v1 v2 S = some R) : zC (ia_P0 L xs fm) (d + 1) 2004 [.int v0, .int v1, .int v2] (h, t) (zQi (zDc t.1) h0 t R) := by
  refine zC_of mt_2004 nn_2004 (Nat.le_of_ble_eq_true rfl) ?_
  refine zW_lv (lv' := [(0, .int v0), (1, .int v1), (2, .int v2)]) rfl ?_
  unfold f_X2_joined at hf
  refine z_iload_n dX2_joined_0 rfl ?_
  by_cases c1 : v0.toInt < 38 ∨ 62 < v0.toInt
  · have hf := zif_t hf c1
    refine z_tabO (tgt := 196) dX2_joined_1 c1 (by decide) ?_
    refine z_iload_n dX2_joined_196 rfl ?_
    refine z_iload_n dX2_joined_197 rfl ?_
    refine z_ior dX2_joined_198 ?_
    have e_ := Option.some.inj hf
    subst e_
    exact z_ireturn dX2_joined_199 rfl ⟨h, rfl, rfl, hE⟩
  · have hf := zif_f hf c1
    by_cases c2 : v0 = 38
    · have hf := zif_t hf c2
      refine z_tabI (off := 191) (tgt := 192) dX2_joined_1 c1 (by rw [c2]; rfl) (by decide) ?_
      refine z_iload_n dX2_joined_192 rfl ?_
      refine z_iload_n dX2_joined_193 rfl ?_
      refine z_iand dX2_joined_194 ?_
      have e_ := Option.some.inj hf
      subst e_
      exact z_ireturn dX2_joined_195 rfl ⟨h, rfl, rfl, hE⟩
    · have hf := zif_f hf c2
      by_cases c3 : v0 = 39
      · have hf := zif_t hf c3
        refine z_tabI (off := 195) (tgt := 196) dX2_joined_1 c1 (by rw [c3]; rfl) (by decide) ?_
        refine z_iload_n dX2_joined_196 rfl ?_
        refine z_iload_n dX2_joined_197 rfl ?_
        refine z_ior dX2_joined_198 ?_
        have e_ := Option.some.inj hf
        subst e_
        exact z_ireturn dX2_joined_199 rfl ⟨h, rfl, rfl, hE⟩
      · have hf := zif_f hf c3
        by_cases c4 : v0 = 40
        · have hf := zif_t hf c4
          refine z_tabI (off := 195) (tgt := 196) dX2_joined_1 c1 (by rw [c4]; rfl) (by decide) ?_
          refine z_iload_n dX2_joined_196 rfl ?_
          refine z_iload_n dX2_joined_197 rfl ?_
          refine z_ior dX2_joined_198 ?_
          have e_ := Option.some.inj hf
          subst e_
          exact z_ireturn dX2_joined_199 rfl ⟨h, rfl, rfl, hE⟩
        · have hf := zif_f hf c4
          by_cases c5 : v0 = 41
          · have hf := zif_t hf c5
            refine z_tabI (off := 195) (tgt := 196) dX2_joined_1 c1 (by rw [c5]; rfl) (by decide) ?_
            refine z_iload_n dX2_joined_196 rfl ?_
            refine z_iload_n dX2_joined_197 rfl ?_
            refine z_ior dX2_joined_198 ?_
            have e_ := Option.some.inj hf
            subst e_
            exact z_ireturn dX2_joined_199 rfl ⟨h, rfl, rfl, hE⟩
          · have hf := zif_f hf c5
            by_cases c8 : v0 = 42
            · have hf := zif_t hf c8
              refine z_tabI (off := 133) (tgt := 134) dX2_joined_1 c1 (by rw [c8]; rfl) (by decide) ?_
              refine z_iload_n dX2_joined_134 rfl ?_
              refine z_i2l dX2_joined_135 ?_
              refine z_iload_n dX2_joined_136 rfl ?_
              refine z_i2l dX2_joined_137 ?_
              refine z_lmul dX2_joined_138 ?_
              refine z_lstore_n (lv' := [(3, .long ((v1.toInt64) * (v2.toInt64))), (0, .int v0), (1, .int v1), (2, .int v2)]) dX2_joined_139 (by decide) rfl ?_
              refine z_goto (tgt := 200) dX2_joined_140 (by decide) ?_
              refine z_lload_n dX2_joined_200 rfl ?_
              refine z_ldc2 dX2_joined_201 tK_2_26 ?_
              refine z_lcmp dX2_joined_204 ?_
              by_cases c6 : (lg_cmp ((v1.toInt64) * (v2.toInt64)) 1000000) ≤ 0
              · have hf := zif_t hf c6
                refine z_if_le_t (tgt := 213) dX2_joined_205 (by decide) c6 ?_
                refine z_lload_n dX2_joined_213 rfl ?_
                refine z_ldc2 dX2_joined_214 tK_2_29 ?_
                refine z_lcmp dX2_joined_217 ?_
                by_cases c7 : 0 ≤ (lg_cmp ((v1.toInt64) * (v2.toInt64)) (-1000000))
                · have hf := zif_t hf c7
                  refine z_if_ge_t (tgt := 226) dX2_joined_218 (by decide) c7 ?_
                  refine z_lload_n dX2_joined_226 rfl ?_
                  refine z_l2i dX2_joined_227 ?_
                  have e_ := Option.some.inj hf
                  subst e_
                  exact z_ireturn dX2_joined_228 rfl ⟨h, rfl, rfl, hE⟩
                · have hf := zif_f hf c7
                  refine z_if_ge_f (tgt := 226) dX2_joined_218 (by decide) c7 ?_
                  refine z_ldc dX2_joined_221 tK_2_31 ?_
                  refine z_goto (tgt := 228) dX2_joined_223 (by decide) ?_
                  have e_ := Option.some.inj hf
                  subst e_
                  exact z_ireturn dX2_joined_228 rfl ⟨h, rfl, rfl, hE⟩
              · have hf := zif_f hf c6
                refine z_if_le_f (tgt := 213) dX2_joined_205 (by decide) c6 ?_
                refine z_ldc dX2_joined_208 tK_2_28 ?_
                refine z_goto (tgt := 228) dX2_joined_210 (by decide) ?_
                have e_ := Option.some.inj hf
                subst e_
                exact z_ireturn dX2_joined_228 rfl ⟨h, rfl, rfl, hE⟩
            · have hf := zif_f hf c8
              by_cases c11 : v0 = 43
              · have hf := zif_t hf c11
                refine z_tabI (off := 115) (tgt := 116) dX2_joined_1 c1 (by rw [c11]; rfl) (by decide) ?_
                refine z_iload_n dX2_joined_116 rfl ?_
                refine z_i2l dX2_joined_117 ?_
                refine z_iload_n dX2_joined_118 rfl ?_
                refine z_i2l dX2_joined_119 ?_
                refine z_ladd dX2_joined_120 ?_
                refine z_lstore_n (lv' := [(3, .long ((v1.toInt64) + (v2.toInt64))), (0, .int v0), (1, .int v1), (2, .int v2)]) dX2_joined_121 (by decide) rfl ?_
                refine z_goto (tgt := 200) dX2_joined_122 (by decide) ?_
                refine z_lload_n dX2_joined_200 rfl ?_
                refine z_ldc2 dX2_joined_201 tK_2_26 ?_
                refine z_lcmp dX2_joined_204 ?_
                by_cases c9 : (lg_cmp ((v1.toInt64) + (v2.toInt64)) 1000000) ≤ 0
                · have hf := zif_t hf c9
                  refine z_if_le_t (tgt := 213) dX2_joined_205 (by decide) c9 ?_
                  refine z_lload_n dX2_joined_213 rfl ?_
                  refine z_ldc2 dX2_joined_214 tK_2_29 ?_
                  refine z_lcmp dX2_joined_217 ?_
                  by_cases c10 : 0 ≤ (lg_cmp ((v1.toInt64) + (v2.toInt64)) (-1000000))
                  · have hf := zif_t hf c10
                    refine z_if_ge_t (tgt := 226) dX2_joined_218 (by decide) c10 ?_
                    refine z_lload_n dX2_joined_226 rfl ?_
                    refine z_l2i dX2_joined_227 ?_
                    have e_ := Option.some.inj hf
                    subst e_
                    exact z_ireturn dX2_joined_228 rfl ⟨h, rfl, rfl, hE⟩
                  · have hf := zif_f hf c10
                    refine z_if_ge_f (tgt := 226) dX2_joined_218 (by decide) c10 ?_
                    refine z_ldc dX2_joined_221 tK_2_31 ?_
                    refine z_goto (tgt := 228) dX2_joined_223 (by decide) ?_
                    have e_ := Option.some.inj hf
                    subst e_
                    exact z_ireturn dX2_joined_228 rfl ⟨h, rfl, rfl, hE⟩
                · have hf := zif_f hf c9
                  refine z_if_le_f (tgt := 213) dX2_joined_205 (by decide) c9 ?_
                  refine z_ldc dX2_joined_208 tK_2_28 ?_
                  refine z_goto (tgt := 228) dX2_joined_210 (by decide) ?_
                  have e_ := Option.some.inj hf
                  subst e_
                  exact z_ireturn dX2_joined_228 rfl ⟨h, rfl, rfl, hE⟩
              · have hf := zif_f hf c11
                by_cases c12 : v0 = 44
                · have hf := zif_t hf c12
                  refine z_tabI (off := 195) (tgt := 196) dX2_joined_1 c1 (by rw [c12]; rfl) (by decide) ?_
                  refine z_iload_n dX2_joined_196 rfl ?_
                  refine z_iload_n dX2_joined_197 rfl ?_
                  refine z_ior dX2_joined_198 ?_
                  have e_ := Option.some.inj hf
                  subst e_
                  exact z_ireturn dX2_joined_199 rfl ⟨h, rfl, rfl, hE⟩
                · have hf := zif_f hf c12
                  by_cases c15 : v0 = 45
                  · have hf := zif_t hf c15
                    refine z_tabI (off := 124) (tgt := 125) dX2_joined_1 c1 (by rw [c15]; rfl) (by decide) ?_
                    refine z_iload_n dX2_joined_125 rfl ?_
                    refine z_i2l dX2_joined_126 ?_
                    refine z_iload_n dX2_joined_127 rfl ?_
                    refine z_i2l dX2_joined_128 ?_
                    refine z_lsub dX2_joined_129 ?_
                    refine z_lstore_n (lv' := [(3, .long ((v1.toInt64) - (v2.toInt64))), (0, .int v0), (1, .int v1), (2, .int v2)]) dX2_joined_130 (by decide) rfl ?_
                    refine z_goto (tgt := 200) dX2_joined_131 (by decide) ?_
                    refine z_lload_n dX2_joined_200 rfl ?_
                    refine z_ldc2 dX2_joined_201 tK_2_26 ?_
                    refine z_lcmp dX2_joined_204 ?_
                    by_cases c13 : (lg_cmp ((v1.toInt64) - (v2.toInt64)) 1000000) ≤ 0
                    · have hf := zif_t hf c13
                      refine z_if_le_t (tgt := 213) dX2_joined_205 (by decide) c13 ?_
                      refine z_lload_n dX2_joined_213 rfl ?_
                      refine z_ldc2 dX2_joined_214 tK_2_29 ?_
                      refine z_lcmp dX2_joined_217 ?_
                      by_cases c14 : 0 ≤ (lg_cmp ((v1.toInt64) - (v2.toInt64)) (-1000000))
                      · have hf := zif_t hf c14
                        refine z_if_ge_t (tgt := 226) dX2_joined_218 (by decide) c14 ?_
                        refine z_lload_n dX2_joined_226 rfl ?_
                        refine z_l2i dX2_joined_227 ?_
                        have e_ := Option.some.inj hf
                        subst e_
                        exact z_ireturn dX2_joined_228 rfl ⟨h, rfl, rfl, hE⟩
                      · have hf := zif_f hf c14
                        refine z_if_ge_f (tgt := 226) dX2_joined_218 (by decide) c14 ?_
                        refine z_ldc dX2_joined_221 tK_2_31 ?_
                        refine z_goto (tgt := 228) dX2_joined_223 (by decide) ?_
                        have e_ := Option.some.inj hf
                        subst e_
                        exact z_ireturn dX2_joined_228 rfl ⟨h, rfl, rfl, hE⟩
                    · have hf := zif_f hf c13
                      refine z_if_le_f (tgt := 213) dX2_joined_205 (by decide) c13 ?_
                      refine z_ldc dX2_joined_208 tK_2_28 ?_
                      refine z_goto (tgt := 228) dX2_joined_210 (by decide) ?_
                      have e_ := Option.some.inj hf
                      subst e_
                      exact z_ireturn dX2_joined_228 rfl ⟨h, rfl, rfl, hE⟩
                  · have hf := zif_f hf c15
                    by_cases c16 : v0 = 46
                    · have hf := zif_t hf c16
                      refine z_tabI (off := 195) (tgt := 196) dX2_joined_1 c1 (by rw [c16]; rfl) (by decide) ?_
                      refine z_iload_n dX2_joined_196 rfl ?_
                      refine z_iload_n dX2_joined_197 rfl ?_
                      refine z_ior dX2_joined_198 ?_
                      have e_ := Option.some.inj hf
                      subst e_
                      exact z_ireturn dX2_joined_199 rfl ⟨h, rfl, rfl, hE⟩
                    · have hf := zif_f hf c16
                      by_cases c23 : v0 = 47
                      · have hf := zif_t hf c23
                        refine z_tabI (off := 142) (tgt := 143) dX2_joined_1 c1 (by rw [c23]; rfl) (by decide) ?_
                        refine z_iload_n dX2_joined_143 rfl ?_
                        by_cases c17 : ¬ v2 = 0
                        · have hf := zif_t hf c17
                          refine z_if_ne_t (tgt := 151) dX2_joined_144 (by decide) c17 ?_
                          refine z_iload_n dX2_joined_151 rfl ?_
                          refine z_iload_n dX2_joined_152 rfl ?_
                          obtain ⟨b20, hf⟩ := zchkn hf
                          refine z_idiv dX2_joined_153 b20 ?_
                          refine z_i2l dX2_joined_154 ?_
                          refine z_lstore_n (lv' := [(3, .long ((v1 / v2).toInt64)), (0, .int v0), (1, .int v1), (2, .int v2)]) dX2_joined_155 (by decide) rfl ?_
                          refine z_goto (tgt := 200) dX2_joined_156 (by decide) ?_
                          refine z_lload_n dX2_joined_200 rfl ?_
                          refine z_ldc2 dX2_joined_201 tK_2_26 ?_
                          refine z_lcmp dX2_joined_204 ?_
                          by_cases c18 : (lg_cmp ((v1 / v2).toInt64) 1000000) ≤ 0
                          · have hf := zif_t hf c18
                            refine z_if_le_t (tgt := 213) dX2_joined_205 (by decide) c18 ?_
                            refine z_lload_n dX2_joined_213 rfl ?_
                            refine z_ldc2 dX2_joined_214 tK_2_29 ?_
                            refine z_lcmp dX2_joined_217 ?_
                            by_cases c19 : 0 ≤ (lg_cmp ((v1 / v2).toInt64) (-1000000))
                            · have hf := zif_t hf c19
                              refine z_if_ge_t (tgt := 226) dX2_joined_218 (by decide) c19 ?_
                              refine z_lload_n dX2_joined_226 rfl ?_
                              refine z_l2i dX2_joined_227 ?_
                              have e_ := Option.some.inj hf
                              subst e_
                              exact z_ireturn dX2_joined_228 rfl ⟨h, rfl, rfl, hE⟩
                            · have hf := zif_f hf c19
                              refine z_if_ge_f (tgt := 226) dX2_joined_218 (by decide) c19 ?_
                              refine z_ldc dX2_joined_221 tK_2_31 ?_
                              refine z_goto (tgt := 228) dX2_joined_223 (by decide) ?_
                              have e_ := Option.some.inj hf
                              subst e_
                              exact z_ireturn dX2_joined_228 rfl ⟨h, rfl, rfl, hE⟩
                          · have hf := zif_f hf c18
                            refine z_if_le_f (tgt := 213) dX2_joined_205 (by decide) c18 ?_
                            refine z_ldc dX2_joined_208 tK_2_28 ?_
                            refine z_goto (tgt := 228) dX2_joined_210 (by decide) ?_
                            have e_ := Option.some.inj hf
                            subst e_
                            exact z_ireturn dX2_joined_228 rfl ⟨h, rfl, rfl, hE⟩
                        · have hf := zif_f hf c17
                          refine z_if_ne_f (tgt := 151) dX2_joined_144 (by decide) c17 ?_
                          refine z_lconst (v := 0) dX2_joined_147 (by decide) ?_
                          refine z_goto (tgt := 155) dX2_joined_148 (by decide) ?_
                          refine z_lstore_n (lv' := [(3, .long 0), (0, .int v0), (1, .int v1), (2, .int v2)]) dX2_joined_155 (by decide) rfl ?_
                          refine z_goto (tgt := 200) dX2_joined_156 (by decide) ?_
                          refine z_lload_n dX2_joined_200 rfl ?_
                          refine z_ldc2 dX2_joined_201 tK_2_26 ?_
                          refine z_lcmp dX2_joined_204 ?_
                          by_cases c21 : (lg_cmp 0 1000000) ≤ 0
                          · have hf := zif_t hf c21
                            refine z_if_le_t (tgt := 213) dX2_joined_205 (by decide) c21 ?_
                            refine z_lload_n dX2_joined_213 rfl ?_
                            refine z_ldc2 dX2_joined_214 tK_2_29 ?_
                            refine z_lcmp dX2_joined_217 ?_
                            by_cases c22 : 0 ≤ (lg_cmp 0 (-1000000))
                            · have hf := zif_t hf c22
                              refine z_if_ge_t (tgt := 226) dX2_joined_218 (by decide) c22 ?_
                              refine z_lload_n dX2_joined_226 rfl ?_
                              refine z_l2i dX2_joined_227 ?_
                              have e_ := Option.some.inj hf
                              subst e_
                              exact z_ireturn dX2_joined_228 rfl ⟨h, rfl, rfl, hE⟩
                            · have hf := zif_f hf c22
                              refine z_if_ge_f (tgt := 226) dX2_joined_218 (by decide) c22 ?_
                              refine z_ldc dX2_joined_221 tK_2_31 ?_
                              refine z_goto (tgt := 228) dX2_joined_223 (by decide) ?_
                              have e_ := Option.some.inj hf
                              subst e_
                              exact z_ireturn dX2_joined_228 rfl ⟨h, rfl, rfl, hE⟩
                          · have hf := zif_f hf c21
                            refine z_if_le_f (tgt := 213) dX2_joined_205 (by decide) c21 ?_
                            refine z_ldc dX2_joined_208 tK_2_28 ?_
                            refine z_goto (tgt := 228) dX2_joined_210 (by decide) ?_
                            have e_ := Option.some.inj hf
                            subst e_
                            exact z_ireturn dX2_joined_228 rfl ⟨h, rfl, rfl, hE⟩
                      · have hf := zif_f hf c23
                        by_cases c24 : v0 = 48
                        · have hf := zif_t hf c24
                          refine z_tabI (off := 195) (tgt := 196) dX2_joined_1 c1 (by rw [c24]; rfl) (by decide) ?_
                          refine z_iload_n dX2_joined_196 rfl ?_
                          refine z_iload_n dX2_joined_197 rfl ?_
                          refine z_ior dX2_joined_198 ?_
                          have e_ := Option.some.inj hf
                          subst e_
                          exact z_ireturn dX2_joined_199 rfl ⟨h, rfl, rfl, hE⟩
                        · have hf := zif_f hf c24
                          by_cases c25 : v0 = 49
                          · have hf := zif_t hf c25
                            refine z_tabI (off := 195) (tgt := 196) dX2_joined_1 c1 (by rw [c25]; rfl) (by decide) ?_
                            refine z_iload_n dX2_joined_196 rfl ?_
                            refine z_iload_n dX2_joined_197 rfl ?_
                            refine z_ior dX2_joined_198 ?_
                            have e_ := Option.some.inj hf
                            subst e_
                            exact z_ireturn dX2_joined_199 rfl ⟨h, rfl, rfl, hE⟩
                          · have hf := zif_f hf c25
                            by_cases c26 : v0 = 50
                            · have hf := zif_t hf c26
                              refine z_tabI (off := 195) (tgt := 196) dX2_joined_1 c1 (by rw [c26]; rfl) (by decide) ?_
                              refine z_iload_n dX2_joined_196 rfl ?_
                              refine z_iload_n dX2_joined_197 rfl ?_
                              refine z_ior dX2_joined_198 ?_
                              have e_ := Option.some.inj hf
                              subst e_
                              exact z_ireturn dX2_joined_199 rfl ⟨h, rfl, rfl, hE⟩
                            · have hf := zif_f hf c26
                              by_cases c27 : v0 = 51
                              · have hf := zif_t hf c27
                                refine z_tabI (off := 195) (tgt := 196) dX2_joined_1 c1 (by rw [c27]; rfl) (by decide) ?_
                                refine z_iload_n dX2_joined_196 rfl ?_
                                refine z_iload_n dX2_joined_197 rfl ?_
                                refine z_ior dX2_joined_198 ?_
                                have e_ := Option.some.inj hf
                                subst e_
                                exact z_ireturn dX2_joined_199 rfl ⟨h, rfl, rfl, hE⟩
                              · have hf := zif_f hf c27
                                by_cases c28 : v0 = 52
                                · have hf := zif_t hf c28
                                  refine z_tabI (off := 195) (tgt := 196) dX2_joined_1 c1 (by rw [c28]; rfl) (by decide) ?_
                                  refine z_iload_n dX2_joined_196 rfl ?_
                                  refine z_iload_n dX2_joined_197 rfl ?_
                                  refine z_ior dX2_joined_198 ?_
                                  have e_ := Option.some.inj hf
                                  subst e_
                                  exact z_ireturn dX2_joined_199 rfl ⟨h, rfl, rfl, hE⟩
                                · have hf := zif_f hf c28
                                  by_cases c29 : v0 = 53
                                  · have hf := zif_t hf c29
                                    refine z_tabI (off := 195) (tgt := 196) dX2_joined_1 c1 (by rw [c29]; rfl) (by decide) ?_
                                    refine z_iload_n dX2_joined_196 rfl ?_
                                    refine z_iload_n dX2_joined_197 rfl ?_
                                    refine z_ior dX2_joined_198 ?_
                                    have e_ := Option.some.inj hf
                                    subst e_
                                    exact z_ireturn dX2_joined_199 rfl ⟨h, rfl, rfl, hE⟩
                                  · have hf := zif_f hf c29
                                    by_cases c30 : v0 = 54
                                    · have hf := zif_t hf c30
                                      refine z_tabI (off := 195) (tgt := 196) dX2_joined_1 c1 (by rw [c30]; rfl) (by decide) ?_
                                      refine z_iload_n dX2_joined_196 rfl ?_
                                      refine z_iload_n dX2_joined_197 rfl ?_
                                      refine z_ior dX2_joined_198 ?_
                                      have e_ := Option.some.inj hf
                                      subst e_
                                      exact z_ireturn dX2_joined_199 rfl ⟨h, rfl, rfl, hE⟩
                                    · have hf := zif_f hf c30
                                      by_cases c31 : v0 = 55
                                      · have hf := zif_t hf c31
                                        refine z_tabI (off := 195) (tgt := 196) dX2_joined_1 c1 (by rw [c31]; rfl) (by decide) ?_
                                        refine z_iload_n dX2_joined_196 rfl ?_
                                        refine z_iload_n dX2_joined_197 rfl ?_
                                        refine z_ior dX2_joined_198 ?_
                                        have e_ := Option.some.inj hf
                                        subst e_
                                        exact z_ireturn dX2_joined_199 rfl ⟨h, rfl, rfl, hE⟩
                                      · have hf := zif_f hf c31
                                        by_cases c32 : v0 = 56
                                        · have hf := zif_t hf c32
                                          refine z_tabI (off := 195) (tgt := 196) dX2_joined_1 c1 (by rw [c32]; rfl) (by decide) ?_
                                          refine z_iload_n dX2_joined_196 rfl ?_
                                          refine z_iload_n dX2_joined_197 rfl ?_
                                          refine z_ior dX2_joined_198 ?_
                                          have e_ := Option.some.inj hf
                                          subst e_
                                          exact z_ireturn dX2_joined_199 rfl ⟨h, rfl, rfl, hE⟩
                                        · have hf := zif_f hf c32
                                          by_cases c33 : v0 = 57
                                          · have hf := zif_t hf c33
                                            refine z_tabI (off := 195) (tgt := 196) dX2_joined_1 c1 (by rw [c33]; rfl) (by decide) ?_
                                            refine z_iload_n dX2_joined_196 rfl ?_
                                            refine z_iload_n dX2_joined_197 rfl ?_
                                            refine z_ior dX2_joined_198 ?_
                                            have e_ := Option.some.inj hf
                                            subst e_
                                            exact z_ireturn dX2_joined_199 rfl ⟨h, rfl, rfl, hE⟩
                                          · have hf := zif_f hf c33
                                            by_cases c34 : v0 = 58
                                            · have hf := zif_t hf c34
                                              refine z_tabI (off := 195) (tgt := 196) dX2_joined_1 c1 (by rw [c34]; rfl) (by decide) ?_
                                              refine z_iload_n dX2_joined_196 rfl ?_
                                              refine z_iload_n dX2_joined_197 rfl ?_
                                              refine z_ior dX2_joined_198 ?_
                                              have e_ := Option.some.inj hf
                                              subst e_
                                              exact z_ireturn dX2_joined_199 rfl ⟨h, rfl, rfl, hE⟩
                                            · have hf := zif_f hf c34
                                              by_cases c35 : v0 = 59
                                              · have hf := zif_t hf c35
                                                refine z_tabI (off := 195) (tgt := 196) dX2_joined_1 c1 (by rw [c35]; rfl) (by decide) ?_
                                                refine z_iload_n dX2_joined_196 rfl ?_
                                                refine z_iload_n dX2_joined_197 rfl ?_
                                                refine z_ior dX2_joined_198 ?_
                                                have e_ := Option.some.inj hf
                                                subst e_
                                                exact z_ireturn dX2_joined_199 rfl ⟨h, rfl, rfl, hE⟩
                                              · have hf := zif_f hf c35
                                                by_cases c37 : v0 = 60
                                                · have hf := zif_t hf c37
                                                  refine z_tabI (off := 169) (tgt := 170) dX2_joined_1 c1 (by rw [c37]; rfl) (by decide) ?_
                                                  refine z_iload_n dX2_joined_170 rfl ?_
                                                  refine z_iload_n dX2_joined_171 rfl ?_
                                                  by_cases c36 : v2 ≤ v1
                                                  · have hf := zif_t hf c36
                                                    refine z_icmp_ge_t (tgt := 179) dX2_joined_172 (by decide) c36 ?_
                                                    refine z_iconst (v := 0) dX2_joined_179 (by decide) ?_
                                                    have e_ := Option.some.inj hf
                                                    subst e_
                                                    exact z_ireturn dX2_joined_180 rfl ⟨h, rfl, rfl, hE⟩
                                                  · have hf := zif_f hf c36
                                                    refine z_icmp_ge_f (tgt := 179) dX2_joined_172 (by decide) c36 ?_
                                                    refine z_iconst (v := 1) dX2_joined_175 (by decide) ?_
                                                    refine z_goto (tgt := 180) dX2_joined_176 (by decide) ?_
                                                    have e_ := Option.some.inj hf
                                                    subst e_
                                                    exact z_ireturn dX2_joined_180 rfl ⟨h, rfl, rfl, hE⟩
                                                · have hf := zif_f hf c37
                                                  by_cases c39 : v0 = 61
                                                  · have hf := zif_t hf c39
                                                    refine z_tabI (off := 158) (tgt := 159) dX2_joined_1 c1 (by rw [c39]; rfl) (by decide) ?_
                                                    refine z_iload_n dX2_joined_159 rfl ?_
                                                    refine z_iload_n dX2_joined_160 rfl ?_
                                                    by_cases c38 : ¬ v1 = v2
                                                    · have hf := zif_t hf c38
                                                      refine z_icmp_ne_t (tgt := 168) dX2_joined_161 (by decide) c38 ?_
                                                      refine z_iconst (v := 0) dX2_joined_168 (by decide) ?_
                                                      have e_ := Option.some.inj hf
                                                      subst e_
                                                      exact z_ireturn dX2_joined_169 rfl ⟨h, rfl, rfl, hE⟩
                                                    · have hf := zif_f hf c38
                                                      refine z_icmp_ne_f (tgt := 168) dX2_joined_161 (by decide) c38 ?_
                                                      refine z_iconst (v := 1) dX2_joined_164 (by decide) ?_
                                                      refine z_goto (tgt := 169) dX2_joined_165 (by decide) ?_
                                                      have e_ := Option.some.inj hf
                                                      subst e_
                                                      exact z_ireturn dX2_joined_169 rfl ⟨h, rfl, rfl, hE⟩
                                                  · have hf := zif_f hf c39
                                                    by_cases c41 : v0 = 62
                                                    · have hf := zif_t hf c41
                                                      refine z_tabI (off := 180) (tgt := 181) dX2_joined_1 c1 (by rw [c41]; rfl) (by decide) ?_
                                                      refine z_iload_n dX2_joined_181 rfl ?_
                                                      refine z_iload_n dX2_joined_182 rfl ?_
                                                      by_cases c40 : v1 ≤ v2
                                                      · have hf := zif_t hf c40
                                                        refine z_icmp_le_t (tgt := 190) dX2_joined_183 (by decide) c40 ?_
                                                        refine z_iconst (v := 0) dX2_joined_190 (by decide) ?_
                                                        have e_ := Option.some.inj hf
                                                        subst e_
                                                        exact z_ireturn dX2_joined_191 rfl ⟨h, rfl, rfl, hE⟩
                                                      · have hf := zif_f hf c40
                                                        refine z_icmp_le_f (tgt := 190) dX2_joined_183 (by decide) c40 ?_
                                                        refine z_iconst (v := 1) dX2_joined_186 (by decide) ?_
                                                        refine z_goto (tgt := 191) dX2_joined_187 (by decide) ?_
                                                        have e_ := Option.some.inj hf
                                                        subst e_
                                                        exact z_ireturn dX2_joined_191 rfl ⟨h, rfl, rfl, hE⟩
                                                    · have hf := zif_f hf c41
                                                      cases hf
def f_X2_valueOf (v1 : Int32) (S : zS) : Option (Int32 × zS) :=
if v1 < 2000 then
zl (v1 - 1000) fun (y2 : Int32) =>
if y2 < 0 then
some (0, S)
else
if 6 ≤ y2 then
some (0, S)
else
if ia_in y2 6 = true then
some (S.1 15 y2.toNatClampNeg, S)
else none
else
some (v1 - 2000, S)
theorem w_X2_valueOf {L : Nat} {xs : Nat → Int32} {fm : Value} {h0 : Nat → va_E} {t : Nat × Nat × Nat} (hn1 : 64 ≤ t.1) (hn2 : t.1 ≤ 1000000) (d : Nat) {h : Nat → va_E} {S : zS} (hE : zE (zDc t.1) h0 S (h, t)) {v1 : Int32} {R : Int32 × zS} (hf : f_X2_valueOf v1 S = some R) : zC (ia_P0 L xs fm) (d + 1) 2003 [.ref 14, .int v1] (h, t) (zQi (zDc t.1) h0 t R) := by
  refine zC_of mt_2003 nn_2003 (Nat.le_of_ble_eq_true rfl) ?_
  refine zW_lv (lv' := [(0, .ref 14), (1, .int v1)]) rfl ?_
  unfold f_X2_valueOf at hf
  refine z_iload_n dX2_valueOf_0 rfl ?_
  refine z_sipush (v := 2000) dX2_valueOf_1 (by decide) ?_
  by_cases c1 : v1 < 2000
  · have hf := zif_t hf c1
    refine z_icmp_lt_t (tgt := 13) dX2_valueOf_4 (by decide) c1 ?_
    refine z_iload_n dX2_valueOf_13 rfl ?_
    refine z_sipush (v := 1000) dX2_valueOf_14 (by decide) ?_
    refine z_isub dX2_valueOf_17 ?_
    obtain ⟨y2, ey2, hf⟩ := zl_some hf
    refine z_topi ey2 ?_
    refine z_istore_n (lv' := [(2, .int y2), (0, .ref 14), (1, .int v1)]) dX2_valueOf_18 (by decide) rfl ?_
    refine z_iload_n dX2_valueOf_19 rfl ?_
    by_cases c3 : y2 < 0
    · have hf := zif_t hf c3
      refine z_if_lt_t (tgt := 41) dX2_valueOf_20 (by decide) c3 ?_
      refine z_iconst (v := 0) dX2_valueOf_41 (by decide) ?_
      have e_ := Option.some.inj hf
      subst e_
      exact z_ireturn dX2_valueOf_42 rfl ⟨h, rfl, rfl, hE⟩
    · have hf := zif_f hf c3
      refine z_if_lt_f (tgt := 41) dX2_valueOf_20 (by decide) c3 ?_
      refine z_iload_n dX2_valueOf_23 rfl ?_
      refine z_aload_n dX2_valueOf_24 rfl ?_
      refine z_getC dX2_valueOf_25 tF_2_9 hE dc_14 rfl rfl ?_
      refine z_alen (v := 6) dX2_valueOf_28 hE dc_15 (by decide) (by decide) ?_
      by_cases c4 : 6 ≤ y2
      · have hf := zif_t hf c4
        refine z_icmp_ge_t (tgt := 41) dX2_valueOf_29 (by decide) c4 ?_
        refine z_iconst (v := 0) dX2_valueOf_41 (by decide) ?_
        have e_ := Option.some.inj hf
        subst e_
        exact z_ireturn dX2_valueOf_42 rfl ⟨h, rfl, rfl, hE⟩
      · have hf := zif_f hf c4
        refine z_icmp_ge_f (tgt := 41) dX2_valueOf_29 (by decide) c4 ?_
        refine z_aload_n dX2_valueOf_32 rfl ?_
        refine z_getC dX2_valueOf_33 tF_2_9 hE dc_14 rfl rfl ?_
        refine z_iload_n dX2_valueOf_36 rfl ?_
        obtain ⟨b5, hf⟩ := zchk hf
        refine z_ialoadL dX2_valueOf_37 hE dc_15 b5 rfl ?_
        refine z_goto (tgt := 42) dX2_valueOf_38 (by decide) ?_
        have e_ := Option.some.inj hf
        subst e_
        exact z_ireturn dX2_valueOf_42 rfl ⟨h, rfl, rfl, hE⟩
  · have hf := zif_f hf c1
    refine z_icmp_lt_f (tgt := 13) dX2_valueOf_4 (by decide) c1 ?_
    refine z_iload_n dX2_valueOf_7 rfl ?_
    refine z_sipush (v := 2000) dX2_valueOf_8 (by decide) ?_
    refine z_isub dX2_valueOf_11 ?_
    have e_ := Option.some.inj hf
    subst e_
    exact z_ireturn dX2_valueOf_12 rfl ⟨h, rfl, rfl, hE⟩
def f_X2_lawWorth_L7 (a : Nat)  : Nat → Int32 → Int32 → Int32 → zS → Option (Int32 × zS)
  | 0, _, _, _, _ => none
  | k + 1, x2, x3, x4, S =>
    if (Int32.ofNat (S.2.2.1 a)) ≤ x4 then
    some (0, S)
    else
    if ia_in x4 (S.2.2.1 a) = true then
    zl (S.1 a x4.toNatClampNeg) fun (y3 : Int32) =>
    zl (fun (x7 : Int32) (x8 : Int32) (S6 : zS) =>
    zl (x4 + 1) fun (y9 : Int32) =>
    f_X2_lawWorth_L7 a k x7 x8 y9 S6) fun J5 =>
    if x3 = 0 then
    if ¬ y3 = 59 then
    if ¬ y3 = 63 then
    if y3 < 1000 then
    if ¬ y3 = 33 then
    if x2 < 2 then
    J5 x2 x3 S
    else
    zl (x2 + (-1)) fun (y15 : Int32) =>
    if ia_in (y15 - 1) 64 = true then
    if ia_in y15 64 = true then
    zb (f_X2_joined y3 (S.1 16 (y15 - 1).toNatClampNeg) (S.1 16 y15.toNatClampNeg) S) fun r19 S18 =>
    if ia_in (y15 - 1) 64 = true then
    zl (sV S18 16 ((y15 - 1).toNatClampNeg) r19) fun S22 =>
    J5 y15 x3 S22
    else none
    else none
    else none
    else
    if x2 < 1 then
    J5 x2 x3 S
    else
    if ia_in (x2 - 1) 64 = true then
    if ia_in (x2 - 1) 64 = true then
    zl (sV S 16 ((x2 - 1).toNatClampNeg) (1 - (S.1 16 (x2 - 1).toNatClampNeg))) fun S26 =>
    J5 x2 x3 S26
    else none
    else none
    else
    if 64 ≤ x2 then
    J5 x2 x3 S
    else
    zb (f_X2_valueOf y3 S) fun r29 S28 =>
    if ia_in x2 64 = true then
    zl (sV S28 16 (x2.toNatClampNeg) r29) fun S32 =>
    zl (x2 + 1) fun (y33 : Int32) =>
    J5 y33 x3 S32
    else none
    else
    zl (fun (x36 : Int32) =>
    J5 0 x36 S) fun J35 =>
    if ¬ (S.1 16 0) = 0 then
    J35 0
    else
    J35 1
    else
    some (S.1 16 0, S)
    else
    zl (fun (x39 : Int32) =>
    J5 x2 x39 S) fun J38 =>
    if y3 = 59 then
    J38 0
    else
    J38 1
    else none
def f_X2_lawWorth (a : Nat) (S : zS) : Option (Int32 × zS) :=
f_X2_lawWorth_L7 a  zN 0 0 0 S
theorem w_X2_lawWorth_L7 {L : Nat} {xs : Nat → Int32} {fm : Value} {h0 : Nat → va_E} {t : Nat × Nat × Nat} (hn1 : 64 ≤ t.1) (hn2 : t.1 ≤ 1000000) (d : Nat) {a : Nat} (hda : 64 ≤ a ∧ a < t.1) {R : Int32 × zS} : ∀ (k : Nat) (x2 : Int32) (x3 : Int32) (x4 : Int32) (S : zS) (h : Nat → va_E), zE (zDc t.1) h0 S (h, t) → f_X2_lawWorth_L7 a  k x2 x3 x4 S = some R → zW (ia_P0 L xs fm) (d + 1) 2 false cX2_lawWorth 6 (some .int) 7 [(0, .ref 14), (1, .ref a), (2, .int x2), (3, .int x3), (4, .int x4)] [] (h, t) (zQi (zDc t.1) h0 t R) := by
  intro k
  induction k with
  | zero => intro x2 x3 x4 S h hE hf; cases hf
  | succ k ih =>
    intro x2 x3 x4 S h hE hf
    unfold f_X2_lawWorth_L7 at hf
    refine z_iload dX2_lawWorth_7 rfl ?_
    refine z_aload_n dX2_lawWorth_9 rfl ?_
    refine z_alenD dX2_lawWorth_10 hE (dc_dyn hda) ?_
    by_cases c1 : (Int32.ofNat (S.2.2.1 a)) ≤ x4
    · have hf := zif_t hf c1
      refine z_icmp_ge_t (tgt := 190) dX2_lawWorth_11 (by decide) c1 ?_
      refine z_iconst (v := 0) dX2_lawWorth_190 (by decide) ?_
      have e_ := Option.some.inj hf
      subst e_
      exact z_ireturn dX2_lawWorth_191 rfl ⟨h, rfl, rfl, hE⟩
    · have hf := zif_f hf c1
      refine z_icmp_ge_f (tgt := 190) dX2_lawWorth_11 (by decide) c1 ?_
      refine z_aload_n dX2_lawWorth_14 rfl ?_
      refine z_iload dX2_lawWorth_15 rfl ?_
      obtain ⟨b2, hf⟩ := zchk hf
      refine z_ialoadD dX2_lawWorth_17 hE (dc_dyn hda) b2 ?_
      obtain ⟨y3, ey3, hf⟩ := zl_some hf
      refine z_topi ey3 ?_
      refine z_istore (lv' := [(5, .int y3), (0, .ref 14), (1, .ref a), (2, .int x2), (3, .int x3), (4, .int x4)]) dX2_lawWorth_18 (by decide) rfl ?_
      refine z_iload_n dX2_lawWorth_20 rfl ?_
      obtain ⟨J5, eJ5, hf⟩ := zl_some hf
      have hJ5 : ∀ (x7 : Int32) (x8 : Int32) (S6 : zS) (h : Nat → va_E), zE (zDc t.1) h0 S6 (h, t) → J5 x7 x8 S6 = some R → zW (ia_P0 L xs fm) (d + 1) 2 false cX2_lawWorth 6 (some .int) 184 [(0, .ref 14), (1, .ref a), (2, .int x7), (3, .int x8), (4, .int x4), (5, .int y3)] [] (h, t) (zQi (zDc t.1) h0 t R) := by
        intro x7 x8 S6 h hE hf
        rw [eJ5] at hf
        obtain ⟨y9, ey9, hf⟩ := zl_some hf
        refine z_iincY (v := 1) (y := y9) (lv' := [(4, .int y9), (0, .ref 14), (1, .ref a), (2, .int x7), (3, .int x8), (5, .int y3)]) dX2_lawWorth_184 rfl (by decide) (by decide) ey9 rfl ?_
        refine z_goto (tgt := 7) dX2_lawWorth_187 (by decide) ?_
        exact zW.sub (ih x7 x8 y9 S6 _ hE hf) [1, 2, 3, 4, 0] rfl rfl rfl rfl
      by_cases c4 : x3 = 0
      · have hf := zif_t hf c4
        refine z_if_eq_t (tgt := 40) dX2_lawWorth_21 (by decide) c4 ?_
        refine z_iload dX2_lawWorth_40 rfl ?_
        refine z_bipush (v := 59) dX2_lawWorth_42 (by decide) ?_
        by_cases c10 : ¬ y3 = 59
        · have hf := zif_t hf c10
          refine z_icmp_ne_t (tgt := 54) dX2_lawWorth_44 (by decide) c10 ?_
          refine z_iload dX2_lawWorth_54 rfl ?_
          refine z_bipush (v := 63) dX2_lawWorth_56 (by decide) ?_
          by_cases c11 : ¬ y3 = 63
          · have hf := zif_t hf c11
            refine z_icmp_ne_t (tgt := 81) dX2_lawWorth_58 (by decide) c11 ?_
            refine z_iload dX2_lawWorth_81 rfl ?_
            refine z_sipush (v := 1000) dX2_lawWorth_83 (by decide) ?_
            by_cases c12 : y3 < 1000
            · have hf := zif_t hf c12
              refine z_icmp_lt_t (tgt := 116) dX2_lawWorth_86 (by decide) c12 ?_
              refine z_iload dX2_lawWorth_116 rfl ?_
              refine z_bipush (v := 33) dX2_lawWorth_118 (by decide) ?_
              by_cases c13 : ¬ y3 = 33
              · have hf := zif_t hf c13
                refine z_icmp_ne_t (tgt := 149) dX2_lawWorth_120 (by decide) c13 ?_
                refine z_iload_n dX2_lawWorth_149 rfl ?_
                refine z_iconst (v := 2) dX2_lawWorth_150 (by decide) ?_
                by_cases c14 : x2 < 2
                · have hf := zif_t hf c14
                  refine z_icmp_lt_t (tgt := 184) dX2_lawWorth_151 (by decide) c14 ?_
                  exact zW.sub (hJ5 x2 x3 S _ hE hf) [1, 2, 3, 4, 5, 0] rfl rfl rfl rfl
                · have hf := zif_f hf c14
                  refine z_icmp_lt_f (tgt := 184) dX2_lawWorth_151 (by decide) c14 ?_
                  obtain ⟨y15, ey15, hf⟩ := zl_some hf
                  refine z_iincY (v := (-1)) (y := y15) (lv' := [(2, .int y15), (5, .int y3), (0, .ref 14), (1, .ref a), (3, .int x3), (4, .int x4)]) dX2_lawWorth_154 rfl (by decide) (by decide) ey15 rfl ?_
                  refine z_aload_n dX2_lawWorth_157 rfl ?_
                  refine z_getC dX2_lawWorth_158 tF_2_15 hE dc_14 rfl rfl ?_
                  refine z_iload_n dX2_lawWorth_161 rfl ?_
                  refine z_iconst (v := 1) dX2_lawWorth_162 (by decide) ?_
                  refine z_isub dX2_lawWorth_163 ?_
                  refine z_iload dX2_lawWorth_164 rfl ?_
                  refine z_aload_n dX2_lawWorth_166 rfl ?_
                  refine z_getC dX2_lawWorth_167 tF_2_15 hE dc_14 rfl rfl ?_
                  refine z_iload_n dX2_lawWorth_170 rfl ?_
                  refine z_iconst (v := 1) dX2_lawWorth_171 (by decide) ?_
                  refine z_isub dX2_lawWorth_172 ?_
                  obtain ⟨b16, hf⟩ := zchk hf
                  refine z_ialoadL dX2_lawWorth_173 hE dc_16 b16 rfl ?_
                  refine z_aload_n dX2_lawWorth_174 rfl ?_
                  refine z_getC dX2_lawWorth_175 tF_2_15 hE dc_14 rfl rfl ?_
                  refine z_iload_n dX2_lawWorth_178 rfl ?_
                  obtain ⟨b17, hf⟩ := zchk hf
                  refine z_ialoadL dX2_lawWorth_179 hE dc_16 b17 rfl ?_
                  obtain ⟨r19, S18, k20, hf⟩ := zb_some hf
                  refine z_callSi dX2_lawWorth_180 tM_2_22 (by decide) mt_2004 (Nat.le_of_ble_eq_true rfl) rfl rfl (by have q0 : 14 < t.1 := Nat.lt_of_lt_of_le (by decide) hn1; have q1 : a < t.1 := hda.2; have q2 : 16 < t.1 := Nat.lt_of_lt_of_le (by decide) hn1; simp [ia_oks, ia_okv, q0, q1, q2]) (Nat.le_of_ble_eq_true rfl) (w_X2_joined hn1 hn2 (d + 0) hE k20) (fun h hE => ?_)
                  obtain ⟨b21, hf⟩ := zchk hf
                  obtain ⟨S22, eS22, hf⟩ := zl_some hf
                  refine z_iastoreL (i := (y15 - 1).toNatClampNeg) dX2_lawWorth_183 hE dc_16 b21 rfl (fun h hE => ?_)
                  rw [← eS22] at hE
                  exact zW.sub (hJ5 y15 x3 S22 _ hE hf) [2, 3, 0, 4, 5, 1] rfl rfl rfl rfl
              · have hf := zif_f hf c13
                refine z_icmp_ne_f (tgt := 149) dX2_lawWorth_120 (by decide) c13 ?_
                refine z_iload_n dX2_lawWorth_123 rfl ?_
                refine z_iconst (v := 1) dX2_lawWorth_124 (by decide) ?_
                by_cases c23 : x2 < 1
                · have hf := zif_t hf c23
                  refine z_icmp_lt_t (tgt := 184) dX2_lawWorth_125 (by decide) c23 ?_
                  exact zW.sub (hJ5 x2 x3 S _ hE hf) [1, 2, 3, 4, 5, 0] rfl rfl rfl rfl
                · have hf := zif_f hf c23
                  refine z_icmp_lt_f (tgt := 184) dX2_lawWorth_125 (by decide) c23 ?_
                  refine z_aload_n dX2_lawWorth_128 rfl ?_
                  refine z_getC dX2_lawWorth_129 tF_2_15 hE dc_14 rfl rfl ?_
                  refine z_iload_n dX2_lawWorth_132 rfl ?_
                  refine z_iconst (v := 1) dX2_lawWorth_133 (by decide) ?_
                  refine z_isub dX2_lawWorth_134 ?_
                  refine z_iconst (v := 1) dX2_lawWorth_135 (by decide) ?_
                  refine z_aload_n dX2_lawWorth_136 rfl ?_
                  refine z_getC dX2_lawWorth_137 tF_2_15 hE dc_14 rfl rfl ?_
                  refine z_iload_n dX2_lawWorth_140 rfl ?_
                  refine z_iconst (v := 1) dX2_lawWorth_141 (by decide) ?_
                  refine z_isub dX2_lawWorth_142 ?_
                  obtain ⟨b24, hf⟩ := zchk hf
                  refine z_ialoadL dX2_lawWorth_143 hE dc_16 b24 rfl ?_
                  refine z_isub dX2_lawWorth_144 ?_
                  obtain ⟨b25, hf⟩ := zchk hf
                  obtain ⟨S26, eS26, hf⟩ := zl_some hf
                  refine z_iastoreL (i := (x2 - 1).toNatClampNeg) dX2_lawWorth_145 hE dc_16 b25 rfl (fun h hE => ?_)
                  rw [← eS26] at hE
                  refine z_goto (tgt := 184) dX2_lawWorth_146 (by decide) ?_
                  exact zW.sub (hJ5 x2 x3 S26 _ hE hf) [1, 2, 3, 4, 5, 0] rfl rfl rfl rfl
            · have hf := zif_f hf c12
              refine z_icmp_lt_f (tgt := 116) dX2_lawWorth_86 (by decide) c12 ?_
              refine z_iload_n dX2_lawWorth_89 rfl ?_
              refine z_aload_n dX2_lawWorth_90 rfl ?_
              refine z_getC dX2_lawWorth_91 tF_2_15 hE dc_14 rfl rfl ?_
              refine z_alen (v := 64) dX2_lawWorth_94 hE dc_16 (by decide) (by decide) ?_
              by_cases c27 : 64 ≤ x2
              · have hf := zif_t hf c27
                refine z_icmp_ge_t (tgt := 184) dX2_lawWorth_95 (by decide) c27 ?_
                exact zW.sub (hJ5 x2 x3 S _ hE hf) [1, 2, 3, 4, 5, 0] rfl rfl rfl rfl
              · have hf := zif_f hf c27
                refine z_icmp_ge_f (tgt := 184) dX2_lawWorth_95 (by decide) c27 ?_
                refine z_aload_n dX2_lawWorth_98 rfl ?_
                refine z_getC dX2_lawWorth_99 tF_2_15 hE dc_14 rfl rfl ?_
                refine z_iload_n dX2_lawWorth_102 rfl ?_
                refine z_aload_n dX2_lawWorth_103 rfl ?_
                refine z_iload dX2_lawWorth_104 rfl ?_
                obtain ⟨r29, S28, k30, hf⟩ := zb_some hf
                refine z_callVi dX2_lawWorth_106 tM_2_18 mt_2003 (Nat.le_of_ble_eq_true rfl) rfl rfl (z_recv hE dc_14 rfl) rfl (by have q0 : 14 < t.1 := Nat.lt_of_lt_of_le (by decide) hn1; have q1 : a < t.1 := hda.2; have q2 : 16 < t.1 := Nat.lt_of_lt_of_le (by decide) hn1; simp [ia_oks, ia_okv, q0, q1, q2]) (Nat.le_of_ble_eq_true rfl) (w_X2_valueOf hn1 hn2 (d + 0) hE k30) (fun h hE => ?_)
                obtain ⟨b31, hf⟩ := zchk hf
                obtain ⟨S32, eS32, hf⟩ := zl_some hf
                refine z_iastoreL (i := x2.toNatClampNeg) dX2_lawWorth_109 hE dc_16 b31 rfl (fun h hE => ?_)
                rw [← eS32] at hE
                obtain ⟨y33, ey33, hf⟩ := zl_some hf
                refine z_iincY (v := 1) (y := y33) (lv' := [(2, .int y33), (5, .int y3), (0, .ref 14), (1, .ref a), (3, .int x3), (4, .int x4)]) dX2_lawWorth_110 rfl (by decide) (by decide) ey33 rfl ?_
                refine z_goto (tgt := 184) dX2_lawWorth_113 (by decide) ?_
                exact zW.sub (hJ5 y33 x3 S32 _ hE hf) [2, 3, 0, 4, 5, 1] rfl rfl rfl rfl
          · have hf := zif_f hf c11
            refine z_icmp_ne_f (tgt := 81) dX2_lawWorth_58 (by decide) c11 ?_
            refine z_aload_n dX2_lawWorth_61 rfl ?_
            refine z_getC dX2_lawWorth_62 tF_2_15 hE dc_14 rfl rfl ?_
            refine z_iconst (v := 0) dX2_lawWorth_65 (by decide) ?_
            refine z_ialoadL (i := 0) dX2_lawWorth_66 hE dc_16 (by decide) (by decide) ?_
            obtain ⟨J35, eJ35, hf⟩ := zl_some hf
            have hJ35 : ∀ (x36 : Int32) (h : Nat → va_E), zE (zDc t.1) h0 S (h, t) → J35 x36 = some R → zW (ia_P0 L xs fm) (d + 1) 2 false cX2_lawWorth 6 (some .int) 75 [(0, .ref 14), (1, .ref a), (2, .int x2), (3, .int x3), (4, .int x4), (5, .int y3)] [.int x36] (h, t) (zQi (zDc t.1) h0 t R) := by
              intro x36 h hE hf
              rw [eJ35] at hf
              refine z_istore_n (lv' := [(3, .int x36), (0, .ref 14), (1, .ref a), (2, .int x2), (4, .int x4), (5, .int y3)]) dX2_lawWorth_75 (by decide) rfl ?_
              refine z_iconst (v := 0) dX2_lawWorth_76 (by decide) ?_
              refine z_istore_n (lv' := [(2, .int 0), (3, .int x36), (0, .ref 14), (1, .ref a), (4, .int x4), (5, .int y3)]) dX2_lawWorth_77 (by decide) rfl ?_
              refine z_goto (tgt := 184) dX2_lawWorth_78 (by decide) ?_
              exact zW.sub (hJ5 0 x36 S _ hE hf) [2, 3, 0, 1, 4, 5] rfl rfl rfl rfl
            by_cases c34 : ¬ (S.1 16 0) = 0
            · have hf := zif_t hf c34
              refine z_if_ne_t (tgt := 74) dX2_lawWorth_67 (by decide) c34 ?_
              refine z_iconst (v := 0) dX2_lawWorth_74 (by decide) ?_
              exact zW.sub (hJ35 0 _ hE hf) [1, 2, 3, 4, 5, 0] rfl rfl rfl rfl
            · have hf := zif_f hf c34
              refine z_if_ne_f (tgt := 74) dX2_lawWorth_67 (by decide) c34 ?_
              refine z_iconst (v := 1) dX2_lawWorth_70 (by decide) ?_
              refine z_goto (tgt := 75) dX2_lawWorth_71 (by decide) ?_
              exact zW.sub (hJ35 1 _ hE hf) [1, 2, 3, 4, 5, 0] rfl rfl rfl rfl
        · have hf := zif_f hf c10
          refine z_icmp_ne_f (tgt := 54) dX2_lawWorth_44 (by decide) c10 ?_
          refine z_aload_n dX2_lawWorth_47 rfl ?_
          refine z_getC dX2_lawWorth_48 tF_2_15 hE dc_14 rfl rfl ?_
          refine z_iconst (v := 0) dX2_lawWorth_51 (by decide) ?_
          refine z_ialoadL (i := 0) dX2_lawWorth_52 hE dc_16 (by decide) (by decide) ?_
          have e_ := Option.some.inj hf
          subst e_
          exact z_ireturn dX2_lawWorth_53 rfl ⟨h, rfl, rfl, hE⟩
      · have hf := zif_f hf c4
        refine z_if_eq_f (tgt := 40) dX2_lawWorth_21 (by decide) c4 ?_
        refine z_iload dX2_lawWorth_24 rfl ?_
        refine z_bipush (v := 59) dX2_lawWorth_26 (by decide) ?_
        obtain ⟨J38, eJ38, hf⟩ := zl_some hf
        have hJ38 : ∀ (x39 : Int32) (h : Nat → va_E), zE (zDc t.1) h0 S (h, t) → J38 x39 = some R → zW (ia_P0 L xs fm) (d + 1) 2 false cX2_lawWorth 6 (some .int) 36 [(0, .ref 14), (1, .ref a), (2, .int x2), (3, .int x3), (4, .int x4), (5, .int y3)] [.int x39] (h, t) (zQi (zDc t.1) h0 t R) := by
          intro x39 h hE hf
          rw [eJ38] at hf
          refine z_istore_n (lv' := [(3, .int x39), (0, .ref 14), (1, .ref a), (2, .int x2), (4, .int x4), (5, .int y3)]) dX2_lawWorth_36 (by decide) rfl ?_
          refine z_goto (tgt := 184) dX2_lawWorth_37 (by decide) ?_
          exact zW.sub (hJ5 x2 x39 S _ hE hf) [1, 2, 3, 0, 4, 5] rfl rfl rfl rfl
        by_cases c37 : y3 = 59
        · have hf := zif_t hf c37
          refine z_icmp_eq_t (tgt := 35) dX2_lawWorth_28 (by decide) c37 ?_
          refine z_iconst (v := 0) dX2_lawWorth_35 (by decide) ?_
          exact zW.sub (hJ38 0 _ hE hf) [1, 2, 3, 4, 5, 0] rfl rfl rfl rfl
        · have hf := zif_f hf c37
          refine z_icmp_eq_f (tgt := 35) dX2_lawWorth_28 (by decide) c37 ?_
          refine z_iconst (v := 1) dX2_lawWorth_31 (by decide) ?_
          refine z_goto (tgt := 36) dX2_lawWorth_32 (by decide) ?_
          exact zW.sub (hJ38 1 _ hE hf) [1, 2, 3, 4, 5, 0] rfl rfl rfl rfl
theorem w_X2_lawWorth {L : Nat} {xs : Nat → Int32} {fm : Value} {h0 : Nat → va_E} {t : Nat × Nat × Nat} (hn1 : 64 ≤ t.1) (hn2 : t.1 ≤ 1000000) (d : Nat) {a : Nat} (hda : 64 ≤ a ∧ a < t.1) {h : Nat → va_E} {S : zS} (hE : zE (zDc t.1) h0 S (h, t)) {R : Int32 × zS} (hf : f_X2_lawWorth a S = some R) : zC (ia_P0 L xs fm) (d + 2) 2002 [.ref 14, .ref a] (h, t) (zQi (zDc t.1) h0 t R) := by
  refine zC_of mt_2002 nn_2002 (Nat.le_of_ble_eq_true rfl) ?_
  refine zW_lv (lv' := [(0, .ref 14), (1, .ref a)]) rfl ?_
  unfold f_X2_lawWorth at hf
  refine z_iconst (v := 0) dX2_lawWorth_0 (by decide) ?_
  refine z_istore_n (lv' := [(2, .int 0), (0, .ref 14), (1, .ref a)]) dX2_lawWorth_1 (by decide) rfl ?_
  refine z_iconst (v := 0) dX2_lawWorth_2 (by decide) ?_
  refine z_istore_n (lv' := [(3, .int 0), (2, .int 0), (0, .ref 14), (1, .ref a)]) dX2_lawWorth_3 (by decide) rfl ?_
  refine z_iconst (v := 0) dX2_lawWorth_4 (by decide) ?_
  refine z_istore (lv' := [(4, .int 0), (3, .int 0), (2, .int 0), (0, .ref 14), (1, .ref a)]) dX2_lawWorth_5 (by decide) rfl ?_
  exact zW.sub (w_X2_lawWorth_L7 hn1 hn2 d hda zN 0 0 0 S h hE hf) [3, 4, 2, 1, 0] rfl rfl rfl rfl
def f_X7_gripOn (o : Nat) (v1 : Int32) (v2 : Int32) (v3 : Int32) (S : zS) : Option (Int32 × zS) :=
zb (f_X7_handCell o v1 0 S) fun r2 S1 =>
zl (sV S1 15 0 r2) fun S4 =>
zb (f_X10_item 1 v1 1 S4) fun r6 S5 =>
zl (sV S5 15 1 r6) fun S8 =>
zb (f_X7_handCell o v1 1 S8) fun r10 S9 =>
zl (sV S9 15 2 r10) fun S12 =>
zb (f_X10_item 0 v3 4 S12) fun r14 S13 =>
zl (sV S13 15 3 r14) fun S16 =>
zb (f_X7_jarCell o v3 2 S16) fun r18 S17 =>
zl (sV S17 15 4 r18) fun S20 =>
zl (fun (x24 : Int32) (S23 : zS) =>
zl (sV S23 15 5 x24) fun S25 =>
zkr (S25.2.1 14 2) (
zb (f_X2_plainWorth S25) fun r28 S27 =>
if 0 ≤ r28 then
if r28 ≤ 999 then
some (r28, S27)
else
some (999, S27)
else
some (0, S27)) fun a26 =>
if 64 ≤ a26 ∧ a26 < S25.2.2.2 then
zb (f_X2_lawWorth a26 S25) fun r33 S32 =>
if 0 ≤ r33 then
if r33 ≤ 999 then
some (r33, S32)
else
some (999, S32)
else
some (0, S32)
else none) fun J22 =>
if ¬ v2 = (-1) then
zb (f_X10_item 2 v2 0 S20) fun r38 S37 =>
J22 r38 S37
else
J22 0 S20
theorem w_X7_gripOn {L : Nat} {xs : Nat → Int32} {fm : Value} {h0 : Nat → va_E} {t : Nat × Nat × Nat} (hn1 : 64 ≤ t.1) (hn2 : t.1 ≤ 1000000) (d : Nat) {o : Nat} (ho_o : zSc t.1 o) {h : Nat → va_E} {S : zS} (hE : zE (zDc t.1) h0 S (h, t)) {v1 : Int32} {v2 : Int32} {v3 : Int32} {R : Int32 × zS} (hf : f_X7_gripOn o v1 v2 v3 S = some R) : zC (ia_P0 L xs fm) (d + 3) 7006 [.ref o, .int v1, .int v2, .int v3] (h, t) (zQi (zDc t.1) h0 t R) := by
  refine zC_of mt_7006 nn_7006 (Nat.le_of_ble_eq_true rfl) ?_
  refine zW_lv (lv' := [(0, .ref o), (1, .int v1), (2, .int v2), (3, .int v3)]) rfl ?_
  unfold f_X7_gripOn at hf
  refine z_aload_n dX7_gripOn_0 rfl ?_
  refine z_getC dX7_gripOn_1 tF_7_19 hE ho_o.1 rfl rfl ?_
  refine z_getC dX7_gripOn_4 tF_7_71 hE dc_14 rfl rfl ?_
  refine z_astore (lv' := [(4, .ref 15), (0, .ref o), (1, .int v1), (2, .int v2), (3, .int v3)]) dX7_gripOn_7 (by decide) rfl ?_
  refine z_aload dX7_gripOn_9 rfl ?_
  refine z_iconst (v := 0) dX7_gripOn_11 (by decide) ?_
  refine z_aload_n dX7_gripOn_12 rfl ?_
  refine z_iload_n dX7_gripOn_13 rfl ?_
  refine z_iconst (v := 0) dX7_gripOn_14 (by decide) ?_
  obtain ⟨r2, S1, k3, hf⟩ := zb_some hf
  refine z_callVi dX7_gripOn_15 tM_7_76 mt_7003 (Nat.le_of_ble_eq_true rfl) rfl rfl (z_recv hE ho_o.1 rfl) rfl (by have q0 : 15 < t.1 := Nat.lt_of_lt_of_le (by decide) hn1; have q1 : o < t.1 := Nat.lt_of_lt_of_le ho_o.2.2 (Nat.le_trans (by decide) hn1); simp [ia_oks, ia_okv, q0, q1]) (Nat.le_of_ble_eq_true rfl) (w_X7_handCell hn1 hn2 (d + 1) ho_o hE k3) (fun h hE => ?_)
  obtain ⟨S4, eS4, hf⟩ := zl_some hf
  refine z_iastoreL (i := 0) dX7_gripOn_18 hE dc_15 (by decide) (by decide) (fun h hE => ?_)
  rw [← eS4] at hE
  refine z_aload dX7_gripOn_19 rfl ?_
  refine z_iconst (v := 1) dX7_gripOn_21 (by decide) ?_
  refine z_aload_n dX7_gripOn_22 rfl ?_
  refine z_getC dX7_gripOn_23 tF_7_15 hE ho_o.1 rfl rfl ?_
  refine z_iconst (v := 1) dX7_gripOn_26 (by decide) ?_
  refine z_iload_n dX7_gripOn_27 rfl ?_
  refine z_iconst (v := 1) dX7_gripOn_28 (by decide) ?_
  obtain ⟨r6, S5, k7, hf⟩ := zb_some hf
  refine z_callVi dX7_gripOn_29 tM_7_34 mt_10004 (Nat.le_of_ble_eq_true rfl) rfl rfl (z_recv hE dc_11 rfl) rfl (by have q0 : 15 < t.1 := Nat.lt_of_lt_of_le (by decide) hn1; have q1 : o < t.1 := Nat.lt_of_lt_of_le ho_o.2.2 (Nat.le_trans (by decide) hn1); simp [ia_oks, ia_okv, q0, q1]) (Nat.le_of_ble_eq_true rfl) (w_X10_item hn1 hn2 (d + 0) hE k7) (fun h hE => ?_)
  obtain ⟨S8, eS8, hf⟩ := zl_some hf
  refine z_iastoreL (i := 1) dX7_gripOn_32 hE dc_15 (by decide) (by decide) (fun h hE => ?_)
  rw [← eS8] at hE
  refine z_aload dX7_gripOn_33 rfl ?_
  refine z_iconst (v := 2) dX7_gripOn_35 (by decide) ?_
  refine z_aload_n dX7_gripOn_36 rfl ?_
  refine z_iload_n dX7_gripOn_37 rfl ?_
  refine z_iconst (v := 1) dX7_gripOn_38 (by decide) ?_
  obtain ⟨r10, S9, k11, hf⟩ := zb_some hf
  refine z_callVi dX7_gripOn_39 tM_7_76 mt_7003 (Nat.le_of_ble_eq_true rfl) rfl rfl (z_recv hE ho_o.1 rfl) rfl (by have q0 : 15 < t.1 := Nat.lt_of_lt_of_le (by decide) hn1; have q1 : o < t.1 := Nat.lt_of_lt_of_le ho_o.2.2 (Nat.le_trans (by decide) hn1); simp [ia_oks, ia_okv, q0, q1]) (Nat.le_of_ble_eq_true rfl) (w_X7_handCell hn1 hn2 (d + 1) ho_o hE k11) (fun h hE => ?_)
  obtain ⟨S12, eS12, hf⟩ := zl_some hf
  refine z_iastoreL (i := 2) dX7_gripOn_42 hE dc_15 (by decide) (by decide) (fun h hE => ?_)
  rw [← eS12] at hE
  refine z_aload dX7_gripOn_43 rfl ?_
  refine z_iconst (v := 3) dX7_gripOn_45 (by decide) ?_
  refine z_aload_n dX7_gripOn_46 rfl ?_
  refine z_getC dX7_gripOn_47 tF_7_15 hE ho_o.1 rfl rfl ?_
  refine z_iconst (v := 0) dX7_gripOn_50 (by decide) ?_
  refine z_iload_n dX7_gripOn_51 rfl ?_
  refine z_iconst (v := 4) dX7_gripOn_52 (by decide) ?_
  obtain ⟨r14, S13, k15, hf⟩ := zb_some hf
  refine z_callVi dX7_gripOn_53 tM_7_34 mt_10004 (Nat.le_of_ble_eq_true rfl) rfl rfl (z_recv hE dc_11 rfl) rfl (by have q0 : 15 < t.1 := Nat.lt_of_lt_of_le (by decide) hn1; have q1 : o < t.1 := Nat.lt_of_lt_of_le ho_o.2.2 (Nat.le_trans (by decide) hn1); simp [ia_oks, ia_okv, q0, q1]) (Nat.le_of_ble_eq_true rfl) (w_X10_item hn1 hn2 (d + 0) hE k15) (fun h hE => ?_)
  obtain ⟨S16, eS16, hf⟩ := zl_some hf
  refine z_iastoreL (i := 3) dX7_gripOn_56 hE dc_15 (by decide) (by decide) (fun h hE => ?_)
  rw [← eS16] at hE
  refine z_aload dX7_gripOn_57 rfl ?_
  refine z_iconst (v := 4) dX7_gripOn_59 (by decide) ?_
  refine z_aload_n dX7_gripOn_60 rfl ?_
  refine z_iload_n dX7_gripOn_61 rfl ?_
  refine z_iconst (v := 2) dX7_gripOn_62 (by decide) ?_
  obtain ⟨r18, S17, k19, hf⟩ := zb_some hf
  refine z_callVi dX7_gripOn_63 tM_7_68 mt_7007 (Nat.le_of_ble_eq_true rfl) rfl rfl (z_recv hE ho_o.1 rfl) rfl (by have q0 : 15 < t.1 := Nat.lt_of_lt_of_le (by decide) hn1; have q1 : o < t.1 := Nat.lt_of_lt_of_le ho_o.2.2 (Nat.le_trans (by decide) hn1); simp [ia_oks, ia_okv, q0, q1]) (Nat.le_of_ble_eq_true rfl) (w_X7_jarCell hn1 hn2 (d + 1) ho_o hE k19) (fun h hE => ?_)
  obtain ⟨S20, eS20, hf⟩ := zl_some hf
  refine z_iastoreL (i := 4) dX7_gripOn_66 hE dc_15 (by decide) (by decide) (fun h hE => ?_)
  rw [← eS20] at hE
  refine z_aload dX7_gripOn_67 rfl ?_
  refine z_iconst (v := 5) dX7_gripOn_69 (by decide) ?_
  refine z_iload_n dX7_gripOn_70 rfl ?_
  refine z_iconst (v := (-1)) dX7_gripOn_71 (by decide) ?_
  obtain ⟨J22, eJ22, hf⟩ := zl_some hf
  have hJ22 : ∀ (x24 : Int32) (S23 : zS) (h : Nat → va_E), zE (zDc t.1) h0 S23 (h, t) → J22 x24 S23 = some R → zW (ia_P0 L xs fm) (d + 2) 7 false cX7_gripOn 6 (some .int) 89 [(0, .ref o), (1, .int v1), (2, .int v2), (3, .int v3), (4, .ref 15)] [.int x24, .int 5, .ref 15] (h, t) (zQi (zDc t.1) h0 t R) := by
    intro x24 S23 h hE hf
    rw [eJ22] at hf
    obtain ⟨S25, eS25, hf⟩ := zl_some hf
    refine z_iastoreL (i := 5) dX7_gripOn_89 hE dc_15 (by decide) (by decide) (fun h hE => ?_)
    rw [← eS25] at hE
    refine z_aload_n dX7_gripOn_90 rfl ?_
    refine z_getC dX7_gripOn_91 tF_7_19 hE ho_o.1 rfl rfl ?_
    rcases zkr_some hf with ⟨ea26, hf⟩ | ⟨a26, ea26, hf⟩
    · refine z_getK dX7_gripOn_94 tF_7_79 hE dc_14 rfl rfl ?_
      refine z_topv ea26 ?_
      refine z_ifnonnullN dX7_gripOn_97 ?_
      refine z_aload_n dX7_gripOn_100 rfl ?_
      refine z_getC dX7_gripOn_101 tF_7_19 hE ho_o.1 rfl rfl ?_
      obtain ⟨r28, S27, k29, hf⟩ := zb_some hf
      refine z_callVi dX7_gripOn_104 tM_7_82 mt_2001 (Nat.le_of_ble_eq_true rfl) rfl rfl (z_recv hE dc_14 rfl) rfl (by have q0 : o < t.1 := Nat.lt_of_lt_of_le ho_o.2.2 (Nat.le_trans (by decide) hn1); have q1 : 15 < t.1 := Nat.lt_of_lt_of_le (by decide) hn1; simp [ia_oks, ia_okv, q0, q1]) (Nat.le_of_ble_eq_true rfl) (w_X2_plainWorth hn1 hn2 (d + 1) hE k29) (fun h hE => ?_)
      refine z_goto (tgt := 124) dX7_gripOn_107 (by decide) ?_
      refine z_istore (lv' := [(5, .int r28), (0, .ref o), (1, .int v1), (2, .int v2), (3, .int v3), (4, .ref 15)]) dX7_gripOn_124 (by decide) rfl ?_
      refine z_iload dX7_gripOn_126 rfl ?_
      by_cases c30 : 0 ≤ r28
      · have hf := zif_t hf c30
        refine z_if_ge_t (tgt := 135) dX7_gripOn_128 (by decide) c30 ?_
        refine z_iload dX7_gripOn_135 rfl ?_
        refine z_sipush (v := 999) dX7_gripOn_137 (by decide) ?_
        by_cases c31 : r28 ≤ 999
        · have hf := zif_t hf c31
          refine z_icmp_le_t (tgt := 149) dX7_gripOn_140 (by decide) c31 ?_
          refine z_iload dX7_gripOn_149 rfl ?_
          have e_ := Option.some.inj hf
          subst e_
          exact z_ireturn dX7_gripOn_151 rfl ⟨h, rfl, rfl, hE⟩
        · have hf := zif_f hf c31
          refine z_icmp_le_f (tgt := 149) dX7_gripOn_140 (by decide) c31 ?_
          refine z_sipush (v := 999) dX7_gripOn_143 (by decide) ?_
          refine z_goto (tgt := 151) dX7_gripOn_146 (by decide) ?_
          have e_ := Option.some.inj hf
          subst e_
          exact z_ireturn dX7_gripOn_151 rfl ⟨h, rfl, rfl, hE⟩
      · have hf := zif_f hf c30
        refine z_if_ge_f (tgt := 135) dX7_gripOn_128 (by decide) c30 ?_
        refine z_iconst (v := 0) dX7_gripOn_131 (by decide) ?_
        refine z_goto (tgt := 151) dX7_gripOn_132 (by decide) ?_
        have e_ := Option.some.inj hf
        subst e_
        exact z_ireturn dX7_gripOn_151 rfl ⟨h, rfl, rfl, hE⟩
    · obtain ⟨hda26, hf⟩ := zchk hf
      rw [hE.1] at hda26
      refine z_getK dX7_gripOn_94 tF_7_79 hE dc_14 rfl rfl ?_
      refine z_topv ea26 ?_
      refine z_ifnonnull (tgt := 110) dX7_gripOn_97 (by decide) ?_
      refine z_aload_n dX7_gripOn_110 rfl ?_
      refine z_getC dX7_gripOn_111 tF_7_19 hE ho_o.1 rfl rfl ?_
      refine z_aload_n dX7_gripOn_114 rfl ?_
      refine z_getC dX7_gripOn_115 tF_7_19 hE ho_o.1 rfl rfl ?_
      refine z_getK dX7_gripOn_118 tF_7_79 hE dc_14 rfl rfl ?_
      refine z_topv ea26 ?_
      obtain ⟨r33, S32, k34, hf⟩ := zb_some hf
      refine z_callVi dX7_gripOn_121 tM_7_86 mt_2002 (Nat.le_of_ble_eq_true rfl) rfl rfl (z_recv hE dc_14 rfl) rfl (by have q0 : o < t.1 := Nat.lt_of_lt_of_le ho_o.2.2 (Nat.le_trans (by decide) hn1); have q1 : 15 < t.1 := Nat.lt_of_lt_of_le (by decide) hn1; simp [ia_oks, ia_okv, q0, q1]) (Nat.le_of_ble_eq_true rfl) (w_X2_lawWorth hn1 hn2 (d + 0) hda26 hE k34) (fun h hE => ?_)
      refine z_istore (lv' := [(5, .int r33), (0, .ref o), (1, .int v1), (2, .int v2), (3, .int v3), (4, .ref 15)]) dX7_gripOn_124 (by decide) rfl ?_
      refine z_iload dX7_gripOn_126 rfl ?_
      by_cases c35 : 0 ≤ r33
      · have hf := zif_t hf c35
        refine z_if_ge_t (tgt := 135) dX7_gripOn_128 (by decide) c35 ?_
        refine z_iload dX7_gripOn_135 rfl ?_
        refine z_sipush (v := 999) dX7_gripOn_137 (by decide) ?_
        by_cases c36 : r33 ≤ 999
        · have hf := zif_t hf c36
          refine z_icmp_le_t (tgt := 149) dX7_gripOn_140 (by decide) c36 ?_
          refine z_iload dX7_gripOn_149 rfl ?_
          have e_ := Option.some.inj hf
          subst e_
          exact z_ireturn dX7_gripOn_151 rfl ⟨h, rfl, rfl, hE⟩
        · have hf := zif_f hf c36
          refine z_icmp_le_f (tgt := 149) dX7_gripOn_140 (by decide) c36 ?_
          refine z_sipush (v := 999) dX7_gripOn_143 (by decide) ?_
          refine z_goto (tgt := 151) dX7_gripOn_146 (by decide) ?_
          have e_ := Option.some.inj hf
          subst e_
          exact z_ireturn dX7_gripOn_151 rfl ⟨h, rfl, rfl, hE⟩
      · have hf := zif_f hf c35
        refine z_if_ge_f (tgt := 135) dX7_gripOn_128 (by decide) c35 ?_
        refine z_iconst (v := 0) dX7_gripOn_131 (by decide) ?_
        refine z_goto (tgt := 151) dX7_gripOn_132 (by decide) ?_
        have e_ := Option.some.inj hf
        subst e_
        exact z_ireturn dX7_gripOn_151 rfl ⟨h, rfl, rfl, hE⟩
  by_cases c21 : ¬ v2 = (-1)
  · have hf := zif_t hf c21
    refine z_icmp_ne_t (tgt := 79) dX7_gripOn_72 (by decide) c21 ?_
    refine z_aload_n dX7_gripOn_79 rfl ?_
    refine z_getC dX7_gripOn_80 tF_7_15 hE ho_o.1 rfl rfl ?_
    refine z_iconst (v := 2) dX7_gripOn_83 (by decide) ?_
    refine z_iload_n dX7_gripOn_84 rfl ?_
    refine z_iconst (v := 0) dX7_gripOn_85 (by decide) ?_
    obtain ⟨r38, S37, k39, hf⟩ := zb_some hf
    refine z_callVi dX7_gripOn_86 tM_7_34 mt_10004 (Nat.le_of_ble_eq_true rfl) rfl rfl (z_recv hE dc_11 rfl) rfl (by have q0 : 15 < t.1 := Nat.lt_of_lt_of_le (by decide) hn1; have q1 : o < t.1 := Nat.lt_of_lt_of_le ho_o.2.2 (Nat.le_trans (by decide) hn1); simp [ia_oks, ia_okv, q0, q1]) (Nat.le_of_ble_eq_true rfl) (w_X10_item hn1 hn2 (d + 0) hE k39) (fun h hE => ?_)
    exact zW.sub (hJ22 r38 S37 _ hE hf) [1, 2, 3, 4, 0] rfl rfl rfl rfl
  · have hf := zif_f hf c21
    refine z_icmp_ne_f (tgt := 79) dX7_gripOn_72 (by decide) c21 ?_
    refine z_iconst (v := 0) dX7_gripOn_75 (by decide) ?_
    refine z_goto (tgt := 89) dX7_gripOn_76 (by decide) ?_
    exact zW.sub (hJ22 0 S20 _ hE hf) [1, 2, 3, 4, 0] rfl rfl rfl rfl
def f_X3_holdNow_L4 (i1 : Int32) : Nat → Int32 → Int32 → zS → Option (Int32 × zS)
  | 0, _, _, _ => none
  | k + 1, x2, x3, S =>
    if (S.1 37 1) ≤ x3 then
    some (x2, S)
    else
    zl (fun (u4 : Unit) =>
    if ia_in x3 20 = true then
    zl (fun (x8 : Int32) =>
    if x8 = 0 then
    if ia_in x3 20 = true then
    zl (if 0 < (x2 - ((S.1 38 x3.toNatClampNeg) / 10)) then (x2 - ((S.1 38 x3.toNatClampNeg) / 10)) else 0) fun (y11 : Int32) =>
    zl (x3 + 1) fun (y12 : Int32) =>
    f_X3_holdNow_L4 i1 k y11 y12 S
    else none
    else
    some ((-1), S)) fun J7 =>
    if (S.1 38 x3.toNatClampNeg) < x2 then
    J7 0
    else
    J7 1
    else none) fun J3 =>
    if (S.1 37 2) = 0 then
    J3 ()
    else
    if ¬ x3 = ((S.1 37 1) - 1) then
    J3 ()
    else
    if ia_in x3 20 = true then
    zl (fun (x17 : Int32) =>
    if x17 = 1 then
    zl (x3 + 1) fun (y19 : Int32) =>
    f_X3_holdNow_L4 i1 k x2 y19 S
    else
    some ((-1), S)) fun J16 =>
    if (S.1 38 x3.toNatClampNeg) < x2 then
    J16 0
    else
    J16 1
    else none
def f_X3_holdNow (v1 : Int32) (S : zS) : Option (Int32 × zS) :=
f_X3_holdNow_L4 v1 zN v1 0 S
theorem w_X3_holdNow_L4 {L : Nat} {xs : Nat → Int32} {fm : Value} {h0 : Nat → va_E} {t : Nat × Nat × Nat} (hn1 : 64 ≤ t.1) (hn2 : t.1 ≤ 1000000) (d : Nat) {i1 : Int32} {R : Int32 × zS} : ∀ (k : Nat) (x2 : Int32) (x3 : Int32) (S : zS) (h : Nat → va_E), zE (zDc t.1) h0 S (h, t) → f_X3_holdNow_L4 i1 k x2 x3 S = some R → zW (ia_P0 L xs fm) (d + 0) 3 false cX3_holdNow 5 (some .int) 4 [(0, .ref 37), (1, .int i1), (2, .int x2), (3, .int x3)] [] (h, t) (zQi (zDc t.1) h0 t R) := by
  intro k
  induction k with
  | zero => intro x2 x3 S h hE hf; cases hf
  | succ k ih =>
    intro x2 x3 S h hE hf
    unfold f_X3_holdNow_L4 at hf
    refine z_iload_n dX3_holdNow_4 rfl ?_
    refine z_aload_n dX3_holdNow_5 rfl ?_
    refine z_getI dX3_holdNow_6 tF_3_15 hE dc_37 rfl rfl ?_
    by_cases c1 : (S.1 37 1) ≤ x3
    · have hf := zif_t hf c1
      refine z_icmp_ge_t (tgt := 85) dX3_holdNow_9 (by decide) c1 ?_
      refine z_iload_n dX3_holdNow_85 rfl ?_
      have e_ := Option.some.inj hf
      subst e_
      exact z_ireturn dX3_holdNow_86 rfl ⟨h, rfl, rfl, hE⟩
    · have hf := zif_f hf c1
      refine z_icmp_ge_f (tgt := 85) dX3_holdNow_9 (by decide) c1 ?_
      refine z_aload_n dX3_holdNow_12 rfl ?_
      refine z_getI dX3_holdNow_13 tF_3_19 hE dc_37 rfl rfl ?_
      obtain ⟨J3, eJ3, hf⟩ := zl_some hf
      have hJ3 : ∀ (u4 : Unit) (h : Nat → va_E), zE (zDc t.1) h0 S (h, t) → J3 u4 = some R → zW (ia_P0 L xs fm) (d + 0) 3 false cX3_holdNow 5 (some .int) 33 [(0, .ref 37), (1, .int i1), (2, .int x2), (3, .int x3)] [] (h, t) (zQi (zDc t.1) h0 t R) := by
        intro u4 h hE hf
        rw [eJ3] at hf
        refine z_iconst (v := 0) dX3_holdNow_33 (by decide) ?_
        refine z_istore (lv' := [(4, .int 0), (0, .ref 37), (1, .int i1), (2, .int x2), (3, .int x3)]) dX3_holdNow_34 (by decide) rfl ?_
        refine z_aload_n dX3_holdNow_36 rfl ?_
        refine z_getC dX3_holdNow_37 tF_3_9 hE dc_37 rfl rfl ?_
        refine z_iload_n dX3_holdNow_40 rfl ?_
        obtain ⟨b5, hf⟩ := zchk hf
        refine z_ialoadL dX3_holdNow_41 hE dc_38 b5 rfl ?_
        refine z_iload_n dX3_holdNow_42 rfl ?_
        obtain ⟨J7, eJ7, hf⟩ := zl_some hf
        have hJ7 : ∀ (x8 : Int32) (h : Nat → va_E), zE (zDc t.1) h0 S (h, t) → J7 x8 = some R → zW (ia_P0 L xs fm) (d + 0) 3 false cX3_holdNow 5 (some .int) 51 [(0, .ref 37), (1, .int i1), (2, .int x2), (3, .int x3), (4, .int 0)] [.int x8] (h, t) (zQi (zDc t.1) h0 t R) := by
          intro x8 h hE hf
          rw [eJ7] at hf
          refine z_iload dX3_holdNow_51 rfl ?_
          by_cases c9 : x8 = 0
          · have hf := zif_t hf c9
            refine z_icmp_eq_t (tgt := 58) dX3_holdNow_53 (by decide) c9 ?_
            refine z_iload dX3_holdNow_58 rfl ?_
            refine z_if_ne_f (tgt := 79) dX3_holdNow_60 (by decide) (by decide) ?_
            refine z_iconst (v := 0) dX3_holdNow_63 (by decide) ?_
            refine z_iload_n dX3_holdNow_64 rfl ?_
            refine z_aload_n dX3_holdNow_65 rfl ?_
            refine z_getC dX3_holdNow_66 tF_3_9 hE dc_37 rfl rfl ?_
            refine z_iload_n dX3_holdNow_69 rfl ?_
            obtain ⟨b10, hf⟩ := zchk hf
            refine z_ialoadL dX3_holdNow_70 hE dc_38 b10 rfl ?_
            refine z_bipush (v := 10) dX3_holdNow_71 (by decide) ?_
            refine z_idiv dX3_holdNow_73 (by decide) ?_
            refine z_isub dX3_holdNow_74 ?_
            refine z_mmax dX3_holdNow_75 tM_3_23 (Nat.le_of_ble_eq_true rfl) ?_
            obtain ⟨y11, ey11, hf⟩ := zl_some hf
            refine z_topi ey11 ?_
            refine z_istore_n (lv' := [(2, .int y11), (0, .ref 37), (1, .int i1), (3, .int x3), (4, .int 0)]) dX3_holdNow_78 (by decide) rfl ?_
            obtain ⟨y12, ey12, hf⟩ := zl_some hf
            refine z_iincY (v := 1) (y := y12) (lv' := [(3, .int y12), (2, .int y11), (0, .ref 37), (1, .int i1), (4, .int 0)]) dX3_holdNow_79 rfl (by decide) (by decide) ey12 rfl ?_
            refine z_goto (tgt := 4) dX3_holdNow_82 (by decide) ?_
            exact zW.sub (ih y11 y12 S _ hE hf) [2, 3, 1, 0] rfl rfl rfl rfl
          · have hf := zif_f hf c9
            refine z_icmp_eq_f (tgt := 58) dX3_holdNow_53 (by decide) c9 ?_
            refine z_iconst (v := (-1)) dX3_holdNow_56 (by decide) ?_
            have e_ := Option.some.inj hf
            subst e_
            exact z_ireturn dX3_holdNow_57 rfl ⟨h, rfl, rfl, hE⟩
        by_cases c6 : (S.1 38 x3.toNatClampNeg) < x2
        · have hf := zif_t hf c6
          refine z_icmp_lt_t (tgt := 50) dX3_holdNow_43 (by decide) c6 ?_
          refine z_iconst (v := 0) dX3_holdNow_50 (by decide) ?_
          exact zW.sub (hJ7 0 _ hE hf) [1, 2, 3, 4, 0] rfl rfl rfl rfl
        · have hf := zif_f hf c6
          refine z_icmp_lt_f (tgt := 50) dX3_holdNow_43 (by decide) c6 ?_
          refine z_iconst (v := 1) dX3_holdNow_46 (by decide) ?_
          refine z_goto (tgt := 51) dX3_holdNow_47 (by decide) ?_
          exact zW.sub (hJ7 1 _ hE hf) [1, 2, 3, 4, 0] rfl rfl rfl rfl
      by_cases c2 : (S.1 37 2) = 0
      · have hf := zif_t hf c2
        refine z_if_eq_t (tgt := 33) dX3_holdNow_16 (by decide) c2 ?_
        exact zW.sub (hJ3 () _ hE hf) [0, 1, 2, 3] rfl rfl rfl rfl
      · have hf := zif_f hf c2
        refine z_if_eq_f (tgt := 33) dX3_holdNow_16 (by decide) c2 ?_
        refine z_iload_n dX3_holdNow_19 rfl ?_
        refine z_aload_n dX3_holdNow_20 rfl ?_
        refine z_getI dX3_holdNow_21 tF_3_15 hE dc_37 rfl rfl ?_
        refine z_iconst (v := 1) dX3_holdNow_24 (by decide) ?_
        refine z_isub dX3_holdNow_25 ?_
        by_cases c13 : ¬ x3 = ((S.1 37 1) - 1)
        · have hf := zif_t hf c13
          refine z_icmp_ne_t (tgt := 33) dX3_holdNow_26 (by decide) c13 ?_
          exact zW.sub (hJ3 () _ hE hf) [0, 1, 2, 3] rfl rfl rfl rfl
        · have hf := zif_f hf c13
          refine z_icmp_ne_f (tgt := 33) dX3_holdNow_26 (by decide) c13 ?_
          refine z_iconst (v := 1) dX3_holdNow_29 (by decide) ?_
          refine z_goto (tgt := 34) dX3_holdNow_30 (by decide) ?_
          refine z_istore (lv' := [(4, .int 1), (0, .ref 37), (1, .int i1), (2, .int x2), (3, .int x3)]) dX3_holdNow_34 (by decide) rfl ?_
          refine z_aload_n dX3_holdNow_36 rfl ?_
          refine z_getC dX3_holdNow_37 tF_3_9 hE dc_37 rfl rfl ?_
          refine z_iload_n dX3_holdNow_40 rfl ?_
          obtain ⟨b14, hf⟩ := zchk hf
          refine z_ialoadL dX3_holdNow_41 hE dc_38 b14 rfl ?_
          refine z_iload_n dX3_holdNow_42 rfl ?_
          obtain ⟨J16, eJ16, hf⟩ := zl_some hf
          have hJ16 : ∀ (x17 : Int32) (h : Nat → va_E), zE (zDc t.1) h0 S (h, t) → J16 x17 = some R → zW (ia_P0 L xs fm) (d + 0) 3 false cX3_holdNow 5 (some .int) 51 [(0, .ref 37), (1, .int i1), (2, .int x2), (3, .int x3), (4, .int 1)] [.int x17] (h, t) (zQi (zDc t.1) h0 t R) := by
            intro x17 h hE hf
            rw [eJ16] at hf
            refine z_iload dX3_holdNow_51 rfl ?_
            by_cases c18 : x17 = 1
            · have hf := zif_t hf c18
              refine z_icmp_eq_t (tgt := 58) dX3_holdNow_53 (by decide) c18 ?_
              refine z_iload dX3_holdNow_58 rfl ?_
              refine z_if_ne_t (tgt := 79) dX3_holdNow_60 (by decide) (by decide) ?_
              obtain ⟨y19, ey19, hf⟩ := zl_some hf
              refine z_iincY (v := 1) (y := y19) (lv' := [(3, .int y19), (0, .ref 37), (1, .int i1), (2, .int x2), (4, .int 1)]) dX3_holdNow_79 rfl (by decide) (by decide) ey19 rfl ?_
              refine z_goto (tgt := 4) dX3_holdNow_82 (by decide) ?_
              exact zW.sub (ih x2 y19 S _ hE hf) [1, 2, 3, 0] rfl rfl rfl rfl
            · have hf := zif_f hf c18
              refine z_icmp_eq_f (tgt := 58) dX3_holdNow_53 (by decide) c18 ?_
              refine z_iconst (v := (-1)) dX3_holdNow_56 (by decide) ?_
              have e_ := Option.some.inj hf
              subst e_
              exact z_ireturn dX3_holdNow_57 rfl ⟨h, rfl, rfl, hE⟩
          by_cases c15 : (S.1 38 x3.toNatClampNeg) < x2
          · have hf := zif_t hf c15
            refine z_icmp_lt_t (tgt := 50) dX3_holdNow_43 (by decide) c15 ?_
            refine z_iconst (v := 0) dX3_holdNow_50 (by decide) ?_
            exact zW.sub (hJ16 0 _ hE hf) [1, 2, 3, 4, 0] rfl rfl rfl rfl
          · have hf := zif_f hf c15
            refine z_icmp_lt_f (tgt := 50) dX3_holdNow_43 (by decide) c15 ?_
            refine z_iconst (v := 1) dX3_holdNow_46 (by decide) ?_
            refine z_goto (tgt := 51) dX3_holdNow_47 (by decide) ?_
            exact zW.sub (hJ16 1 _ hE hf) [1, 2, 3, 4, 0] rfl rfl rfl rfl
theorem w_X3_holdNow {L : Nat} {xs : Nat → Int32} {fm : Value} {h0 : Nat → va_E} {t : Nat × Nat × Nat} (hn1 : 64 ≤ t.1) (hn2 : t.1 ≤ 1000000) (d : Nat) {h : Nat → va_E} {S : zS} (hE : zE (zDc t.1) h0 S (h, t)) {v1 : Int32} {R : Int32 × zS} (hf : f_X3_holdNow v1 S = some R) : zC (ia_P0 L xs fm) (d + 1) 3004 [.ref 37, .int v1] (h, t) (zQi (zDc t.1) h0 t R) := by
  refine zC_of mt_3004 nn_3004 (Nat.le_of_ble_eq_true rfl) ?_
  refine zW_lv (lv' := [(0, .ref 37), (1, .int v1)]) rfl ?_
  unfold f_X3_holdNow at hf
  refine z_iload_n dX3_holdNow_0 rfl ?_
  refine z_istore_n (lv' := [(2, .int v1), (0, .ref 37), (1, .int v1)]) dX3_holdNow_1 (by decide) rfl ?_
  refine z_iconst (v := 0) dX3_holdNow_2 (by decide) ?_
  refine z_istore_n (lv' := [(3, .int 0), (2, .int v1), (0, .ref 37), (1, .int v1)]) dX3_holdNow_3 (by decide) rfl ?_
  exact zW.sub (w_X3_holdNow_L4 hn1 hn2 d zN v1 0 S h hE hf) [2, 3, 1, 0] rfl rfl rfl rfl
def f_X3_holdsOpenedBy_L4 (ex : Int32 → Int32 → zS → Option (Int32 × zS)) (i1 : Int32) : Nat → Int32 → Int32 → zS → Option (Int32 × zS)
  | 0, _, _, _ => none
  | k + 1, x2, x3, S =>
    if 300 < x3 then
    ex x2 x3 S
    else
    zb (f_X3_holdNow x3 S) fun r3 S2 =>
    zl (fun (x7 : Int32) =>
    zl (x3 + 1) fun (y8 : Int32) =>
    f_X3_holdsOpenedBy_L4 ex i1 k x7 y8 S2) fun J6 =>
    if r3 = (-1) then
    J6 x2
    else
    if i1 < r3 then
    J6 x2
    else
    zl (x2 + 1) fun (y10 : Int32) =>
    J6 y10
def f_X3_holdsOpenedBy (v1 : Int32) (S : zS) : Option (Int32 × zS) :=
f_X3_holdsOpenedBy_L4 (fun (x12 : Int32) (x13 : Int32) (S11 : zS) =>
some (x12, S11)) v1 zN 0 0 S
theorem w_X3_holdsOpenedBy_L4 {L : Nat} {xs : Nat → Int32} {fm : Value} {h0 : Nat → va_E} {t : Nat × Nat × Nat} (hn1 : 64 ≤ t.1) (hn2 : t.1 ≤ 1000000) (d : Nat) {ex : Int32 → Int32 → zS → Option (Int32 × zS)} {i1 : Int32} {R : Int32 × zS} (hex : ∀ (x2 : Int32) (x3 : Int32) (S : zS) (h : Nat → va_E), zE (zDc t.1) h0 S (h, t) → ex x2 x3 S = some R → zW (ia_P0 L xs fm) (d + 1) 3 false cX3_holdsOpenedBy 5 (some .int) 39 [(0, .ref 37), (1, .int i1), (2, .int x2), (3, .int x3)] [] (h, t) (zQi (zDc t.1) h0 t R)) : ∀ (k : Nat) (x2 : Int32) (x3 : Int32) (S : zS) (h : Nat → va_E), zE (zDc t.1) h0 S (h, t) → f_X3_holdsOpenedBy_L4 ex i1 k x2 x3 S = some R → zW (ia_P0 L xs fm) (d + 1) 3 false cX3_holdsOpenedBy 5 (some .int) 4 [(0, .ref 37), (1, .int i1), (2, .int x2), (3, .int x3)] [] (h, t) (zQi (zDc t.1) h0 t R) := by
  intro k
  induction k with
  | zero => intro x2 x3 S h hE hf; cases hf
  | succ k ih =>
    intro x2 x3 S h hE hf
    unfold f_X3_holdsOpenedBy_L4 at hf
    refine z_iload_n dX3_holdsOpenedBy_4 rfl ?_
    refine z_sipush (v := 300) dX3_holdsOpenedBy_5 (by decide) ?_
    by_cases c1 : 300 < x3
    · have hf := zif_t hf c1
      refine z_icmp_gt_t (tgt := 39) dX3_holdsOpenedBy_8 (by decide) c1 ?_
      exact zW.sub (hex x2 x3 S _ hE hf) [0, 1, 2, 3] rfl rfl rfl rfl
    · have hf := zif_f hf c1
      refine z_icmp_gt_f (tgt := 39) dX3_holdsOpenedBy_8 (by decide) c1 ?_
      refine z_aload_n dX3_holdsOpenedBy_11 rfl ?_
      refine z_iload_n dX3_holdsOpenedBy_12 rfl ?_
      obtain ⟨r3, S2, k4, hf⟩ := zb_some hf
      refine z_callVi dX3_holdsOpenedBy_13 tM_3_29 mt_3004 (Nat.le_of_ble_eq_true rfl) rfl rfl (z_recv hE dc_37 rfl) rfl (ia_oks_le hn1 rfl) (Nat.le_of_ble_eq_true rfl) (w_X3_holdNow hn1 hn2 (d + 0) hE k4) (fun h hE => ?_)
      refine z_istore (lv' := [(4, .int r3), (0, .ref 37), (1, .int i1), (2, .int x2), (3, .int x3)]) dX3_holdsOpenedBy_16 (by decide) rfl ?_
      refine z_iload dX3_holdsOpenedBy_18 rfl ?_
      refine z_iconst (v := (-1)) dX3_holdsOpenedBy_20 (by decide) ?_
      obtain ⟨J6, eJ6, hf⟩ := zl_some hf
      have hJ6 : ∀ (x7 : Int32) (h : Nat → va_E), zE (zDc t.1) h0 S2 (h, t) → J6 x7 = some R → zW (ia_P0 L xs fm) (d + 1) 3 false cX3_holdsOpenedBy 5 (some .int) 33 [(0, .ref 37), (1, .int i1), (2, .int x7), (3, .int x3), (4, .int r3)] [] (h, t) (zQi (zDc t.1) h0 t R) := by
        intro x7 h hE hf
        rw [eJ6] at hf
        obtain ⟨y8, ey8, hf⟩ := zl_some hf
        refine z_iincY (v := 1) (y := y8) (lv' := [(3, .int y8), (0, .ref 37), (1, .int i1), (2, .int x7), (4, .int r3)]) dX3_holdsOpenedBy_33 rfl (by decide) (by decide) ey8 rfl ?_
        refine z_goto (tgt := 4) dX3_holdsOpenedBy_36 (by decide) ?_
        exact zW.sub (ih x7 y8 S2 _ hE hf) [1, 2, 3, 0] rfl rfl rfl rfl
      by_cases c5 : r3 = (-1)
      · have hf := zif_t hf c5
        refine z_icmp_eq_t (tgt := 33) dX3_holdsOpenedBy_21 (by decide) c5 ?_
        exact zW.sub (hJ6 x2 _ hE hf) [1, 2, 3, 4, 0] rfl rfl rfl rfl
      · have hf := zif_f hf c5
        refine z_icmp_eq_f (tgt := 33) dX3_holdsOpenedBy_21 (by decide) c5 ?_
        refine z_iload dX3_holdsOpenedBy_24 rfl ?_
        refine z_iload_n dX3_holdsOpenedBy_26 rfl ?_
        by_cases c9 : i1 < r3
        · have hf := zif_t hf c9
          refine z_icmp_gt_t (tgt := 33) dX3_holdsOpenedBy_27 (by decide) c9 ?_
          exact zW.sub (hJ6 x2 _ hE hf) [1, 2, 3, 4, 0] rfl rfl rfl rfl
        · have hf := zif_f hf c9
          refine z_icmp_gt_f (tgt := 33) dX3_holdsOpenedBy_27 (by decide) c9 ?_
          obtain ⟨y10, ey10, hf⟩ := zl_some hf
          refine z_iincY (v := 1) (y := y10) (lv' := [(2, .int y10), (4, .int r3), (0, .ref 37), (1, .int i1), (3, .int x3)]) dX3_holdsOpenedBy_30 rfl (by decide) (by decide) ey10 rfl ?_
          exact zW.sub (hJ6 y10 _ hE hf) [2, 3, 0, 4, 1] rfl rfl rfl rfl
theorem w_X3_holdsOpenedBy {L : Nat} {xs : Nat → Int32} {fm : Value} {h0 : Nat → va_E} {t : Nat × Nat × Nat} (hn1 : 64 ≤ t.1) (hn2 : t.1 ≤ 1000000) (d : Nat) {h : Nat → va_E} {S : zS} (hE : zE (zDc t.1) h0 S (h, t)) {v1 : Int32} {R : Int32 × zS} (hf : f_X3_holdsOpenedBy v1 S = some R) : zC (ia_P0 L xs fm) (d + 2) 3003 [.ref 37, .int v1] (h, t) (zQi (zDc t.1) h0 t R) := by
  refine zC_of mt_3003 nn_3003 (Nat.le_of_ble_eq_true rfl) ?_
  refine zW_lv (lv' := [(0, .ref 37), (1, .int v1)]) rfl ?_
  unfold f_X3_holdsOpenedBy at hf
  refine z_iconst (v := 0) dX3_holdsOpenedBy_0 (by decide) ?_
  refine z_istore_n (lv' := [(2, .int 0), (0, .ref 37), (1, .int v1)]) dX3_holdsOpenedBy_1 (by decide) rfl ?_
  refine z_iconst (v := 0) dX3_holdsOpenedBy_2 (by decide) ?_
  refine z_istore_n (lv' := [(3, .int 0), (2, .int 0), (0, .ref 37), (1, .int v1)]) dX3_holdsOpenedBy_3 (by decide) rfl ?_
  refine zW.sub (w_X3_holdsOpenedBy_L4 hn1 hn2 d (fun x12 x13 S11 h hE hf => ?_) zN 0 0 S h hE hf) [2, 3, 1, 0] rfl rfl rfl rfl
  try dsimp only at hf
  refine z_iload_n dX3_holdsOpenedBy_39 rfl ?_
  have e_ := Option.some.inj hf
  subst e_
  exact z_ireturn dX3_holdsOpenedBy_40 rfl ⟨h, rfl, rfl, hE⟩
def f_X3_least_L2  : Nat → Int32 → zS → Option (Int32 × zS)
  | 0, _, _ => none
  | k + 1, x1, S =>
    if 300 < x1 then
    some ((-1), S)
    else
    zb (f_X3_holdNow x1 S) fun r3 S2 =>
    if r3 = (-1) then
    zl (x1 + 1) fun (y6 : Int32) =>
    f_X3_least_L2 k y6 S2
    else
    some (x1, S2)
def f_X3_least  (S : zS) : Option (Int32 × zS) :=
f_X3_least_L2  zN 0 S
theorem w_X3_least_L2 {L : Nat} {xs : Nat → Int32} {fm : Value} {h0 : Nat → va_E} {t : Nat × Nat × Nat} (hn1 : 64 ≤ t.1) (hn2 : t.1 ≤ 1000000) (d : Nat) {R : Int32 × zS} : ∀ (k : Nat) (x1 : Int32) (S : zS) (h : Nat → va_E), zE (zDc t.1) h0 S (h, t) → f_X3_least_L2  k x1 S = some R → zW (ia_P0 L xs fm) (d + 1) 3 false cX3_least 2 (some .int) 2 [(0, .ref 37), (1, .int x1)] [] (h, t) (zQi (zDc t.1) h0 t R) := by
  intro k
  induction k with
  | zero => intro x1 S h hE hf; cases hf
  | succ k ih =>
    intro x1 S h hE hf
    unfold f_X3_least_L2 at hf
    refine z_iload_n dX3_least_2 rfl ?_
    refine z_sipush (v := 300) dX3_least_3 (by decide) ?_
    by_cases c1 : 300 < x1
    · have hf := zif_t hf c1
      refine z_icmp_gt_t (tgt := 26) dX3_least_6 (by decide) c1 ?_
      refine z_iconst (v := (-1)) dX3_least_26 (by decide) ?_
      have e_ := Option.some.inj hf
      subst e_
      exact z_ireturn dX3_least_27 rfl ⟨h, rfl, rfl, hE⟩
    · have hf := zif_f hf c1
      refine z_icmp_gt_f (tgt := 26) dX3_least_6 (by decide) c1 ?_
      refine z_aload_n dX3_least_9 rfl ?_
      refine z_iload_n dX3_least_10 rfl ?_
      obtain ⟨r3, S2, k4, hf⟩ := zb_some hf
      refine z_callVi dX3_least_11 tM_3_29 mt_3004 (Nat.le_of_ble_eq_true rfl) rfl rfl (z_recv hE dc_37 rfl) rfl (ia_oks_le hn1 rfl) (Nat.le_of_ble_eq_true rfl) (w_X3_holdNow hn1 hn2 (d + 0) hE k4) (fun h hE => ?_)
      refine z_iconst (v := (-1)) dX3_least_14 (by decide) ?_
      by_cases c5 : r3 = (-1)
      · have hf := zif_t hf c5
        refine z_icmp_eq_t (tgt := 20) dX3_least_15 (by decide) c5 ?_
        obtain ⟨y6, ey6, hf⟩ := zl_some hf
        refine z_iincY (v := 1) (y := y6) (lv' := [(1, .int y6), (0, .ref 37)]) dX3_least_20 rfl (by decide) (by decide) ey6 rfl ?_
        refine z_goto (tgt := 2) dX3_least_23 (by decide) ?_
        exact zW.sub (ih y6 S2 _ hE hf) [1, 0] rfl rfl rfl rfl
      · have hf := zif_f hf c5
        refine z_icmp_eq_f (tgt := 20) dX3_least_15 (by decide) c5 ?_
        refine z_iload_n dX3_least_18 rfl ?_
        have e_ := Option.some.inj hf
        subst e_
        exact z_ireturn dX3_least_19 rfl ⟨h, rfl, rfl, hE⟩
theorem w_X3_least {L : Nat} {xs : Nat → Int32} {fm : Value} {h0 : Nat → va_E} {t : Nat × Nat × Nat} (hn1 : 64 ≤ t.1) (hn2 : t.1 ≤ 1000000) (d : Nat) {h : Nat → va_E} {S : zS} (hE : zE (zDc t.1) h0 S (h, t)) {R : Int32 × zS} (hf : f_X3_least  S = some R) : zC (ia_P0 L xs fm) (d + 2) 3005 [.ref 37] (h, t) (zQi (zDc t.1) h0 t R) := by
  refine zC_of mt_3005 nn_3005 (Nat.le_of_ble_eq_true rfl) ?_
  refine zW_lv (lv' := [(0, .ref 37)]) rfl ?_
  unfold f_X3_least at hf
  refine z_iconst (v := 0) dX3_least_0 (by decide) ?_
  refine z_istore_n (lv' := [(1, .int 0), (0, .ref 37)]) dX3_least_1 (by decide) rfl ?_
  exact zW.sub (w_X3_least_L2 hn1 hn2 d zN 0 S h hE hf) [1, 0] rfl rfl rfl rfl
def f_X3_greatest_L4  : Nat → Int32 → zS → Option (Int32 × zS)
  | 0, _, _ => none
  | k + 1, x1, S =>
    if x1 < 0 then
    some ((-1), S)
    else
    zb (f_X3_holdNow x1 S) fun r3 S2 =>
    if r3 = (-1) then
    zl (x1 + (-1)) fun (y6 : Int32) =>
    f_X3_greatest_L4 k y6 S2
    else
    some (x1, S2)
def f_X3_greatest  (S : zS) : Option (Int32 × zS) :=
f_X3_greatest_L4  zN 300 S
theorem w_X3_greatest_L4 {L : Nat} {xs : Nat → Int32} {fm : Value} {h0 : Nat → va_E} {t : Nat × Nat × Nat} (hn1 : 64 ≤ t.1) (hn2 : t.1 ≤ 1000000) (d : Nat) {R : Int32 × zS} : ∀ (k : Nat) (x1 : Int32) (S : zS) (h : Nat → va_E), zE (zDc t.1) h0 S (h, t) → f_X3_greatest_L4  k x1 S = some R → zW (ia_P0 L xs fm) (d + 1) 3 false cX3_greatest 2 (some .int) 4 [(0, .ref 37), (1, .int x1)] [] (h, t) (zQi (zDc t.1) h0 t R) := by
  intro k
  induction k with
  | zero => intro x1 S h hE hf; cases hf
  | succ k ih =>
    intro x1 S h hE hf
    unfold f_X3_greatest_L4 at hf
    refine z_iload_n dX3_greatest_4 rfl ?_
    by_cases c1 : x1 < 0
    · have hf := zif_t hf c1
      refine z_if_lt_t (tgt := 25) dX3_greatest_5 (by decide) c1 ?_
      refine z_iconst (v := (-1)) dX3_greatest_25 (by decide) ?_
      have e_ := Option.some.inj hf
      subst e_
      exact z_ireturn dX3_greatest_26 rfl ⟨h, rfl, rfl, hE⟩
    · have hf := zif_f hf c1
      refine z_if_lt_f (tgt := 25) dX3_greatest_5 (by decide) c1 ?_
      refine z_aload_n dX3_greatest_8 rfl ?_
      refine z_iload_n dX3_greatest_9 rfl ?_
      obtain ⟨r3, S2, k4, hf⟩ := zb_some hf
      refine z_callVi dX3_greatest_10 tM_3_29 mt_3004 (Nat.le_of_ble_eq_true rfl) rfl rfl (z_recv hE dc_37 rfl) rfl (ia_oks_le hn1 rfl) (Nat.le_of_ble_eq_true rfl) (w_X3_holdNow hn1 hn2 (d + 0) hE k4) (fun h hE => ?_)
      refine z_iconst (v := (-1)) dX3_greatest_13 (by decide) ?_
      by_cases c5 : r3 = (-1)
      · have hf := zif_t hf c5
        refine z_icmp_eq_t (tgt := 19) dX3_greatest_14 (by decide) c5 ?_
        obtain ⟨y6, ey6, hf⟩ := zl_some hf
        refine z_iincY (v := (-1)) (y := y6) (lv' := [(1, .int y6), (0, .ref 37)]) dX3_greatest_19 rfl (by decide) (by decide) ey6 rfl ?_
        refine z_goto (tgt := 4) dX3_greatest_22 (by decide) ?_
        exact zW.sub (ih y6 S2 _ hE hf) [1, 0] rfl rfl rfl rfl
      · have hf := zif_f hf c5
        refine z_icmp_eq_f (tgt := 19) dX3_greatest_14 (by decide) c5 ?_
        refine z_iload_n dX3_greatest_17 rfl ?_
        have e_ := Option.some.inj hf
        subst e_
        exact z_ireturn dX3_greatest_18 rfl ⟨h, rfl, rfl, hE⟩
theorem w_X3_greatest {L : Nat} {xs : Nat → Int32} {fm : Value} {h0 : Nat → va_E} {t : Nat × Nat × Nat} (hn1 : 64 ≤ t.1) (hn2 : t.1 ≤ 1000000) (d : Nat) {h : Nat → va_E} {S : zS} (hE : zE (zDc t.1) h0 S (h, t)) {R : Int32 × zS} (hf : f_X3_greatest  S = some R) : zC (ia_P0 L xs fm) (d + 2) 3006 [.ref 37] (h, t) (zQi (zDc t.1) h0 t R) := by
  refine zC_of mt_3006 nn_3006 (Nat.le_of_ble_eq_true rfl) ?_
  refine zW_lv (lv' := [(0, .ref 37)]) rfl ?_
  unfold f_X3_greatest at hf
  refine z_sipush (v := 300) dX3_greatest_0 (by decide) ?_
  refine z_istore_n (lv' := [(1, .int 300), (0, .ref 37)]) dX3_greatest_3 (by decide) rfl ?_
  exact zW.sub (w_X3_greatest_L4 hn1 hn2 d zN 300 S h hE hf) [1, 0] rfl rfl rfl rfl
def f_X3_clear  (S : zS) : Option (Unit × zS) :=
zl (sV S 37 1 0) fun S1 =>
zl (sV S1 37 2 0) fun S2 =>
some ((), S2)
theorem w_X3_clear {L : Nat} {xs : Nat → Int32} {fm : Value} {h0 : Nat → va_E} {t : Nat × Nat × Nat} (hn1 : 64 ≤ t.1) (hn2 : t.1 ≤ 1000000) (d : Nat) {h : Nat → va_E} {S : zS} (hE : zE (zDc t.1) h0 S (h, t)) {R : Unit × zS} (hf : f_X3_clear  S = some R) : zC (ia_P0 L xs fm) (d + 1) 3001 [.ref 37] (h, t) (zQv (zDc t.1) h0 t R) := by
  refine zC_of mt_3001 nn_3001 (Nat.le_of_ble_eq_true rfl) ?_
  refine zW_lv (lv' := [(0, .ref 37)]) rfl ?_
  unfold f_X3_clear at hf
  refine z_aload_n dX3_clear_0 rfl ?_
  refine z_iconst (v := 0) dX3_clear_1 (by decide) ?_
  obtain ⟨S1, eS1, hf⟩ := zl_some hf
  refine z_putI dX3_clear_2 tF_3_15 hE dc_37 rfl rfl rfl rfl (fun h hE => ?_)
  rw [← eS1] at hE
  refine z_aload_n dX3_clear_5 rfl ?_
  refine z_iconst (v := 0) dX3_clear_6 (by decide) ?_
  obtain ⟨S2, eS2, hf⟩ := zl_some hf
  refine z_putI dX3_clear_7 tF_3_19 hE dc_37 rfl rfl (show ia_fit .boolean (.int 0) = true from by decide) rfl (fun h hE => ?_)
  rw [← eS2] at hE
  have e_ := Option.some.inj hf
  subst e_
  exact z_vreturn dX3_clear_10 rfl ⟨h, rfl, rfl, hE⟩
def f_X3_adds (v1 : Int32) (v2 : Int32) (S : zS) : Option (Int32 × zS) :=
if 20 ≤ (S.1 37 1) then
some (0, S)
else
if (S.1 37 2) = 0 then
if ia_in (S.1 37 1) 20 = true then
zl (sV S 38 ((S.1 37 1).toNatClampNeg) v1) fun S4 =>
zl (sV S4 37 1 ((S4.1 37 1) + 1)) fun S5 =>
if ia_fit .boolean (.int v2) = true then
zl (sV S5 37 2 v2) fun S6 =>
some (1, S6)
else none
else none
else
some (0, S)
theorem w_X3_adds {L : Nat} {xs : Nat → Int32} {fm : Value} {h0 : Nat → va_E} {t : Nat × Nat × Nat} (hn1 : 64 ≤ t.1) (hn2 : t.1 ≤ 1000000) (d : Nat) {h : Nat → va_E} {S : zS} (hE : zE (zDc t.1) h0 S (h, t)) {v1 : Int32} {v2 : Int32} {R : Int32 × zS} (hf : f_X3_adds v1 v2 S = some R) : zC (ia_P0 L xs fm) (d + 1) 3002 [.ref 37, .int v1, .int v2] (h, t) (zQi (zDc t.1) h0 t R) := by
  refine zC_of mt_3002 nn_3002 (Nat.le_of_ble_eq_true rfl) ?_
  refine zW_lv (lv' := [(0, .ref 37), (1, .int v1), (2, .int v2)]) rfl ?_
  unfold f_X3_adds at hf
  refine z_aload_n dX3_adds_0 rfl ?_
  refine z_getI dX3_adds_1 tF_3_15 hE dc_37 rfl rfl ?_
  refine z_bipush (v := 20) dX3_adds_4 (by decide) ?_
  by_cases c1 : 20 ≤ (S.1 37 1)
  · have hf := zif_t hf c1
    refine z_icmp_ge_t (tgt := 16) dX3_adds_6 (by decide) c1 ?_
    refine z_iconst (v := 0) dX3_adds_16 (by decide) ?_
    have e_ := Option.some.inj hf
    subst e_
    exact z_zreturn dX3_adds_17 rfl (by decide) ⟨h, rfl, rfl, hE⟩
  · have hf := zif_f hf c1
    refine z_icmp_ge_f (tgt := 16) dX3_adds_6 (by decide) c1 ?_
    refine z_aload_n dX3_adds_9 rfl ?_
    refine z_getI dX3_adds_10 tF_3_19 hE dc_37 rfl rfl ?_
    by_cases c2 : (S.1 37 2) = 0
    · have hf := zif_t hf c2
      refine z_if_eq_t (tgt := 18) dX3_adds_13 (by decide) c2 ?_
      refine z_aload_n dX3_adds_18 rfl ?_
      refine z_getC dX3_adds_19 tF_3_9 hE dc_37 rfl rfl ?_
      refine z_aload_n dX3_adds_22 rfl ?_
      refine z_getI dX3_adds_23 tF_3_15 hE dc_37 rfl rfl ?_
      refine z_iload_n dX3_adds_26 rfl ?_
      obtain ⟨b3, hf⟩ := zchk hf
      obtain ⟨S4, eS4, hf⟩ := zl_some hf
      refine z_iastoreL (i := (S.1 37 1).toNatClampNeg) dX3_adds_27 hE dc_38 b3 rfl (fun h hE => ?_)
      rw [← eS4] at hE
      refine z_aload_n dX3_adds_28 rfl ?_
      refine z_dup dX3_adds_29 rfl ?_
      refine z_getI dX3_adds_30 tF_3_15 hE dc_37 rfl rfl ?_
      refine z_iconst (v := 1) dX3_adds_33 (by decide) ?_
      refine z_iadd dX3_adds_34 ?_
      obtain ⟨S5, eS5, hf⟩ := zl_some hf
      refine z_putI dX3_adds_35 tF_3_15 hE dc_37 rfl rfl rfl rfl (fun h hE => ?_)
      rw [← eS5] at hE
      refine z_aload_n dX3_adds_38 rfl ?_
      refine z_iload_n dX3_adds_39 rfl ?_
      obtain ⟨b7, hf⟩ := zchk hf
      obtain ⟨S6, eS6, hf⟩ := zl_some hf
      refine z_putI dX3_adds_40 tF_3_19 hE dc_37 rfl rfl b7 rfl (fun h hE => ?_)
      rw [← eS6] at hE
      refine z_iconst (v := 1) dX3_adds_43 (by decide) ?_
      have e_ := Option.some.inj hf
      subst e_
      exact z_zreturn dX3_adds_44 rfl (by decide) ⟨h, rfl, rfl, hE⟩
    · have hf := zif_f hf c2
      refine z_if_eq_f (tgt := 18) dX3_adds_13 (by decide) c2 ?_
      refine z_iconst (v := 0) dX3_adds_16 (by decide) ?_
      have e_ := Option.some.inj hf
      subst e_
      exact z_zreturn dX3_adds_17 rfl (by decide) ⟨h, rfl, rfl, hE⟩
def f_X9_bytesOf_L5 (ex : Int32 → Int32 → zS → Option (Int32 × zS)) (i0 : Int32) : Nat → Int32 → Int32 → zS → Option (Int32 × zS)
  | 0, _, _, _ => none
  | k + 1, x1, x2, S =>
    if x2 < 0 then
    ex x1 x2 S
    else
    zl (fun (x4 : Int32) =>
    zl (x2 + (-8)) fun (y5 : Int32) =>
    f_X9_bytesOf_L5 ex i0 k x4 y5 S) fun J3 =>
    if (((i0.toUInt32 >>> (x2.toUInt32 &&& Int32.toUInt32 31)).toInt32) &&& 255) = 0 then
    J3 x1
    else
    zl (x1 + 1) fun (y6 : Int32) =>
    J3 y6
def f_X9_bytesOf (v0 : Int32) (S : zS) : Option (Int32 × zS) :=
f_X9_bytesOf_L5 (fun (x8 : Int32) (x9 : Int32) (S7 : zS) =>
some (x8, S7)) v0 zN 0 24 S
theorem w_X9_bytesOf_L5 {L : Nat} {xs : Nat → Int32} {fm : Value} {h0 : Nat → va_E} {t : Nat × Nat × Nat} (hn1 : 64 ≤ t.1) (hn2 : t.1 ≤ 1000000) (d : Nat) {ex : Int32 → Int32 → zS → Option (Int32 × zS)} {i0 : Int32} {R : Int32 × zS} (hex : ∀ (x1 : Int32) (x2 : Int32) (S : zS) (h : Nat → va_E), zE (zDc t.1) h0 S (h, t) → ex x1 x2 S = some R → zW (ia_P0 L xs fm) (d + 0) 9 false cX9_bytesOf 3 (some .int) 28 [(0, .int i0), (1, .int x1), (2, .int x2)] [] (h, t) (zQi (zDc t.1) h0 t R)) : ∀ (k : Nat) (x1 : Int32) (x2 : Int32) (S : zS) (h : Nat → va_E), zE (zDc t.1) h0 S (h, t) → f_X9_bytesOf_L5 ex i0 k x1 x2 S = some R → zW (ia_P0 L xs fm) (d + 0) 9 false cX9_bytesOf 3 (some .int) 5 [(0, .int i0), (1, .int x1), (2, .int x2)] [] (h, t) (zQi (zDc t.1) h0 t R) := by
  intro k
  induction k with
  | zero => intro x1 x2 S h hE hf; cases hf
  | succ k ih =>
    intro x1 x2 S h hE hf
    unfold f_X9_bytesOf_L5 at hf
    refine z_iload_n dX9_bytesOf_5 rfl ?_
    by_cases c1 : x2 < 0
    · have hf := zif_t hf c1
      refine z_if_lt_t (tgt := 28) dX9_bytesOf_6 (by decide) c1 ?_
      exact zW.sub (hex x1 x2 S _ hE hf) [0, 1, 2] rfl rfl rfl rfl
    · have hf := zif_f hf c1
      refine z_if_lt_f (tgt := 28) dX9_bytesOf_6 (by decide) c1 ?_
      refine z_iload_n dX9_bytesOf_9 rfl ?_
      refine z_iload_n dX9_bytesOf_10 rfl ?_
      refine z_iushr dX9_bytesOf_11 ?_
      refine z_sipush (v := 255) dX9_bytesOf_12 (by decide) ?_
      refine z_iand dX9_bytesOf_15 ?_
      obtain ⟨J3, eJ3, hf⟩ := zl_some hf
      have hJ3 : ∀ (x4 : Int32) (h : Nat → va_E), zE (zDc t.1) h0 S (h, t) → J3 x4 = some R → zW (ia_P0 L xs fm) (d + 0) 9 false cX9_bytesOf 3 (some .int) 22 [(0, .int i0), (1, .int x4), (2, .int x2)] [] (h, t) (zQi (zDc t.1) h0 t R) := by
        intro x4 h hE hf
        rw [eJ3] at hf
        obtain ⟨y5, ey5, hf⟩ := zl_some hf
        refine z_iincY (v := (-8)) (y := y5) (lv' := [(2, .int y5), (0, .int i0), (1, .int x4)]) dX9_bytesOf_22 rfl (by decide) (by decide) ey5 rfl ?_
        refine z_goto (tgt := 5) dX9_bytesOf_25 (by decide) ?_
        exact zW.sub (ih x4 y5 S _ hE hf) [1, 2, 0] rfl rfl rfl rfl
      by_cases c2 : (((i0.toUInt32 >>> (x2.toUInt32 &&& Int32.toUInt32 31)).toInt32) &&& 255) = 0
      · have hf := zif_t hf c2
        refine z_if_eq_t (tgt := 22) dX9_bytesOf_16 (by decide) c2 ?_
        exact zW.sub (hJ3 x1 _ hE hf) [0, 1, 2] rfl rfl rfl rfl
      · have hf := zif_f hf c2
        refine z_if_eq_f (tgt := 22) dX9_bytesOf_16 (by decide) c2 ?_
        obtain ⟨y6, ey6, hf⟩ := zl_some hf
        refine z_iincY (v := 1) (y := y6) (lv' := [(1, .int y6), (0, .int i0), (2, .int x2)]) dX9_bytesOf_19 rfl (by decide) (by decide) ey6 rfl ?_
        exact zW.sub (hJ3 y6 _ hE hf) [1, 0, 2] rfl rfl rfl rfl
theorem w_X9_bytesOf {L : Nat} {xs : Nat → Int32} {fm : Value} {h0 : Nat → va_E} {t : Nat × Nat × Nat} (hn1 : 64 ≤ t.1) (hn2 : t.1 ≤ 1000000) (d : Nat) {h : Nat → va_E} {S : zS} (hE : zE (zDc t.1) h0 S (h, t)) {v0 : Int32} {R : Int32 × zS} (hf : f_X9_bytesOf v0 S = some R) : zC (ia_P0 L xs fm) (d + 1) 9001 [.int v0] (h, t) (zQi (zDc t.1) h0 t R) := by
  refine zC_of mt_9001 nn_9001 (Nat.le_of_ble_eq_true rfl) ?_
  refine zW_lv (lv' := [(0, .int v0)]) rfl ?_
  unfold f_X9_bytesOf at hf
  refine z_iconst (v := 0) dX9_bytesOf_0 (by decide) ?_
  refine z_istore_n (lv' := [(1, .int 0), (0, .int v0)]) dX9_bytesOf_1 (by decide) rfl ?_
  refine z_bipush (v := 24) dX9_bytesOf_2 (by decide) ?_
  refine z_istore_n (lv' := [(2, .int 24), (1, .int 0), (0, .int v0)]) dX9_bytesOf_4 (by decide) rfl ?_
  refine zW.sub (w_X9_bytesOf_L5 hn1 hn2 d (fun x8 x9 S7 h hE hf => ?_) zN 0 24 S h hE hf) [2, 1, 0] rfl rfl rfl rfl
  try dsimp only at hf
  refine z_iload_n dX9_bytesOf_28 rfl ?_
  have e_ := Option.some.inj hf
  subst e_
  exact z_ireturn dX9_bytesOf_29 rfl ⟨h, rfl, rfl, hE⟩
def f_X9_add_L3 (ex : Int32 → zS → Option (Unit × zS)) (i1 : Int32) : Nat → Int32 → zS → Option (Unit × zS)
  | 0, _, _ => none
  | k + 1, x2, S =>
    if x2 < 0 then
    ex x2 S
    else
    zl (((i1.toUInt32 >>> (x2.toUInt32 &&& Int32.toUInt32 31)).toInt32) &&& 255) fun (y2 : Int32) =>
    zl (fun (S5 : zS) =>
    zl (x2 + (-8)) fun (y6 : Int32) =>
    f_X9_add_L3 ex i1 k y6 S5) fun J4 =>
    if y2 = 0 then
    J4 S
    else
    if 200 ≤ (S.1 1 1) then
    J4 S
    else
    if ia_in (S.1 1 1) 200 = true then
    zl (sV S 2 ((S.1 1 1).toNatClampNeg) y2) fun S9 =>
    zl (sV S9 1 1 ((S9.1 1 1) + 1)) fun S10 =>
    J4 S10
    else none
def f_X9_add (v1 : Int32) (S : zS) : Option (Unit × zS) :=
f_X9_add_L3 (fun (x12 : Int32) (S11 : zS) =>
some ((), S11)) v1 zN 24 S
theorem w_X9_add_L3 {L : Nat} {xs : Nat → Int32} {fm : Value} {h0 : Nat → va_E} {t : Nat × Nat × Nat} (hn1 : 64 ≤ t.1) (hn2 : t.1 ≤ 1000000) (d : Nat) {ex : Int32 → zS → Option (Unit × zS)} {i1 : Int32} {R : Unit × zS} (hex : ∀ (x2 : Int32) (S : zS) (h : Nat → va_E), zE (zDc t.1) h0 S (h, t) → ex x2 S = some R → zW (ia_P0 L xs fm) (d + 0) 9 false cX9_add 4 (none) 55 [(0, .ref 1), (1, .int i1), (2, .int x2)] [] (h, t) (zQv (zDc t.1) h0 t R)) : ∀ (k : Nat) (x2 : Int32) (S : zS) (h : Nat → va_E), zE (zDc t.1) h0 S (h, t) → f_X9_add_L3 ex i1 k x2 S = some R → zW (ia_P0 L xs fm) (d + 0) 9 false cX9_add 4 (none) 3 [(0, .ref 1), (1, .int i1), (2, .int x2)] [] (h, t) (zQv (zDc t.1) h0 t R) := by
  intro k
  induction k with
  | zero => intro x2 S h hE hf; cases hf
  | succ k ih =>
    intro x2 S h hE hf
    unfold f_X9_add_L3 at hf
    refine z_iload_n dX9_add_3 rfl ?_
    by_cases c1 : x2 < 0
    · have hf := zif_t hf c1
      refine z_if_lt_t (tgt := 55) dX9_add_4 (by decide) c1 ?_
      exact zW.sub (hex x2 S _ hE hf) [0, 1, 2] rfl rfl rfl rfl
    · have hf := zif_f hf c1
      refine z_if_lt_f (tgt := 55) dX9_add_4 (by decide) c1 ?_
      refine z_iload_n dX9_add_7 rfl ?_
      refine z_iload_n dX9_add_8 rfl ?_
      refine z_iushr dX9_add_9 ?_
      refine z_sipush (v := 255) dX9_add_10 (by decide) ?_
      refine z_iand dX9_add_13 ?_
      obtain ⟨y2, ey2, hf⟩ := zl_some hf
      refine z_topi ey2 ?_
      refine z_istore_n (lv' := [(3, .int y2), (0, .ref 1), (1, .int i1), (2, .int x2)]) dX9_add_14 (by decide) rfl ?_
      refine z_iload_n dX9_add_15 rfl ?_
      obtain ⟨J4, eJ4, hf⟩ := zl_some hf
      have hJ4 : ∀ (S5 : zS) (h : Nat → va_E), zE (zDc t.1) h0 S5 (h, t) → J4 S5 = some R → zW (ia_P0 L xs fm) (d + 0) 9 false cX9_add 4 (none) 49 [(0, .ref 1), (1, .int i1), (2, .int x2), (3, .int y2)] [] (h, t) (zQv (zDc t.1) h0 t R) := by
        intro S5 h hE hf
        rw [eJ4] at hf
        obtain ⟨y6, ey6, hf⟩ := zl_some hf
        refine z_iincY (v := (-8)) (y := y6) (lv' := [(2, .int y6), (0, .ref 1), (1, .int i1), (3, .int y2)]) dX9_add_49 rfl (by decide) (by decide) ey6 rfl ?_
        refine z_goto (tgt := 3) dX9_add_52 (by decide) ?_
        exact zW.sub (ih y6 S5 _ hE hf) [1, 2, 0] rfl rfl rfl rfl
      by_cases c3 : y2 = 0
      · have hf := zif_t hf c3
        refine z_if_eq_t (tgt := 49) dX9_add_16 (by decide) c3 ?_
        exact zW.sub (hJ4 S _ hE hf) [1, 2, 3, 0] rfl rfl rfl rfl
      · have hf := zif_f hf c3
        refine z_if_eq_f (tgt := 49) dX9_add_16 (by decide) c3 ?_
        refine z_aload_n dX9_add_19 rfl ?_
        refine z_getI dX9_add_20 tF_9_19 hE dc_1 rfl rfl ?_
        refine z_sipush (v := 200) dX9_add_23 (by decide) ?_
        by_cases c7 : 200 ≤ (S.1 1 1)
        · have hf := zif_t hf c7
          refine z_icmp_ge_t (tgt := 49) dX9_add_26 (by decide) c7 ?_
          exact zW.sub (hJ4 S _ hE hf) [1, 2, 3, 0] rfl rfl rfl rfl
        · have hf := zif_f hf c7
          refine z_icmp_ge_f (tgt := 49) dX9_add_26 (by decide) c7 ?_
          refine z_aload_n dX9_add_29 rfl ?_
          refine z_getC dX9_add_30 tF_9_9 hE dc_1 rfl rfl ?_
          refine z_aload_n dX9_add_33 rfl ?_
          refine z_getI dX9_add_34 tF_9_19 hE dc_1 rfl rfl ?_
          refine z_iload_n dX9_add_37 rfl ?_
          obtain ⟨b8, hf⟩ := zchk hf
          obtain ⟨S9, eS9, hf⟩ := zl_some hf
          refine z_iastoreL (i := (S.1 1 1).toNatClampNeg) dX9_add_38 hE dc_2 b8 rfl (fun h hE => ?_)
          rw [← eS9] at hE
          refine z_aload_n dX9_add_39 rfl ?_
          refine z_dup dX9_add_40 rfl ?_
          refine z_getI dX9_add_41 tF_9_19 hE dc_1 rfl rfl ?_
          refine z_iconst (v := 1) dX9_add_44 (by decide) ?_
          refine z_iadd dX9_add_45 ?_
          obtain ⟨S10, eS10, hf⟩ := zl_some hf
          refine z_putI dX9_add_46 tF_9_19 hE dc_1 rfl rfl rfl rfl (fun h hE => ?_)
          rw [← eS10] at hE
          exact zW.sub (hJ4 S10 _ hE hf) [1, 2, 3, 0] rfl rfl rfl rfl
theorem w_X9_add {L : Nat} {xs : Nat → Int32} {fm : Value} {h0 : Nat → va_E} {t : Nat × Nat × Nat} (hn1 : 64 ≤ t.1) (hn2 : t.1 ≤ 1000000) (d : Nat) {h : Nat → va_E} {S : zS} (hE : zE (zDc t.1) h0 S (h, t)) {v1 : Int32} {R : Unit × zS} (hf : f_X9_add v1 S = some R) : zC (ia_P0 L xs fm) (d + 1) 9002 [.ref 1, .int v1] (h, t) (zQv (zDc t.1) h0 t R) := by
  refine zC_of mt_9002 nn_9002 (Nat.le_of_ble_eq_true rfl) ?_
  refine zW_lv (lv' := [(0, .ref 1), (1, .int v1)]) rfl ?_
  unfold f_X9_add at hf
  refine z_bipush (v := 24) dX9_add_0 (by decide) ?_
  refine z_istore_n (lv' := [(2, .int 24), (0, .ref 1), (1, .int v1)]) dX9_add_2 (by decide) rfl ?_
  refine zW.sub (w_X9_add_L3 hn1 hn2 d (fun x12 S11 h hE hf => ?_) zN 24 S h hE hf) [1, 2, 0] rfl rfl rfl rfl
  try dsimp only at hf
  have e_ := Option.some.inj hf
  subst e_
  exact z_vreturn dX9_add_55 rfl ⟨h, rfl, rfl, hE⟩
def f_X9_sign_L2 (ex : Int32 → zS → Option (Int32 × zS))  : Nat → Int32 → zS → Option (Int32 × zS)
  | 0, _, _ => none
  | k + 1, x1, S =>
    if 200 ≤ x1 then
    ex x1 S
    else
    if (S.1 1 1) ≤ (S.1 1 2) then
    ex x1 S
    else
    if ia_in (S.1 1 2) 200 = true then
    if ¬ (S.1 2 (S.1 1 2).toNatClampNeg) = 32 then
    ex x1 S
    else
    zl (sV S 1 2 ((S.1 1 2) + 1)) fun S5 =>
    zl (x1 + 1) fun (y6 : Int32) =>
    f_X9_sign_L2 ex k y6 S5
    else none
def f_X9_sign  (S : zS) : Option (Int32 × zS) :=
f_X9_sign_L2 (fun (x8 : Int32) (S7 : zS) =>
if ¬ (S7.1 1 3) = (-1) then
some (0, S7)
else
if (S7.1 1 1) ≤ (S7.1 1 2) then
some (0, S7)
else
if ia_in (S7.1 1 2) 200 = true then
some (S7.1 2 (S7.1 1 2).toNatClampNeg, S7)
else none)  zN 0 S
theorem w_X9_sign_L2 {L : Nat} {xs : Nat → Int32} {fm : Value} {h0 : Nat → va_E} {t : Nat × Nat × Nat} (hn1 : 64 ≤ t.1) (hn2 : t.1 ≤ 1000000) (d : Nat) {ex : Int32 → zS → Option (Int32 × zS)} {R : Int32 × zS} (hex : ∀ (x1 : Int32) (S : zS) (h : Nat → va_E), zE (zDc t.1) h0 S (h, t) → ex x1 S = some R → zW (ia_P0 L xs fm) (d + 0) 9 false cX9_sign 2 (some .int) 50 [(0, .ref 1), (1, .int x1)] [] (h, t) (zQi (zDc t.1) h0 t R)) : ∀ (k : Nat) (x1 : Int32) (S : zS) (h : Nat → va_E), zE (zDc t.1) h0 S (h, t) → f_X9_sign_L2 ex  k x1 S = some R → zW (ia_P0 L xs fm) (d + 0) 9 false cX9_sign 2 (some .int) 2 [(0, .ref 1), (1, .int x1)] [] (h, t) (zQi (zDc t.1) h0 t R) := by
  intro k
  induction k with
  | zero => intro x1 S h hE hf; cases hf
  | succ k ih =>
    intro x1 S h hE hf
    unfold f_X9_sign_L2 at hf
    refine z_iload_n dX9_sign_2 rfl ?_
    refine z_sipush (v := 200) dX9_sign_3 (by decide) ?_
    by_cases c1 : 200 ≤ x1
    · have hf := zif_t hf c1
      refine z_icmp_ge_t (tgt := 50) dX9_sign_6 (by decide) c1 ?_
      exact zW.sub (hex x1 S _ hE hf) [0, 1] rfl rfl rfl rfl
    · have hf := zif_f hf c1
      refine z_icmp_ge_f (tgt := 50) dX9_sign_6 (by decide) c1 ?_
      refine z_aload_n dX9_sign_9 rfl ?_
      refine z_getI dX9_sign_10 tF_9_22 hE dc_1 rfl rfl ?_
      refine z_aload_n dX9_sign_13 rfl ?_
      refine z_getI dX9_sign_14 tF_9_19 hE dc_1 rfl rfl ?_
      by_cases c2 : (S.1 1 1) ≤ (S.1 1 2)
      · have hf := zif_t hf c2
        refine z_icmp_ge_t (tgt := 50) dX9_sign_17 (by decide) c2 ?_
        exact zW.sub (hex x1 S _ hE hf) [0, 1] rfl rfl rfl rfl
      · have hf := zif_f hf c2
        refine z_icmp_ge_f (tgt := 50) dX9_sign_17 (by decide) c2 ?_
        refine z_aload_n dX9_sign_20 rfl ?_
        refine z_getC dX9_sign_21 tF_9_9 hE dc_1 rfl rfl ?_
        refine z_aload_n dX9_sign_24 rfl ?_
        refine z_getI dX9_sign_25 tF_9_22 hE dc_1 rfl rfl ?_
        obtain ⟨b3, hf⟩ := zchk hf
        refine z_ialoadL dX9_sign_28 hE dc_2 b3 rfl ?_
        refine z_bipush (v := 32) dX9_sign_29 (by decide) ?_
        by_cases c4 : ¬ (S.1 2 (S.1 1 2).toNatClampNeg) = 32
        · have hf := zif_t hf c4
          refine z_icmp_ne_t (tgt := 50) dX9_sign_31 (by decide) c4 ?_
          exact zW.sub (hex x1 S _ hE hf) [0, 1] rfl rfl rfl rfl
        · have hf := zif_f hf c4
          refine z_icmp_ne_f (tgt := 50) dX9_sign_31 (by decide) c4 ?_
          refine z_aload_n dX9_sign_34 rfl ?_
          refine z_dup dX9_sign_35 rfl ?_
          refine z_getI dX9_sign_36 tF_9_22 hE dc_1 rfl rfl ?_
          refine z_iconst (v := 1) dX9_sign_39 (by decide) ?_
          refine z_iadd dX9_sign_40 ?_
          obtain ⟨S5, eS5, hf⟩ := zl_some hf
          refine z_putI dX9_sign_41 tF_9_22 hE dc_1 rfl rfl rfl rfl (fun h hE => ?_)
          rw [← eS5] at hE
          obtain ⟨y6, ey6, hf⟩ := zl_some hf
          refine z_iincY (v := 1) (y := y6) (lv' := [(1, .int y6), (0, .ref 1)]) dX9_sign_44 rfl (by decide) (by decide) ey6 rfl ?_
          refine z_goto (tgt := 2) dX9_sign_47 (by decide) ?_
          exact zW.sub (ih y6 S5 _ hE hf) [1, 0] rfl rfl rfl rfl
theorem w_X9_sign {L : Nat} {xs : Nat → Int32} {fm : Value} {h0 : Nat → va_E} {t : Nat × Nat × Nat} (hn1 : 64 ≤ t.1) (hn2 : t.1 ≤ 1000000) (d : Nat) {h : Nat → va_E} {S : zS} (hE : zE (zDc t.1) h0 S (h, t)) {R : Int32 × zS} (hf : f_X9_sign  S = some R) : zC (ia_P0 L xs fm) (d + 1) 9004 [.ref 1] (h, t) (zQi (zDc t.1) h0 t R) := by
  refine zC_of mt_9004 nn_9004 (Nat.le_of_ble_eq_true rfl) ?_
  refine zW_lv (lv' := [(0, .ref 1)]) rfl ?_
  unfold f_X9_sign at hf
  refine z_iconst (v := 0) dX9_sign_0 (by decide) ?_
  refine z_istore_n (lv' := [(1, .int 0), (0, .ref 1)]) dX9_sign_1 (by decide) rfl ?_
  refine zW.sub (w_X9_sign_L2 hn1 hn2 d (fun x8 S7 h hE hf => ?_) zN 0 S h hE hf) [1, 0] rfl rfl rfl rfl
  try dsimp only at hf
  refine z_aload_n dX9_sign_50 rfl ?_
  refine z_getI dX9_sign_51 tF_9_15 hE dc_1 rfl rfl ?_
  refine z_iconst (v := (-1)) dX9_sign_54 (by decide) ?_
  by_cases c9 : ¬ (S7.1 1 3) = (-1)
  · have hf := zif_t hf c9
    refine z_icmp_ne_t (tgt := 81) dX9_sign_55 (by decide) c9 ?_
    refine z_iconst (v := 0) dX9_sign_81 (by decide) ?_
    have e_ := Option.some.inj hf
    subst e_
    exact z_ireturn dX9_sign_82 rfl ⟨h, rfl, rfl, hE⟩
  · have hf := zif_f hf c9
    refine z_icmp_ne_f (tgt := 81) dX9_sign_55 (by decide) c9 ?_
    refine z_aload_n dX9_sign_58 rfl ?_
    refine z_getI dX9_sign_59 tF_9_22 hE dc_1 rfl rfl ?_
    refine z_aload_n dX9_sign_62 rfl ?_
    refine z_getI dX9_sign_63 tF_9_19 hE dc_1 rfl rfl ?_
    by_cases c10 : (S7.1 1 1) ≤ (S7.1 1 2)
    · have hf := zif_t hf c10
      refine z_icmp_ge_t (tgt := 81) dX9_sign_66 (by decide) c10 ?_
      refine z_iconst (v := 0) dX9_sign_81 (by decide) ?_
      have e_ := Option.some.inj hf
      subst e_
      exact z_ireturn dX9_sign_82 rfl ⟨h, rfl, rfl, hE⟩
    · have hf := zif_f hf c10
      refine z_icmp_ge_f (tgt := 81) dX9_sign_66 (by decide) c10 ?_
      refine z_aload_n dX9_sign_69 rfl ?_
      refine z_getC dX9_sign_70 tF_9_9 hE dc_1 rfl rfl ?_
      refine z_aload_n dX9_sign_73 rfl ?_
      refine z_getI dX9_sign_74 tF_9_22 hE dc_1 rfl rfl ?_
      obtain ⟨b11, hf⟩ := zchk hf
      refine z_ialoadL dX9_sign_77 hE dc_2 b11 rfl ?_
      refine z_goto (tgt := 82) dX9_sign_78 (by decide) ?_
      have e_ := Option.some.inj hf
      subst e_
      exact z_ireturn dX9_sign_82 rfl ⟨h, rfl, rfl, hE⟩
def f_X9_isDigit (v0 : Int32) (S : zS) : Option (Int32 × zS) :=
if v0 < 48 then
some (0, S)
else
if 57 < v0 then
some (0, S)
else
some (1, S)
theorem w_X9_isDigit {L : Nat} {xs : Nat → Int32} {fm : Value} {h0 : Nat → va_E} {t : Nat × Nat × Nat} (hn1 : 64 ≤ t.1) (hn2 : t.1 ≤ 1000000) (d : Nat) {h : Nat → va_E} {S : zS} (hE : zE (zDc t.1) h0 S (h, t)) {v0 : Int32} {R : Int32 × zS} (hf : f_X9_isDigit v0 S = some R) : zC (ia_P0 L xs fm) (d + 1) 9007 [.int v0] (h, t) (zQi (zDc t.1) h0 t R) := by
  refine zC_of mt_9007 nn_9007 (Nat.le_of_ble_eq_true rfl) ?_
  refine zW_lv (lv' := [(0, .int v0)]) rfl ?_
  unfold f_X9_isDigit at hf
  refine z_iload_n dX9_isDigit_0 rfl ?_
  refine z_bipush (v := 48) dX9_isDigit_1 (by decide) ?_
  by_cases c1 : v0 < 48
  · have hf := zif_t hf c1
    refine z_icmp_lt_t (tgt := 16) dX9_isDigit_3 (by decide) c1 ?_
    refine z_iconst (v := 0) dX9_isDigit_16 (by decide) ?_
    have e_ := Option.some.inj hf
    subst e_
    exact z_zreturn dX9_isDigit_17 rfl (by decide) ⟨h, rfl, rfl, hE⟩
  · have hf := zif_f hf c1
    refine z_icmp_lt_f (tgt := 16) dX9_isDigit_3 (by decide) c1 ?_
    refine z_iload_n dX9_isDigit_6 rfl ?_
    refine z_bipush (v := 57) dX9_isDigit_7 (by decide) ?_
    by_cases c2 : 57 < v0
    · have hf := zif_t hf c2
      refine z_icmp_gt_t (tgt := 16) dX9_isDigit_9 (by decide) c2 ?_
      refine z_iconst (v := 0) dX9_isDigit_16 (by decide) ?_
      have e_ := Option.some.inj hf
      subst e_
      exact z_zreturn dX9_isDigit_17 rfl (by decide) ⟨h, rfl, rfl, hE⟩
    · have hf := zif_f hf c2
      refine z_icmp_gt_f (tgt := 16) dX9_isDigit_9 (by decide) c2 ?_
      refine z_iconst (v := 1) dX9_isDigit_12 (by decide) ?_
      refine z_goto (tgt := 17) dX9_isDigit_13 (by decide) ?_
      have e_ := Option.some.inj hf
      subst e_
      exact z_zreturn dX9_isDigit_17 rfl (by decide) ⟨h, rfl, rfl, hE⟩
def f_X9_fail  (S : zS) : Option (Unit × zS) :=
if ¬ (S.1 1 3) = (-1) then
some ((), S)
else
zl (sV S 1 3 (S.1 1 2)) fun S2 =>
some ((), S2)
theorem w_X9_fail {L : Nat} {xs : Nat → Int32} {fm : Value} {h0 : Nat → va_E} {t : Nat × Nat × Nat} (hn1 : 64 ≤ t.1) (hn2 : t.1 ≤ 1000000) (d : Nat) {h : Nat → va_E} {S : zS} (hE : zE (zDc t.1) h0 S (h, t)) {R : Unit × zS} (hf : f_X9_fail  S = some R) : zC (ia_P0 L xs fm) (d + 1) 9005 [.ref 1] (h, t) (zQv (zDc t.1) h0 t R) := by
  refine zC_of mt_9005 nn_9005 (Nat.le_of_ble_eq_true rfl) ?_
  refine zW_lv (lv' := [(0, .ref 1)]) rfl ?_
  unfold f_X9_fail at hf
  refine z_aload_n dX9_fail_0 rfl ?_
  refine z_getI dX9_fail_1 tF_9_15 hE dc_1 rfl rfl ?_
  refine z_iconst (v := (-1)) dX9_fail_4 (by decide) ?_
  by_cases c1 : ¬ (S.1 1 3) = (-1)
  · have hf := zif_t hf c1
    refine z_icmp_ne_t (tgt := 16) dX9_fail_5 (by decide) c1 ?_
    have e_ := Option.some.inj hf
    subst e_
    exact z_vreturn dX9_fail_16 rfl ⟨h, rfl, rfl, hE⟩
  · have hf := zif_f hf c1
    refine z_icmp_ne_f (tgt := 16) dX9_fail_5 (by decide) c1 ?_
    refine z_aload_n dX9_fail_8 rfl ?_
    refine z_aload_n dX9_fail_9 rfl ?_
    refine z_getI dX9_fail_10 tF_9_22 hE dc_1 rfl rfl ?_
    obtain ⟨S2, eS2, hf⟩ := zl_some hf
    refine z_putI dX9_fail_13 tF_9_15 hE dc_1 rfl rfl rfl rfl (fun h hE => ?_)
    rw [← eS2] at hE
    have e_ := Option.some.inj hf
    subst e_
    exact z_vreturn dX9_fail_16 rfl ⟨h, rfl, rfl, hE⟩
def f_X9_number_L22 (ex : Int32 → Int32 → zS → Option (Int32 × zS)) (i1 : Int32) (i2 : Int32) (i3 : Int32) : Nat → Int32 → Int32 → zS → Option (Int32 × zS)
  | 0, _, _, _ => none
  | k + 1, x4, x5, S =>
    if i1 ≤ x5 then
    ex x4 x5 S
    else
    if (S.1 1 1) ≤ (S.1 1 2) then
    ex x4 x5 S
    else
    if ia_in (S.1 1 2) 200 = true then
    zb (f_X9_isDigit (S.1 2 (S.1 1 2).toNatClampNeg) S) fun r12 S11 =>
    if r12 = 0 then
    ex x4 x5 S11
    else
    if ia_in (S11.1 1 2) 200 = true then
    zl (((x4 * 10) + (S11.1 2 (S11.1 1 2).toNatClampNeg)) - 48) fun (y16 : Int32) =>
    zl (sV S11 1 2 ((S11.1 1 2) + 1)) fun S17 =>
    zl (x5 + 1) fun (y18 : Int32) =>
    f_X9_number_L22 ex i1 i2 i3 k y16 y18 S17
    else none
    else none
def f_X9_number (v1 : Int32) (v2 : Int32) (v3 : Int32) (S : zS) : Option (Int32 × zS) :=
zb (f_X9_sign S) fun r2 S1 =>
zb (f_X9_isDigit r2 S1) fun r5 S4 =>
if ¬ r5 = 0 then
f_X9_number_L22 (fun (x20 : Int32) (x21 : Int32) (S19 : zS) =>
zl (fun (S24 : zS) =>
zl (fun (u27 : Unit) =>
zl (sV S24 1 3 ((S24.1 1 2) - 1)) fun S28 =>
some (x20, S28)) fun J26 =>
if x20 < v2 then
J26 ()
else
if x20 ≤ v3 then
some (x20, S24)
else
J26 ()) fun J23 =>
if (S19.1 1 1) ≤ (S19.1 1 2) then
J23 S19
else
if ia_in (S19.1 1 2) 200 = true then
zb (f_X9_isDigit (S19.1 2 (S19.1 1 2).toNatClampNeg) S19) fun r32 S31 =>
if r32 = 0 then
J23 S31
else
zb (f_X9_fail S31) fun _ S35 =>
some (x20, S35)
else none) v1 v2 v3 zN 0 0 S4
else
zb (f_X9_fail S4) fun _ S38 =>
some (v2, S38)
theorem w_X9_number_L22 {L : Nat} {xs : Nat → Int32} {fm : Value} {h0 : Nat → va_E} {t : Nat × Nat × Nat} (hn1 : 64 ≤ t.1) (hn2 : t.1 ≤ 1000000) (d : Nat) {ex : Int32 → Int32 → zS → Option (Int32 × zS)} {i1 : Int32} {i2 : Int32} {i3 : Int32} {R : Int32 × zS} (hex : ∀ (x4 : Int32) (x5 : Int32) (S : zS) (h : Nat → va_E), zE (zDc t.1) h0 S (h, t) → ex x4 x5 S = some R → zW (ia_P0 L xs fm) (d + 1) 9 false cX9_number 6 (some .int) 90 [(0, .ref 1), (1, .int i1), (2, .int i2), (3, .int i3), (4, .int x4), (5, .int x5)] [] (h, t) (zQi (zDc t.1) h0 t R)) : ∀ (k : Nat) (x4 : Int32) (x5 : Int32) (S : zS) (h : Nat → va_E), zE (zDc t.1) h0 S (h, t) → f_X9_number_L22 ex i1 i2 i3 k x4 x5 S = some R → zW (ia_P0 L xs fm) (d + 1) 9 false cX9_number 6 (some .int) 22 [(0, .ref 1), (1, .int i1), (2, .int i2), (3, .int i3), (4, .int x4), (5, .int x5)] [] (h, t) (zQi (zDc t.1) h0 t R) := by
  intro k
  induction k with
  | zero => intro x4 x5 S h hE hf; cases hf
  | succ k ih =>
    intro x4 x5 S h hE hf
    unfold f_X9_number_L22 at hf
    refine z_iload dX9_number_22 rfl ?_
    refine z_iload_n dX9_number_24 rfl ?_
    by_cases c8 : i1 ≤ x5
    · have hf := zif_t hf c8
      refine z_icmp_ge_t (tgt := 90) dX9_number_25 (by decide) c8 ?_
      exact zW.sub (hex x4 x5 S _ hE hf) [0, 1, 2, 3, 4, 5] rfl rfl rfl rfl
    · have hf := zif_f hf c8
      refine z_icmp_ge_f (tgt := 90) dX9_number_25 (by decide) c8 ?_
      refine z_aload_n dX9_number_28 rfl ?_
      refine z_getI dX9_number_29 tF_9_22 hE dc_1 rfl rfl ?_
      refine z_aload_n dX9_number_32 rfl ?_
      refine z_getI dX9_number_33 tF_9_19 hE dc_1 rfl rfl ?_
      by_cases c9 : (S.1 1 1) ≤ (S.1 1 2)
      · have hf := zif_t hf c9
        refine z_icmp_ge_t (tgt := 90) dX9_number_36 (by decide) c9 ?_
        exact zW.sub (hex x4 x5 S _ hE hf) [0, 1, 2, 3, 4, 5] rfl rfl rfl rfl
      · have hf := zif_f hf c9
        refine z_icmp_ge_f (tgt := 90) dX9_number_36 (by decide) c9 ?_
        refine z_aload_n dX9_number_39 rfl ?_
        refine z_getC dX9_number_40 tF_9_9 hE dc_1 rfl rfl ?_
        refine z_aload_n dX9_number_43 rfl ?_
        refine z_getI dX9_number_44 tF_9_22 hE dc_1 rfl rfl ?_
        obtain ⟨b10, hf⟩ := zchk hf
        refine z_ialoadL dX9_number_47 hE dc_2 b10 rfl ?_
        obtain ⟨r12, S11, k13, hf⟩ := zb_some hf
        refine z_callSi dX9_number_48 tM_9_32 (by decide) mt_9007 (Nat.le_of_ble_eq_true rfl) rfl rfl (ia_oks_le hn1 rfl) (Nat.le_of_ble_eq_true rfl) (w_X9_isDigit hn1 hn2 (d + 0) hE k13) (fun h hE => ?_)
        by_cases c14 : r12 = 0
        · have hf := zif_t hf c14
          refine z_if_eq_t (tgt := 90) dX9_number_51 (by decide) c14 ?_
          exact zW.sub (hex x4 x5 S11 _ hE hf) [0, 1, 2, 3, 4, 5] rfl rfl rfl rfl
        · have hf := zif_f hf c14
          refine z_if_eq_f (tgt := 90) dX9_number_51 (by decide) c14 ?_
          refine z_iload dX9_number_54 rfl ?_
          refine z_bipush (v := 10) dX9_number_56 (by decide) ?_
          refine z_imul dX9_number_58 ?_
          refine z_aload_n dX9_number_59 rfl ?_
          refine z_getC dX9_number_60 tF_9_9 hE dc_1 rfl rfl ?_
          refine z_aload_n dX9_number_63 rfl ?_
          refine z_getI dX9_number_64 tF_9_22 hE dc_1 rfl rfl ?_
          obtain ⟨b15, hf⟩ := zchk hf
          refine z_ialoadL dX9_number_67 hE dc_2 b15 rfl ?_
          refine z_iadd dX9_number_68 ?_
          refine z_bipush (v := 48) dX9_number_69 (by decide) ?_
          refine z_isub dX9_number_71 ?_
          obtain ⟨y16, ey16, hf⟩ := zl_some hf
          refine z_topi ey16 ?_
          refine z_istore (lv' := [(4, .int y16), (0, .ref 1), (1, .int i1), (2, .int i2), (3, .int i3), (5, .int x5)]) dX9_number_72 (by decide) rfl ?_
          refine z_aload_n dX9_number_74 rfl ?_
          refine z_dup dX9_number_75 rfl ?_
          refine z_getI dX9_number_76 tF_9_22 hE dc_1 rfl rfl ?_
          refine z_iconst (v := 1) dX9_number_79 (by decide) ?_
          refine z_iadd dX9_number_80 ?_
          obtain ⟨S17, eS17, hf⟩ := zl_some hf
          refine z_putI dX9_number_81 tF_9_22 hE dc_1 rfl rfl rfl rfl (fun h hE => ?_)
          rw [← eS17] at hE
          obtain ⟨y18, ey18, hf⟩ := zl_some hf
          refine z_iincY (v := 1) (y := y18) (lv' := [(5, .int y18), (4, .int y16), (0, .ref 1), (1, .int i1), (2, .int i2), (3, .int i3)]) dX9_number_84 rfl (by decide) (by decide) ey18 rfl ?_
          refine z_goto (tgt := 22) dX9_number_87 (by decide) ?_
          exact zW.sub (ih y16 y18 S17 _ hE hf) [2, 3, 4, 5, 1, 0] rfl rfl rfl rfl
theorem w_X9_number {L : Nat} {xs : Nat → Int32} {fm : Value} {h0 : Nat → va_E} {t : Nat × Nat × Nat} (hn1 : 64 ≤ t.1) (hn2 : t.1 ≤ 1000000) (d : Nat) {h : Nat → va_E} {S : zS} (hE : zE (zDc t.1) h0 S (h, t)) {v1 : Int32} {v2 : Int32} {v3 : Int32} {R : Int32 × zS} (hf : f_X9_number v1 v2 v3 S = some R) : zC (ia_P0 L xs fm) (d + 2) 9006 [.ref 1, .int v1, .int v2, .int v3] (h, t) (zQi (zDc t.1) h0 t R) := by
  refine zC_of mt_9006 nn_9006 (Nat.le_of_ble_eq_true rfl) ?_
  refine zW_lv (lv' := [(0, .ref 1), (1, .int v1), (2, .int v2), (3, .int v3)]) rfl ?_
  unfold f_X9_number at hf
  refine z_aload_n dX9_number_0 rfl ?_
  obtain ⟨r2, S1, k3, hf⟩ := zb_some hf
  refine z_callVi dX9_number_1 tM_9_25 mt_9004 (Nat.le_of_ble_eq_true rfl) rfl rfl (z_recv hE dc_1 rfl) rfl (ia_oks_le hn1 rfl) (Nat.le_of_ble_eq_true rfl) (w_X9_sign hn1 hn2 (d + 0) hE k3) (fun h hE => ?_)
  obtain ⟨r5, S4, k6, hf⟩ := zb_some hf
  refine z_callSi dX9_number_4 tM_9_32 (by decide) mt_9007 (Nat.le_of_ble_eq_true rfl) rfl rfl (ia_oks_le hn1 rfl) (Nat.le_of_ble_eq_true rfl) (w_X9_isDigit hn1 hn2 (d + 0) hE k6) (fun h hE => ?_)
  by_cases c7 : ¬ r5 = 0
  · have hf := zif_t hf c7
    refine z_if_ne_t (tgt := 16) dX9_number_7 (by decide) c7 ?_
    refine z_iconst (v := 0) dX9_number_16 (by decide) ?_
    refine z_istore (lv' := [(4, .int 0), (0, .ref 1), (1, .int v1), (2, .int v2), (3, .int v3)]) dX9_number_17 (by decide) rfl ?_
    refine z_iconst (v := 0) dX9_number_19 (by decide) ?_
    refine z_istore (lv' := [(5, .int 0), (4, .int 0), (0, .ref 1), (1, .int v1), (2, .int v2), (3, .int v3)]) dX9_number_20 (by decide) rfl ?_
    refine zW.sub (w_X9_number_L22 hn1 hn2 d (fun x20 x21 S19 h hE hf => ?_) zN 0 0 S4 h hE hf) [2, 3, 4, 5, 1, 0] rfl rfl rfl rfl
    try dsimp only at hf
    refine z_aload_n dX9_number_90 rfl ?_
    refine z_getI dX9_number_91 tF_9_22 hE dc_1 rfl rfl ?_
    refine z_aload_n dX9_number_94 rfl ?_
    refine z_getI dX9_number_95 tF_9_19 hE dc_1 rfl rfl ?_
    obtain ⟨J23, eJ23, hf⟩ := zl_some hf
    have hJ23 : ∀ (S24 : zS) (h : Nat → va_E), zE (zDc t.1) h0 S24 (h, t) → J23 S24 = some R → zW (ia_P0 L xs fm) (d + 1) 9 false cX9_number 6 (some .int) 123 [(0, .ref 1), (1, .int v1), (2, .int v2), (3, .int v3), (4, .int x20), (5, .int x21)] [] (h, t) (zQi (zDc t.1) h0 t R) := by
      intro S24 h hE hf
      rw [eJ23] at hf
      refine z_iload dX9_number_123 rfl ?_
      refine z_iload_n dX9_number_125 rfl ?_
      obtain ⟨J26, eJ26, hf⟩ := zl_some hf
      have hJ26 : ∀ (u27 : Unit) (h : Nat → va_E), zE (zDc t.1) h0 S24 (h, t) → J26 u27 = some R → zW (ia_P0 L xs fm) (d + 1) 9 false cX9_number 6 (some .int) 135 [(0, .ref 1), (1, .int v1), (2, .int v2), (3, .int v3), (4, .int x20), (5, .int x21)] [] (h, t) (zQi (zDc t.1) h0 t R) := by
        intro u27 h hE hf
        rw [eJ26] at hf
        refine z_aload_n dX9_number_135 rfl ?_
        refine z_aload_n dX9_number_136 rfl ?_
        refine z_getI dX9_number_137 tF_9_22 hE dc_1 rfl rfl ?_
        refine z_iconst (v := 1) dX9_number_140 (by decide) ?_
        refine z_isub dX9_number_141 ?_
        obtain ⟨S28, eS28, hf⟩ := zl_some hf
        refine z_putI dX9_number_142 tF_9_15 hE dc_1 rfl rfl rfl rfl (fun h hE => ?_)
        rw [← eS28] at hE
        refine z_iload dX9_number_145 rfl ?_
        have e_ := Option.some.inj hf
        subst e_
        exact z_ireturn dX9_number_147 rfl ⟨h, rfl, rfl, hE⟩
      by_cases c25 : x20 < v2
      · have hf := zif_t hf c25
        refine z_icmp_lt_t (tgt := 135) dX9_number_126 (by decide) c25 ?_
        exact zW.sub (hJ26 () _ hE hf) [0, 1, 2, 3, 4, 5] rfl rfl rfl rfl
      · have hf := zif_f hf c25
        refine z_icmp_lt_f (tgt := 135) dX9_number_126 (by decide) c25 ?_
        refine z_iload dX9_number_129 rfl ?_
        refine z_iload_n dX9_number_131 rfl ?_
        by_cases c29 : x20 ≤ v3
        · have hf := zif_t hf c29
          refine z_icmp_le_t (tgt := 145) dX9_number_132 (by decide) c29 ?_
          refine z_iload dX9_number_145 rfl ?_
          have e_ := Option.some.inj hf
          subst e_
          exact z_ireturn dX9_number_147 rfl ⟨h, rfl, rfl, hE⟩
        · have hf := zif_f hf c29
          refine z_icmp_le_f (tgt := 145) dX9_number_132 (by decide) c29 ?_
          exact zW.sub (hJ26 () _ hE hf) [0, 1, 2, 3, 4, 5] rfl rfl rfl rfl
    by_cases c22 : (S19.1 1 1) ≤ (S19.1 1 2)
    · have hf := zif_t hf c22
      refine z_icmp_ge_t (tgt := 123) dX9_number_98 (by decide) c22 ?_
      exact zW.sub (hJ23 S19 _ hE hf) [0, 1, 2, 3, 4, 5] rfl rfl rfl rfl
    · have hf := zif_f hf c22
      refine z_icmp_ge_f (tgt := 123) dX9_number_98 (by decide) c22 ?_
      refine z_aload_n dX9_number_101 rfl ?_
      refine z_getC dX9_number_102 tF_9_9 hE dc_1 rfl rfl ?_
      refine z_aload_n dX9_number_105 rfl ?_
      refine z_getI dX9_number_106 tF_9_22 hE dc_1 rfl rfl ?_
      obtain ⟨b30, hf⟩ := zchk hf
      refine z_ialoadL dX9_number_109 hE dc_2 b30 rfl ?_
      obtain ⟨r32, S31, k33, hf⟩ := zb_some hf
      refine z_callSi dX9_number_110 tM_9_32 (by decide) mt_9007 (Nat.le_of_ble_eq_true rfl) rfl rfl (ia_oks_le hn1 rfl) (Nat.le_of_ble_eq_true rfl) (w_X9_isDigit hn1 hn2 (d + 0) hE k33) (fun h hE => ?_)
      by_cases c34 : r32 = 0
      · have hf := zif_t hf c34
        refine z_if_eq_t (tgt := 123) dX9_number_113 (by decide) c34 ?_
        exact zW.sub (hJ23 S31 _ hE hf) [0, 1, 2, 3, 4, 5] rfl rfl rfl rfl
      · have hf := zif_f hf c34
        refine z_if_eq_f (tgt := 123) dX9_number_113 (by decide) c34 ?_
        refine z_aload_n dX9_number_116 rfl ?_
        obtain ⟨r36, S35, k37, hf⟩ := zb_some hf
        refine z_callVv dX9_number_117 tM_9_29 mt_9005 (Nat.le_of_ble_eq_true rfl) rfl rfl (z_recv hE dc_1 rfl) rfl (ia_oks_le hn1 rfl) (Nat.le_of_ble_eq_true rfl) (w_X9_fail hn1 hn2 (d + 0) hE k37) (fun h hE => ?_)
        refine z_goto (tgt := 145) dX9_number_120 (by decide) ?_
        refine z_iload dX9_number_145 rfl ?_
        have e_ := Option.some.inj hf
        subst e_
        exact z_ireturn dX9_number_147 rfl ⟨h, rfl, rfl, hE⟩
  · have hf := zif_f hf c7
    refine z_if_ne_f (tgt := 16) dX9_number_7 (by decide) c7 ?_
    refine z_aload_n dX9_number_10 rfl ?_
    obtain ⟨r39, S38, k40, hf⟩ := zb_some hf
    refine z_callVv dX9_number_11 tM_9_29 mt_9005 (Nat.le_of_ble_eq_true rfl) rfl rfl (z_recv hE dc_1 rfl) rfl (ia_oks_le hn1 rfl) (Nat.le_of_ble_eq_true rfl) (w_X9_fail hn1 hn2 (d + 0) hE k40) (fun h hE => ?_)
    refine z_iload_n dX9_number_14 rfl ?_
    have e_ := Option.some.inj hf
    subst e_
    exact z_ireturn dX9_number_15 rfl ⟨h, rfl, rfl, hE⟩
def f_X9_needs (v1 : Int32) (S : zS) : Option (Unit × zS) :=
zb (f_X9_sign S) fun r2 S1 =>
if ¬ r2 = v1 then
zb (f_X9_fail S1) fun _ S5 =>
some ((), S5)
else
zl (sV S1 1 2 ((S1.1 1 2) + 1)) fun S8 =>
some ((), S8)
theorem w_X9_needs {L : Nat} {xs : Nat → Int32} {fm : Value} {h0 : Nat → va_E} {t : Nat × Nat × Nat} (hn1 : 64 ≤ t.1) (hn2 : t.1 ≤ 1000000) (d : Nat) {h : Nat → va_E} {S : zS} (hE : zE (zDc t.1) h0 S (h, t)) {v1 : Int32} {R : Unit × zS} (hf : f_X9_needs v1 S = some R) : zC (ia_P0 L xs fm) (d + 2) 9010 [.ref 1, .int v1] (h, t) (zQv (zDc t.1) h0 t R) := by
  refine zC_of mt_9010 nn_9010 (Nat.le_of_ble_eq_true rfl) ?_
  refine zW_lv (lv' := [(0, .ref 1), (1, .int v1)]) rfl ?_
  unfold f_X9_needs at hf
  refine z_aload_n dX9_needs_0 rfl ?_
  obtain ⟨r2, S1, k3, hf⟩ := zb_some hf
  refine z_callVi dX9_needs_1 tM_9_25 mt_9004 (Nat.le_of_ble_eq_true rfl) rfl rfl (z_recv hE dc_1 rfl) rfl (ia_oks_le hn1 rfl) (Nat.le_of_ble_eq_true rfl) (w_X9_sign hn1 hn2 (d + 0) hE k3) (fun h hE => ?_)
  refine z_iload_n dX9_needs_4 rfl ?_
  by_cases c4 : ¬ r2 = v1
  · have hf := zif_t hf c4
    refine z_icmp_ne_t (tgt := 21) dX9_needs_5 (by decide) c4 ?_
    refine z_aload_n dX9_needs_21 rfl ?_
    obtain ⟨r6, S5, k7, hf⟩ := zb_some hf
    refine z_callVv dX9_needs_22 tM_9_29 mt_9005 (Nat.le_of_ble_eq_true rfl) rfl rfl (z_recv hE dc_1 rfl) rfl (ia_oks_le hn1 rfl) (Nat.le_of_ble_eq_true rfl) (w_X9_fail hn1 hn2 (d + 0) hE k7) (fun h hE => ?_)
    have e_ := Option.some.inj hf
    subst e_
    exact z_vreturn dX9_needs_25 rfl ⟨h, rfl, rfl, hE⟩
  · have hf := zif_f hf c4
    refine z_icmp_ne_f (tgt := 21) dX9_needs_5 (by decide) c4 ?_
    refine z_aload_n dX9_needs_8 rfl ?_
    refine z_dup dX9_needs_9 rfl ?_
    refine z_getI dX9_needs_10 tF_9_22 hE dc_1 rfl rfl ?_
    refine z_iconst (v := 1) dX9_needs_13 (by decide) ?_
    refine z_iadd dX9_needs_14 ?_
    obtain ⟨S8, eS8, hf⟩ := zl_some hf
    refine z_putI dX9_needs_15 tF_9_22 hE dc_1 rfl rfl rfl rfl (fun h hE => ?_)
    rw [← eS8] at hE
    refine z_goto (tgt := 25) dX9_needs_18 (by decide) ?_
    have e_ := Option.some.inj hf
    subst e_
    exact z_vreturn dX9_needs_25 rfl ⟨h, rfl, rfl, hE⟩
def f_X9_digit  (S : zS) : Option (Int32 × zS) :=
zb (f_X9_sign S) fun r2 S1 =>
zb (f_X9_isDigit r2 S1) fun r5 S4 =>
if ¬ r5 = 0 then
zl (sV S4 1 2 ((S4.1 1 2) + 1)) fun S8 =>
some (r2 - 48, S8)
else
zb (f_X9_fail S4) fun _ S9 =>
some (0, S9)
theorem w_X9_digit {L : Nat} {xs : Nat → Int32} {fm : Value} {h0 : Nat → va_E} {t : Nat × Nat × Nat} (hn1 : 64 ≤ t.1) (hn2 : t.1 ≤ 1000000) (d : Nat) {h : Nat → va_E} {S : zS} (hE : zE (zDc t.1) h0 S (h, t)) {R : Int32 × zS} (hf : f_X9_digit  S = some R) : zC (ia_P0 L xs fm) (d + 2) 9011 [.ref 1] (h, t) (zQi (zDc t.1) h0 t R) := by
  refine zC_of mt_9011 nn_9011 (Nat.le_of_ble_eq_true rfl) ?_
  refine zW_lv (lv' := [(0, .ref 1)]) rfl ?_
  unfold f_X9_digit at hf
  refine z_aload_n dX9_digit_0 rfl ?_
  obtain ⟨r2, S1, k3, hf⟩ := zb_some hf
  refine z_callVi dX9_digit_1 tM_9_25 mt_9004 (Nat.le_of_ble_eq_true rfl) rfl rfl (z_recv hE dc_1 rfl) rfl (ia_oks_le hn1 rfl) (Nat.le_of_ble_eq_true rfl) (w_X9_sign hn1 hn2 (d + 0) hE k3) (fun h hE => ?_)
  refine z_istore_n (lv' := [(1, .int r2), (0, .ref 1)]) dX9_digit_4 (by decide) rfl ?_
  refine z_iload_n dX9_digit_5 rfl ?_
  obtain ⟨r5, S4, k6, hf⟩ := zb_some hf
  refine z_callSi dX9_digit_6 tM_9_32 (by decide) mt_9007 (Nat.le_of_ble_eq_true rfl) rfl rfl (ia_oks_le hn1 rfl) (Nat.le_of_ble_eq_true rfl) (w_X9_isDigit hn1 hn2 (d + 0) hE k6) (fun h hE => ?_)
  by_cases c7 : ¬ r5 = 0
  · have hf := zif_t hf c7
    refine z_if_ne_t (tgt := 18) dX9_digit_9 (by decide) c7 ?_
    refine z_aload_n dX9_digit_18 rfl ?_
    refine z_dup dX9_digit_19 rfl ?_
    refine z_getI dX9_digit_20 tF_9_22 hE dc_1 rfl rfl ?_
    refine z_iconst (v := 1) dX9_digit_23 (by decide) ?_
    refine z_iadd dX9_digit_24 ?_
    obtain ⟨S8, eS8, hf⟩ := zl_some hf
    refine z_putI dX9_digit_25 tF_9_22 hE dc_1 rfl rfl rfl rfl (fun h hE => ?_)
    rw [← eS8] at hE
    refine z_iload_n dX9_digit_28 rfl ?_
    refine z_bipush (v := 48) dX9_digit_29 (by decide) ?_
    refine z_isub dX9_digit_31 ?_
    have e_ := Option.some.inj hf
    subst e_
    exact z_ireturn dX9_digit_32 rfl ⟨h, rfl, rfl, hE⟩
  · have hf := zif_f hf c7
    refine z_if_ne_f (tgt := 18) dX9_digit_9 (by decide) c7 ?_
    refine z_aload_n dX9_digit_12 rfl ?_
    obtain ⟨r10, S9, k11, hf⟩ := zb_some hf
    refine z_callVv dX9_digit_13 tM_9_29 mt_9005 (Nat.le_of_ble_eq_true rfl) rfl rfl (z_recv hE dc_1 rfl) rfl (ia_oks_le hn1 rfl) (Nat.le_of_ble_eq_true rfl) (w_X9_fail hn1 hn2 (d + 0) hE k11) (fun h hE => ?_)
    refine z_iconst (v := 0) dX9_digit_16 (by decide) ?_
    have e_ := Option.some.inj hf
    subst e_
    exact z_ireturn dX9_digit_17 rfl ⟨h, rfl, rfl, hE⟩
end ZX
