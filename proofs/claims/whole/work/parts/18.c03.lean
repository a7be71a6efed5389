section ZX
def f_X11_undo  (S : zS) : Option (Int32 × zS) :=
zb (f_X1_takeBack_17 S) fun r2 S1 =>
some (r2, S1)
theorem w_X11_undo {L : Nat} {xs : Nat → Int32} {fm : Bool} {h0 : Nat → va_E} {t : Nat × Nat × Nat} (hn1 : 64 ≤ t.1) (hn2 : t.1 ≤ 1000000) (d : Nat) {h : Nat → va_E} {S : zS} (hE : zE (zDc t.1) h0 S (h, t)) {R : Int32 × zS} (hf : f_X11_undo  S = some R) : zC (ia_P0 L xs fm) (d + 2) 11027 [.ref 0] (h, t) (zQi (zDc t.1) h0 t R) := by
  refine zC_of mt_11027 nn_11027 (Nat.le_of_ble_eq_true rfl) ?_
  refine zW_lv (lv' := [(0, .ref 0)]) rfl ?_
  unfold f_X11_undo at hf
  refine z_aload_n dX11_undo_0 rfl ?_
  refine z_getC dX11_undo_1 tF_11_68 hE dc_0 rfl rfl ?_
  refine z_aload_n dX11_undo_4 rfl ?_
  refine z_getC dX11_undo_5 tF_11_58 hE dc_0 rfl rfl ?_
  obtain ⟨r2, S1, k3, hf⟩ := zb_some hf
  refine z_callVi dX11_undo_8 tM_11_271 mt_1004 (Nat.le_of_ble_eq_true rfl) rfl rfl (z_recv hE dc_21 rfl) rfl (ia_oks_le hn1 rfl) (Nat.le_of_ble_eq_true rfl) (w_X1_takeBack_17 hn1 hn2 (d + 0) hE k3) (fun h hE => ?_)
  have e_ := Option.some.inj hf
  subst e_
  exact z_ireturn dX11_undo_11 rfl ⟨h, rfl, rfl, hE⟩
def f_X8_addAct (v1 : Int32) (S : zS) : Option (Unit × zS) :=
if 41 ≤ (S.1 26 4) then
some ((), S)
else
if ia_in (S.1 26 4) 41 = true then
zl (sV S 27 ((S.1 26 4).toNatClampNeg) v1) fun S3 =>
zl (sV S3 26 4 ((S3.1 26 4) + 1)) fun S4 =>
some ((), S4)
else none
theorem w_X8_addAct {L : Nat} {xs : Nat → Int32} {fm : Bool} {h0 : Nat → va_E} {t : Nat × Nat × Nat} (hn1 : 64 ≤ t.1) (hn2 : t.1 ≤ 1000000) (d : Nat) {h : Nat → va_E} {S : zS} (hE : zE (zDc t.1) h0 S (h, t)) {v1 : Int32} {R : Unit × zS} (hf : f_X8_addAct v1 S = some R) : zC (ia_P0 L xs fm) (d + 1) 8003 [.ref 26, .int v1] (h, t) (zQv (zDc t.1) h0 t R) := by
  refine zC_of mt_8003 nn_8003 (Nat.le_of_ble_eq_true rfl) ?_
  refine zW_lv (lv' := [(0, .ref 26), (1, .int v1)]) rfl ?_
  unfold f_X8_addAct at hf
  refine z_aload_n dX8_addAct_0 rfl ?_
  refine z_getI dX8_addAct_1 tF_8_50 hE dc_26 rfl rfl ?_
  refine z_aload_n dX8_addAct_4 rfl ?_
  refine z_getC dX8_addAct_5 tF_8_9 hE dc_26 rfl rfl ?_
  refine z_alen (v := 41) dX8_addAct_8 hE dc_27 (by decide) (by decide) ?_
  by_cases c1 : 41 ≤ (S.1 26 4)
  · have hf := zif_t hf c1
    refine z_icmp_ge_t (tgt := 32) dX8_addAct_9 (by decide) c1 ?_
    have e_ := Option.some.inj hf
    subst e_
    exact z_vreturn dX8_addAct_32 rfl ⟨h, rfl, rfl, hE⟩
  · have hf := zif_f hf c1
    refine z_icmp_ge_f (tgt := 32) dX8_addAct_9 (by decide) c1 ?_
    refine z_aload_n dX8_addAct_12 rfl ?_
    refine z_getC dX8_addAct_13 tF_8_9 hE dc_26 rfl rfl ?_
    refine z_aload_n dX8_addAct_16 rfl ?_
    refine z_getI dX8_addAct_17 tF_8_50 hE dc_26 rfl rfl ?_
    refine z_iload_n dX8_addAct_20 rfl ?_
    obtain ⟨b2, hf⟩ := zchk hf
    obtain ⟨S3, eS3, hf⟩ := zl_some hf
    refine z_iastoreL (i := (S.1 26 4).toNatClampNeg) dX8_addAct_21 hE dc_27 b2 rfl (fun h hE => ?_)
    rw [← eS3] at hE
    refine z_aload_n dX8_addAct_22 rfl ?_
    refine z_dup dX8_addAct_23 rfl ?_
    refine z_getI dX8_addAct_24 tF_8_50 hE dc_26 rfl rfl ?_
    refine z_iconst (v := 1) dX8_addAct_27 (by decide) ?_
    refine z_iadd dX8_addAct_28 ?_
    obtain ⟨S4, eS4, hf⟩ := zl_some hf
    refine z_putI dX8_addAct_29 tF_8_50 hE dc_26 rfl rfl rfl rfl (fun h hE => ?_)
    rw [← eS4] at hE
    have e_ := Option.some.inj hf
    subst e_
    exact z_vreturn dX8_addAct_32 rfl ⟨h, rfl, rfl, hE⟩
def f_X8_listActs_L7 (ex : Int32 → zS → Option (Unit × zS)) (i1 : Int32) : Nat → Int32 → zS → Option (Unit × zS)
  | 0, _, _ => none
  | k + 1, x2, S =>
    if 4 < x2 then
    ex x2 S
    else
    zl (fun (u5 : Unit) =>
    zb (f_X8_addAct x2 S) fun _ S6 =>
    zl (x2 + 1) fun (y9 : Int32) =>
    f_X8_listActs_L7 ex i1 k y9 S6) fun J4 =>
    if ¬ x2 = 2 then
    J4 ()
    else
    if i1 = 0 then
    zl (x2 + 1) fun (y11 : Int32) =>
    f_X8_listActs_L7 ex i1 k y11 S
    else
    J4 ()
def f_X8_listActs_L34 (ex : Int32 → zS → Option (Unit × zS)) (i1 : Int32) : Nat → Int32 → zS → Option (Unit × zS)
  | 0, _, _ => none
  | k + 1, x2, S =>
    if (S.1 12 1) ≤ x2 then
    ex x2 S
    else
    zb (f_X8_addAct (10 + x2) S) fun _ S15 =>
    zl (x2 + 1) fun (y18 : Int32) =>
    f_X8_listActs_L34 ex i1 k y18 S15
def f_X8_listActs_L78 (ex : Int32 → Int32 → zS → Option (Unit × zS)) (i1 : Int32) : Nat → Int32 → Int32 → zS → Option (Unit × zS)
  | 0, _, _, _ => none
  | k + 1, x2, x3, S =>
    if (S.1 12 2) ≤ x3 then
    zb (f_X11_tryCode x2 (-1) S) fun r24 S23 =>
    zb (f_X8_addAct r24 S23) fun _ S26 =>
    zl (x2 + 1) fun (y29 : Int32) =>
    if (S26.1 12 1) ≤ y29 then
    ex y29 x3 S26
    else
    f_X8_listActs_L78 ex i1 k y29 0 S26
    else
    zb (f_X11_tryCode x2 x3 S) fun r32 S31 =>
    zb (f_X8_addAct r32 S31) fun _ S34 =>
    zl (x3 + 1) fun (y37 : Int32) =>
    f_X8_listActs_L78 ex i1 k x2 y37 S34
def f_X8_listActs_L63 (ex : Int32 → zS → Option (Unit × zS)) (i1 : Int32) : Nat → Int32 → zS → Option (Unit × zS)
  | 0, _, _ => none
  | k + 1, x2, S =>
    if (S.1 12 1) ≤ x2 then
    ex x2 S
    else
    f_X8_listActs_L78 (fun (q39 : Int32) (q40 : Int32) (S38 : zS) =>
    ex q39 S38) i1 zN x2 0 S
def f_X8_listActs (v1 : Int32) (S : zS) : Option (Unit × zS) :=
zl (sV S 26 4 0) fun S1 =>
f_X8_listActs_L7 (fun (q13 : Int32) (S12 : zS) =>
f_X8_listActs_L34 (fun (q20 : Int32) (S19 : zS) =>
f_X8_listActs_L63 (fun (q42 : Int32) (S41 : zS) =>
some ((), S41)) v1 zN 0 S19) v1 zN 0 S12) v1 zN 0 S1
theorem w_X8_listActs_L7 {L : Nat} {xs : Nat → Int32} {fm : Bool} {h0 : Nat → va_E} {t : Nat × Nat × Nat} (hn1 : 64 ≤ t.1) (hn2 : t.1 ≤ 1000000) (d : Nat) {ex : Int32 → zS → Option (Unit × zS)} {i1 : Int32} {R : Unit × zS} (hex : ∀ (x2 : Int32) (S : zS) (h : Nat → va_E), zE (zDc t.1) h0 S (h, t) → ex x2 S = some R → zW (ia_P0 L xs fm) ia_nx (d + 1) 8 false cX8_listActs 4 (none) 32 [(0, .ref 26), (1, .int i1), (2, .int x2)] [] (h, t) (zQv (zDc t.1) h0 t R)) : ∀ (k : Nat) (x2 : Int32) (S : zS) (h : Nat → va_E), zE (zDc t.1) h0 S (h, t) → f_X8_listActs_L7 ex i1 k x2 S = some R → zW (ia_P0 L xs fm) ia_nx (d + 1) 8 false cX8_listActs 4 (none) 7 [(0, .ref 26), (1, .int i1), (2, .int x2)] [] (h, t) (zQv (zDc t.1) h0 t R) := by
  intro k
  induction k with
  | zero => intro x2 S h hE hf; cases hf
  | succ k ih =>
    intro x2 S h hE hf
    unfold f_X8_listActs_L7 at hf
    refine z_iload_n dX8_listActs_7 rfl ?_
    refine z_iconst (v := 4) dX8_listActs_8 (by decide) ?_
    by_cases c2 : 4 < x2
    · have hf := zif_t hf c2
      refine z_icmp_gt_t (tgt := 32) dX8_listActs_9 (by decide) c2 ?_
      exact zW.sub (hex x2 S _ hE hf) [0, 1, 2] rfl rfl rfl rfl
    · have hf := zif_f hf c2
      refine z_icmp_gt_f (tgt := 32) dX8_listActs_9 (by decide) c2 ?_
      refine z_iload_n dX8_listActs_12 rfl ?_
      refine z_iconst (v := 2) dX8_listActs_13 (by decide) ?_
      obtain ⟨J4, eJ4, hf⟩ := zl_some hf
      have hJ4 : ∀ (u5 : Unit) (h : Nat → va_E), zE (zDc t.1) h0 S (h, t) → J4 u5 = some R → zW (ia_P0 L xs fm) ia_nx (d + 1) 8 false cX8_listActs 4 (none) 21 [(0, .ref 26), (1, .int i1), (2, .int x2)] [] (h, t) (zQv (zDc t.1) h0 t R) := by
        intro u5 h hE hf
        rw [eJ4] at hf
        refine z_aload_n dX8_listActs_21 rfl ?_
        refine z_iload_n dX8_listActs_22 rfl ?_
        obtain ⟨r7, S6, k8, hf⟩ := zb_some hf
        refine z_callVv dX8_listActs_23 tM_8_54 mt_8003 (Nat.le_of_ble_eq_true rfl) rfl rfl (z_recv hE dc_26 rfl) rfl (ia_oks_le hn1 rfl) (Nat.le_of_ble_eq_true rfl) (w_X8_addAct hn1 hn2 (d + 0) hE k8) (fun h hE => ?_)
        obtain ⟨y9, ey9, hf⟩ := zl_some hf
        refine z_iincY (v := 1) (y := y9) (lv' := [(2, .int y9), (0, .ref 26), (1, .int i1)]) dX8_listActs_26 rfl (by decide) (by decide) ey9 rfl ?_
        refine z_goto (tgt := 7) dX8_listActs_29 (by decide) ?_
        exact zW.sub (ih y9 S6 _ hE hf) [1, 2, 0] rfl rfl rfl rfl
      by_cases c3 : ¬ x2 = 2
      · have hf := zif_t hf c3
        refine z_icmp_ne_t (tgt := 21) dX8_listActs_14 (by decide) c3 ?_
        exact zW.sub (hJ4 () _ hE hf) [0, 1, 2] rfl rfl rfl rfl
      · have hf := zif_f hf c3
        refine z_icmp_ne_f (tgt := 21) dX8_listActs_14 (by decide) c3 ?_
        refine z_iload_n dX8_listActs_17 rfl ?_
        by_cases c10 : i1 = 0
        · have hf := zif_t hf c10
          refine z_if_eq_t (tgt := 26) dX8_listActs_18 (by decide) c10 ?_
          obtain ⟨y11, ey11, hf⟩ := zl_some hf
          refine z_iincY (v := 1) (y := y11) (lv' := [(2, .int y11), (0, .ref 26), (1, .int i1)]) dX8_listActs_26 rfl (by decide) (by decide) ey11 rfl ?_
          refine z_goto (tgt := 7) dX8_listActs_29 (by decide) ?_
          exact zW.sub (ih y11 S _ hE hf) [1, 2, 0] rfl rfl rfl rfl
        · have hf := zif_f hf c10
          refine z_if_eq_f (tgt := 26) dX8_listActs_18 (by decide) c10 ?_
          exact zW.sub (hJ4 () _ hE hf) [0, 1, 2] rfl rfl rfl rfl
theorem w_X8_listActs_L34 {L : Nat} {xs : Nat → Int32} {fm : Bool} {h0 : Nat → va_E} {t : Nat × Nat × Nat} (hn1 : 64 ≤ t.1) (hn2 : t.1 ≤ 1000000) (d : Nat) {ex : Int32 → zS → Option (Unit × zS)} {i1 : Int32} {R : Unit × zS} (hex : ∀ (x2 : Int32) (S : zS) (h : Nat → va_E), zE (zDc t.1) h0 S (h, t) → ex x2 S = some R → zW (ia_P0 L xs fm) ia_nx (d + 1) 8 false cX8_listActs 4 (none) 61 [(0, .ref 26), (1, .int i1), (2, .int x2)] [] (h, t) (zQv (zDc t.1) h0 t R)) : ∀ (k : Nat) (x2 : Int32) (S : zS) (h : Nat → va_E), zE (zDc t.1) h0 S (h, t) → f_X8_listActs_L34 ex i1 k x2 S = some R → zW (ia_P0 L xs fm) ia_nx (d + 1) 8 false cX8_listActs 4 (none) 34 [(0, .ref 26), (1, .int i1), (2, .int x2)] [] (h, t) (zQv (zDc t.1) h0 t R) := by
  intro k
  induction k with
  | zero => intro x2 S h hE hf; cases hf
  | succ k ih =>
    intro x2 S h hE hf
    unfold f_X8_listActs_L34 at hf
    refine z_iload_n dX8_listActs_34 rfl ?_
    refine z_aload_n dX8_listActs_35 rfl ?_
    refine z_getC dX8_listActs_36 tF_8_24 hE dc_26 rfl rfl ?_
    refine z_getC dX8_listActs_39 tF_8_58 hE dc_11 rfl rfl ?_
    refine z_iconst (v := 1) dX8_listActs_42 (by decide) ?_
    refine z_ialoadL (i := 1) dX8_listActs_43 hE dc_12 (by decide) (by decide) ?_
    by_cases c14 : (S.1 12 1) ≤ x2
    · have hf := zif_t hf c14
      refine z_icmp_ge_t (tgt := 61) dX8_listActs_44 (by decide) c14 ?_
      exact zW.sub (hex x2 S _ hE hf) [0, 1, 2] rfl rfl rfl rfl
    · have hf := zif_f hf c14
      refine z_icmp_ge_f (tgt := 61) dX8_listActs_44 (by decide) c14 ?_
      refine z_aload_n dX8_listActs_47 rfl ?_
      refine z_bipush (v := 10) dX8_listActs_48 (by decide) ?_
      refine z_iload_n dX8_listActs_50 rfl ?_
      refine z_iadd dX8_listActs_51 ?_
      obtain ⟨r16, S15, k17, hf⟩ := zb_some hf
      refine z_callVv dX8_listActs_52 tM_8_54 mt_8003 (Nat.le_of_ble_eq_true rfl) rfl rfl (z_recv hE dc_26 rfl) rfl (ia_oks_le hn1 rfl) (Nat.le_of_ble_eq_true rfl) (w_X8_addAct hn1 hn2 (d + 0) hE k17) (fun h hE => ?_)
      obtain ⟨y18, ey18, hf⟩ := zl_some hf
      refine z_iincY (v := 1) (y := y18) (lv' := [(2, .int y18), (0, .ref 26), (1, .int i1)]) dX8_listActs_55 rfl (by decide) (by decide) ey18 rfl ?_
      refine z_goto (tgt := 34) dX8_listActs_58 (by decide) ?_
      exact zW.sub (ih y18 S15 _ hE hf) [1, 2, 0] rfl rfl rfl rfl
theorem w_X8_listActs_L78 {L : Nat} {xs : Nat → Int32} {fm : Bool} {h0 : Nat → va_E} {t : Nat × Nat × Nat} (hn1 : 64 ≤ t.1) (hn2 : t.1 ≤ 1000000) (d : Nat) {ex : Int32 → Int32 → zS → Option (Unit × zS)} {i1 : Int32} {R : Unit × zS} (hex : ∀ (x2 : Int32) (x3 : Int32) (S : zS) (h : Nat → va_E), zE (zDc t.1) h0 S (h, t) → ex x2 x3 S = some R → zW (ia_P0 L xs fm) ia_nx (d + 1) 8 false cX8_listActs 4 (none) 121 [(0, .ref 26), (1, .int i1), (2, .int x2), (3, .int x3)] [] (h, t) (zQv (zDc t.1) h0 t R)) : ∀ (k : Nat) (x2 : Int32) (x3 : Int32) (S : zS) (h : Nat → va_E), zE (zDc t.1) h0 S (h, t) → f_X8_listActs_L78 ex i1 k x2 x3 S = some R → zW (ia_P0 L xs fm) ia_nx (d + 1) 8 false cX8_listActs 4 (none) 78 [(0, .ref 26), (1, .int i1), (2, .int x2), (3, .int x3)] [] (h, t) (zQv (zDc t.1) h0 t R) := by
  intro k
  induction k with
  | zero => intro x2 x3 S h hE hf; cases hf
  | succ k ih =>
    intro x2 x3 S h hE hf
    unfold f_X8_listActs_L78 at hf
    refine z_iload_n dX8_listActs_78 rfl ?_
    refine z_aload_n dX8_listActs_79 rfl ?_
    refine z_getC dX8_listActs_80 tF_8_24 hE dc_26 rfl rfl ?_
    refine z_getC dX8_listActs_83 tF_8_58 hE dc_11 rfl rfl ?_
    refine z_iconst (v := 2) dX8_listActs_86 (by decide) ?_
    refine z_ialoadL (i := 2) dX8_listActs_87 hE dc_12 (by decide) (by decide) ?_
    by_cases c22 : (S.1 12 2) ≤ x3
    · have hf := zif_t hf c22
      refine z_icmp_ge_t (tgt := 106) dX8_listActs_88 (by decide) c22 ?_
      refine z_aload_n dX8_listActs_106 rfl ?_
      refine z_iload_n dX8_listActs_107 rfl ?_
      refine z_iconst (v := (-1)) dX8_listActs_108 (by decide) ?_
      obtain ⟨r24, S23, k25, hf⟩ := zb_some hf
      refine z_callSi dX8_listActs_109 tM_8_63 (by decide) mt_11020 (Nat.le_of_ble_eq_true rfl) rfl rfl (ia_oks_le hn1 rfl) (Nat.le_of_ble_eq_true rfl) (w_X11_tryCode hn1 hn2 (d + 0) hE k25) (fun h hE => ?_)
      obtain ⟨r27, S26, k28, hf⟩ := zb_some hf
      refine z_callVv dX8_listActs_112 tM_8_54 mt_8003 (Nat.le_of_ble_eq_true rfl) rfl rfl (z_recv hE dc_26 rfl) rfl (ia_oks_le hn1 rfl) (Nat.le_of_ble_eq_true rfl) (w_X8_addAct hn1 hn2 (d + 0) hE k28) (fun h hE => ?_)
      obtain ⟨y29, ey29, hf⟩ := zl_some hf
      refine z_iincY (v := 1) (y := y29) (lv' := [(2, .int y29), (0, .ref 26), (1, .int i1), (3, .int x3)]) dX8_listActs_115 rfl (by decide) (by decide) ey29 rfl ?_
      refine z_goto (tgt := 63) dX8_listActs_118 (by decide) ?_
      refine z_iload_n dX8_listActs_63 rfl ?_
      refine z_aload_n dX8_listActs_64 rfl ?_
      refine z_getC dX8_listActs_65 tF_8_24 hE dc_26 rfl rfl ?_
      refine z_getC dX8_listActs_68 tF_8_58 hE dc_11 rfl rfl ?_
      refine z_iconst (v := 1) dX8_listActs_71 (by decide) ?_
      refine z_ialoadL (i := 1) dX8_listActs_72 hE dc_12 (by decide) (by decide) ?_
      by_cases c30 : (S26.1 12 1) ≤ y29
      · have hf := zif_t hf c30
        refine z_icmp_ge_t (tgt := 121) dX8_listActs_73 (by decide) c30 ?_
        exact zW.sub (hex y29 x3 S26 _ hE hf) [1, 2, 0, 3] rfl rfl rfl rfl
      · have hf := zif_f hf c30
        refine z_icmp_ge_f (tgt := 121) dX8_listActs_73 (by decide) c30 ?_
        refine z_iconst (v := 0) dX8_listActs_76 (by decide) ?_
        refine z_istore_n (lv' := [(3, .int 0), (2, .int y29), (0, .ref 26), (1, .int i1)]) dX8_listActs_77 (by decide) rfl ?_
        exact zW.sub (ih y29 0 S26 _ hE hf) [2, 3, 1, 0] rfl rfl rfl rfl
    · have hf := zif_f hf c22
      refine z_icmp_ge_f (tgt := 106) dX8_listActs_88 (by decide) c22 ?_
      refine z_aload_n dX8_listActs_91 rfl ?_
      refine z_iload_n dX8_listActs_92 rfl ?_
      refine z_iload_n dX8_listActs_93 rfl ?_
      obtain ⟨r32, S31, k33, hf⟩ := zb_some hf
      refine z_callSi dX8_listActs_94 tM_8_63 (by decide) mt_11020 (Nat.le_of_ble_eq_true rfl) rfl rfl (ia_oks_le hn1 rfl) (Nat.le_of_ble_eq_true rfl) (w_X11_tryCode hn1 hn2 (d + 0) hE k33) (fun h hE => ?_)
      obtain ⟨r35, S34, k36, hf⟩ := zb_some hf
      refine z_callVv dX8_listActs_97 tM_8_54 mt_8003 (Nat.le_of_ble_eq_true rfl) rfl rfl (z_recv hE dc_26 rfl) rfl (ia_oks_le hn1 rfl) (Nat.le_of_ble_eq_true rfl) (w_X8_addAct hn1 hn2 (d + 0) hE k36) (fun h hE => ?_)
      obtain ⟨y37, ey37, hf⟩ := zl_some hf
      refine z_iincY (v := 1) (y := y37) (lv' := [(3, .int y37), (0, .ref 26), (1, .int i1), (2, .int x2)]) dX8_listActs_100 rfl (by decide) (by decide) ey37 rfl ?_
      refine z_goto (tgt := 78) dX8_listActs_103 (by decide) ?_
      exact zW.sub (ih x2 y37 S34 _ hE hf) [1, 2, 3, 0] rfl rfl rfl rfl
theorem w_X8_listActs_L63 {L : Nat} {xs : Nat → Int32} {fm : Bool} {h0 : Nat → va_E} {t : Nat × Nat × Nat} (hn1 : 64 ≤ t.1) (hn2 : t.1 ≤ 1000000) (d : Nat) {ex : Int32 → zS → Option (Unit × zS)} {i1 : Int32} {R : Unit × zS} (hex : ∀ (x2 : Int32) (S : zS) (h : Nat → va_E), zE (zDc t.1) h0 S (h, t) → ex x2 S = some R → zW (ia_P0 L xs fm) ia_nx (d + 1) 8 false cX8_listActs 4 (none) 121 [(0, .ref 26), (1, .int i1), (2, .int x2)] [] (h, t) (zQv (zDc t.1) h0 t R)) : ∀ (k : Nat) (x2 : Int32) (S : zS) (h : Nat → va_E), zE (zDc t.1) h0 S (h, t) → f_X8_listActs_L63 ex i1 k x2 S = some R → zW (ia_P0 L xs fm) ia_nx (d + 1) 8 false cX8_listActs 4 (none) 63 [(0, .ref 26), (1, .int i1), (2, .int x2)] [] (h, t) (zQv (zDc t.1) h0 t R) := by
  intro k
  induction k with
  | zero => intro x2 S h hE hf; cases hf
  | succ k ih =>
    intro x2 S h hE hf
    unfold f_X8_listActs_L63 at hf
    refine z_iload_n dX8_listActs_63 rfl ?_
    refine z_aload_n dX8_listActs_64 rfl ?_
    refine z_getC dX8_listActs_65 tF_8_24 hE dc_26 rfl rfl ?_
    refine z_getC dX8_listActs_68 tF_8_58 hE dc_11 rfl rfl ?_
    refine z_iconst (v := 1) dX8_listActs_71 (by decide) ?_
    refine z_ialoadL (i := 1) dX8_listActs_72 hE dc_12 (by decide) (by decide) ?_
    by_cases c21 : (S.1 12 1) ≤ x2
    · have hf := zif_t hf c21
      refine z_icmp_ge_t (tgt := 121) dX8_listActs_73 (by decide) c21 ?_
      exact zW.sub (hex x2 S _ hE hf) [0, 1, 2] rfl rfl rfl rfl
    · have hf := zif_f hf c21
      refine z_icmp_ge_f (tgt := 121) dX8_listActs_73 (by decide) c21 ?_
      refine z_iconst (v := 0) dX8_listActs_76 (by decide) ?_
      refine z_istore_n (lv' := [(3, .int 0), (0, .ref 26), (1, .int i1), (2, .int x2)]) dX8_listActs_77 (by decide) rfl ?_
      refine zW.sub (w_X8_listActs_L78 hn1 hn2 d (fun q39 q40 S38 h hE hf => ?_) zN x2 0 S h hE hf) [1, 2, 3, 0] rfl rfl rfl rfl
      try dsimp only at hf
      exact zW.sub (hex q39 S38 _ hE hf) [0, 1, 2] rfl rfl rfl rfl
theorem w_X8_listActs {L : Nat} {xs : Nat → Int32} {fm : Bool} {h0 : Nat → va_E} {t : Nat × Nat × Nat} (hn1 : 64 ≤ t.1) (hn2 : t.1 ≤ 1000000) (d : Nat) {h : Nat → va_E} {S : zS} (hE : zE (zDc t.1) h0 S (h, t)) {v1 : Int32} {R : Unit × zS} (hf : f_X8_listActs v1 S = some R) : zC (ia_P0 L xs fm) (d + 2) 8002 [.ref 26, .int v1] (h, t) (zQv (zDc t.1) h0 t R) := by
  refine zC_of mt_8002 nn_8002 (Nat.le_of_ble_eq_true rfl) ?_
  refine zW_lv (lv' := [(0, .ref 26), (1, .int v1)]) rfl ?_
  unfold f_X8_listActs at hf
  refine z_aload_n dX8_listActs_0 rfl ?_
  refine z_iconst (v := 0) dX8_listActs_1 (by decide) ?_
  obtain ⟨S1, eS1, hf⟩ := zl_some hf
  refine z_putI dX8_listActs_2 tF_8_50 hE dc_26 rfl rfl rfl rfl (fun h hE => ?_)
  rw [← eS1] at hE
  refine z_iconst (v := 0) dX8_listActs_5 (by decide) ?_
  refine z_istore_n (lv' := [(2, .int 0), (0, .ref 26), (1, .int v1)]) dX8_listActs_6 (by decide) rfl ?_
  refine zW.sub (w_X8_listActs_L7 hn1 hn2 d (fun q13 S12 h hE hf => ?_) zN 0 S1 h hE hf) [1, 2, 0] rfl rfl rfl rfl
  try dsimp only at hf
  refine z_iconst (v := 0) dX8_listActs_32 (by decide) ?_
  refine z_istore_n (lv' := [(2, .int 0), (0, .ref 26), (1, .int v1)]) dX8_listActs_33 (by decide) rfl ?_
  refine zW.sub (w_X8_listActs_L34 hn1 hn2 d (fun q20 S19 h hE hf => ?_) zN 0 S12 h hE hf) [1, 2, 0] rfl rfl rfl rfl
  try dsimp only at hf
  refine z_iconst (v := 0) dX8_listActs_61 (by decide) ?_
  refine z_istore_n (lv' := [(2, .int 0), (0, .ref 26), (1, .int v1)]) dX8_listActs_62 (by decide) rfl ?_
  refine zW.sub (w_X8_listActs_L63 hn1 hn2 d (fun q42 S41 h hE hf => ?_) zN 0 S19 h hE hf) [1, 2, 0] rfl rfl rfl rfl
  try dsimp only at hf
  have e_ := Option.some.inj hf
  subst e_
  exact z_vreturn dX8_listActs_121 rfl ⟨h, rfl, rfl, hE⟩
def f_X8_prepare (v1 : Int32) (S : zS) : Option (Unit × zS) :=
zb (f_J7_fill_53178 30 6 0 S) fun _ S1 =>
zb (f_X8_listActs v1 S1) fun _ S4 =>
some ((), S4)
theorem w_X8_prepare {L : Nat} {xs : Nat → Int32} {fm : Bool} {h0 : Nat → va_E} {t : Nat × Nat × Nat} (hn1 : 64 ≤ t.1) (hn2 : t.1 ≤ 1000000) (d : Nat) {h : Nat → va_E} {S : zS} (hE : zE (zDc t.1) h0 S (h, t)) {v1 : Int32} {R : Unit × zS} (hf : f_X8_prepare v1 S = some R) : zC (ia_P0 L xs fm) (d + 3) 8001 [.ref 26, .int v1] (h, t) (zQv (zDc t.1) h0 t R) := by
  refine zC_of mt_8001 nn_8001 (Nat.le_of_ble_eq_true rfl) ?_
  refine zW_lv (lv' := [(0, .ref 26), (1, .int v1)]) rfl ?_
  unfold f_X8_prepare at hf
  refine z_aload_n dX8_prepare_0 rfl ?_
  refine z_getC dX8_prepare_1 tF_8_21 hE dc_26 rfl rfl ?_
  refine z_iconst (v := 0) dX8_prepare_4 (by decide) ?_
  obtain ⟨r2, S1, k3, hf⟩ := zb_some hf
  refine z_callSv dX8_prepare_5 tM_8_40 (by decide) mt_904000 (Nat.le_of_ble_eq_true rfl) rfl rfl (ia_oks_le hn1 rfl) (Nat.le_of_ble_eq_true rfl) (w_J7_fill_53178 hn1 hn2 (d + 1) dc_30 hE k3) (fun h hE => ?_)
  refine z_aload_n dX8_prepare_8 rfl ?_
  refine z_iload_n dX8_prepare_9 rfl ?_
  obtain ⟨r5, S4, k6, hf⟩ := zb_some hf
  refine z_callVv dX8_prepare_10 tM_8_46 mt_8002 (Nat.le_of_ble_eq_true rfl) rfl rfl (z_recv hE dc_26 rfl) rfl (ia_oks_le hn1 rfl) (Nat.le_of_ble_eq_true rfl) (w_X8_listActs hn1 hn2 (d + 0) hE k6) (fun h hE => ?_)
  have e_ := Option.some.inj hf
  subst e_
  exact z_vreturn dX8_prepare_13 rfl ⟨h, rfl, rfl, hE⟩
def f_X7_take (o : Nat) (p : Nat) (S : zS) : Option (Unit × zS) :=
if 0 ≤ (0 : Int32).toInt ∧ 0 ≤ (0 : Int32).toInt ∧ 0 ≤ (66 : Int32).toInt ∧ (0 : Int32).toInt + (66 : Int32).toInt ≤ ((66 : Nat) : Int) ∧ (0 : Int32).toInt + (66 : Int32).toInt ≤ ((66 : Nat) : Int) then
zl (sC S (p + 1) ((0 : Int32).toNatClampNeg) (o + 1) ((0 : Int32).toNatClampNeg) ((66 : Int32).toNatClampNeg)) fun S2 =>
some ((), S2)
else none
theorem w_X7_take {L : Nat} {xs : Nat → Int32} {fm : Bool} {h0 : Nat → va_E} {t : Nat × Nat × Nat} (hn1 : 64 ≤ t.1) (hn2 : t.1 ≤ 1000000) (d : Nat) {o : Nat} {p : Nat} (ho_o : zSc t.1 o) (ho_p : zSc t.1 p) {h : Nat → va_E} {S : zS} (hE : zE (zDc t.1) h0 S (h, t)) {R : Unit × zS} (hf : f_X7_take o p S = some R) : zC (ia_P0 L xs fm) (d + 1) 7024 [.ref o, .ref p] (h, t) (zQv (zDc t.1) h0 t R) := by
  refine zC_of mt_7024 nn_7024 (Nat.le_of_ble_eq_true rfl) ?_
  refine zW_lv (lv' := [(0, .ref o), (1, .ref p)]) rfl ?_
  unfold f_X7_take at hf
  refine z_aload_n dX7_take_0 rfl ?_
  refine z_getC dX7_take_1 tF_7_9 hE ho_p.1 rfl rfl ?_
  refine z_iconst (v := 0) dX7_take_4 (by decide) ?_
  refine z_aload_n dX7_take_5 rfl ?_
  refine z_getC dX7_take_6 tF_7_9 hE ho_o.1 rfl rfl ?_
  refine z_iconst (v := 0) dX7_take_9 (by decide) ?_
  refine z_bipush (v := 66) dX7_take_10 (by decide) ?_
  obtain ⟨b1, hf⟩ := zchk hf
  obtain ⟨S2, eS2, hf⟩ := zl_some hf
  refine z_cpy dX7_take_12 tM_7_42 hE ho_p.2.1 ho_o.2.1 (Nat.le_of_ble_eq_true rfl) b1 (fun h hE => ?_)
  rw [← eS2] at hE
  have e_ := Option.some.inj hf
  subst e_
  exact z_vreturn dX7_take_15 rfl ⟨h, rfl, rfl, hE⟩
def f_X8_greatestGrip_L47 (o : Nat) (ex : Int32 → zS → Option (Int32 × zS)) (i2 : Int32) (i3 : Int32) (i4 : Int32) (i5 : Int32) : Nat → Int32 → zS → Option (Int32 × zS)
  | 0, _, _ => none
  | k + 1, x6, S =>
    if i5 ≤ x6 then
    ex x6 S
    else
    if 144 ≤ x6 then
    ex x6 S
    else
    if ia_in x6 144 = true then
    if ¬ (S.1 28 x6.toNatClampNeg) = i3 then
    zl (x6 + 1) fun (y18 : Int32) =>
    f_X8_greatestGrip_L47 o ex i2 i3 i4 i5 k y18 S
    else
    if ia_in x6 144 = true then
    some (S.1 29 x6.toNatClampNeg, S)
    else none
    else none
def f_X8_greatestGrip_L104 (o : Nat) (ex : Int32 → Int32 → zS → Option (Int32 × zS)) (i2 : Int32) (i3 : Int32) (i4 : Int32) (i5 : Int32) : Nat → Int32 → Int32 → zS → Option (Int32 × zS)
  | 0, _, _, _ => none
  | k + 1, x6, x7, S =>
    if (S.1 12 2) ≤ x7 then
    ex x6 x7 S
    else
    zb (f_X7_onTable o S) fun r30 S29 =>
    zb (f_X7_gripOn o i2 x7 r30 S29) fun r33 S32 =>
    zl (if x6 < r33 then r33 else x6) fun (y35 : Int32) =>
    zl (x7 + 1) fun (y36 : Int32) =>
    f_X8_greatestGrip_L104 o ex i2 i3 i4 i5 k y35 y36 S32
def f_X8_greatestGrip (o : Nat) (v2 : Int32) (S : zS) : Option (Int32 × zS) :=
zb (f_X7_handCell o v2 0 S) fun r2 S1 =>
zb (f_X7_handCell o v2 1 S1) fun r5 S4 =>
zb (f_X7_lid o 2 S4) fun r8 S7 =>
zl ((((r2 * 10) + r5) * 10) + r8) fun (y10 : Int32) =>
zl (v2 * 24) fun (y11 : Int32) =>
if ia_in v2 6 = true then
zl (y11 + (S7.1 30 v2.toNatClampNeg)) fun (y13 : Int32) =>
f_X8_greatestGrip_L47 o (fun (q21 : Int32) (S20 : zS) =>
zb (f_X7_onTable o S20) fun r23 S22 =>
zb (f_X7_gripOn o v2 (-1) r23 S22) fun r26 S25 =>
f_X8_greatestGrip_L104 o (fun (q38 : Int32) (q39 : Int32) (S37 : zS) =>
if ia_in v2 6 = true then
if 24 ≤ (S37.1 30 v2.toNatClampNeg) then
some (q38, S37)
else
if ia_in y13 144 = true then
zl (sV S37 28 (y13.toNatClampNeg) y10) fun S43 =>
if ia_in y13 144 = true then
zl (sV S43 29 (y13.toNatClampNeg) q38) fun S45 =>
if ia_in v2 6 = true then
if ia_in v2 6 = true then
zl (sV S45 30 (v2.toNatClampNeg) ((S45.1 30 v2.toNatClampNeg) + 1)) fun S48 =>
some (q38, S48)
else none
else none
else none
else none
else none) v2 y10 y11 y13 zN r26 0 S25) v2 y10 y11 y13 zN y11 S7
else none
theorem w_X8_greatestGrip_L47 {L : Nat} {xs : Nat → Int32} {fm : Bool} {h0 : Nat → va_E} {t : Nat × Nat × Nat} (hn1 : 64 ≤ t.1) (hn2 : t.1 ≤ 1000000) (d : Nat) {o : Nat} (ho_o : zSc t.1 o) {ex : Int32 → zS → Option (Int32 × zS)} {i2 : Int32} {i3 : Int32} {i4 : Int32} {i5 : Int32} {R : Int32 × zS} (hex : ∀ (x6 : Int32) (S : zS) (h : Nat → va_E), zE (zDc t.1) h0 S (h, t) → ex x6 S = some R → zW (ia_P0 L xs fm) ia_nx (d + 3) 8 false cX8_greatestGrip 8 (some .int) 89 [(0, .ref 26), (1, .ref o), (2, .int i2), (3, .int i3), (4, .int i4), (5, .int i5), (6, .int x6)] [] (h, t) (zQi (zDc t.1) h0 t R)) : ∀ (k : Nat) (x6 : Int32) (S : zS) (h : Nat → va_E), zE (zDc t.1) h0 S (h, t) → f_X8_greatestGrip_L47 o ex i2 i3 i4 i5 k x6 S = some R → zW (ia_P0 L xs fm) ia_nx (d + 3) 8 false cX8_greatestGrip 8 (some .int) 47 [(0, .ref 26), (1, .ref o), (2, .int i2), (3, .int i3), (4, .int i4), (5, .int i5), (6, .int x6)] [] (h, t) (zQi (zDc t.1) h0 t R) := by
  intro k
  induction k with
  | zero => intro x6 S h hE hf; cases hf
  | succ k ih =>
    intro x6 S h hE hf
    unfold f_X8_greatestGrip_L47 at hf
    refine z_iload dX8_greatestGrip_47 rfl ?_
    refine z_iload dX8_greatestGrip_49 rfl ?_
    by_cases c14 : i5 ≤ x6
    · have hf := zif_t hf c14
      refine z_icmp_ge_t (tgt := 89) dX8_greatestGrip_51 (by decide) c14 ?_
      exact zW.sub (hex x6 S _ hE hf) [0, 1, 2, 3, 4, 5, 6] rfl rfl rfl rfl
    · have hf := zif_f hf c14
      refine z_icmp_ge_f (tgt := 89) dX8_greatestGrip_51 (by decide) c14 ?_
      refine z_iload dX8_greatestGrip_54 rfl ?_
      refine z_aload_n dX8_greatestGrip_56 rfl ?_
      refine z_getC dX8_greatestGrip_57 tF_8_15 hE dc_26 rfl rfl ?_
      refine z_alen (v := 144) dX8_greatestGrip_60 hE dc_28 (by decide) (by decide) ?_
      by_cases c15 : 144 ≤ x6
      · have hf := zif_t hf c15
        refine z_icmp_ge_t (tgt := 89) dX8_greatestGrip_61 (by decide) c15 ?_
        exact zW.sub (hex x6 S _ hE hf) [0, 1, 2, 3, 4, 5, 6] rfl rfl rfl rfl
      · have hf := zif_f hf c15
        refine z_icmp_ge_f (tgt := 89) dX8_greatestGrip_61 (by decide) c15 ?_
        refine z_aload_n dX8_greatestGrip_64 rfl ?_
        refine z_getC dX8_greatestGrip_65 tF_8_15 hE dc_26 rfl rfl ?_
        refine z_iload dX8_greatestGrip_68 rfl ?_
        obtain ⟨b16, hf⟩ := zchk hf
        refine z_ialoadL dX8_greatestGrip_70 hE dc_28 b16 rfl ?_
        refine z_iload_n dX8_greatestGrip_71 rfl ?_
        by_cases c17 : ¬ (S.1 28 x6.toNatClampNeg) = i3
        · have hf := zif_t hf c17
          refine z_icmp_ne_t (tgt := 83) dX8_greatestGrip_72 (by decide) c17 ?_
          obtain ⟨y18, ey18, hf⟩ := zl_some hf
          refine z_iincY (v := 1) (y := y18) (lv' := [(6, .int y18), (0, .ref 26), (1, .ref o), (2, .int i2), (3, .int i3), (4, .int i4), (5, .int i5)]) dX8_greatestGrip_83 rfl (by decide) (by decide) ey18 rfl ?_
          refine z_goto (tgt := 47) dX8_greatestGrip_86 (by decide) ?_
          exact zW.sub (ih y18 S _ hE hf) [1, 2, 3, 4, 5, 6, 0] rfl rfl rfl rfl
        · have hf := zif_f hf c17
          refine z_icmp_ne_f (tgt := 83) dX8_greatestGrip_72 (by decide) c17 ?_
          refine z_aload_n dX8_greatestGrip_75 rfl ?_
          refine z_getC dX8_greatestGrip_76 tF_8_18 hE dc_26 rfl rfl ?_
          refine z_iload dX8_greatestGrip_79 rfl ?_
          obtain ⟨b19, hf⟩ := zchk hf
          refine z_ialoadL dX8_greatestGrip_81 hE dc_29 b19 rfl ?_
          have e_ := Option.some.inj hf
          subst e_
          exact z_ireturn dX8_greatestGrip_82 rfl ⟨h, rfl, rfl, hE⟩
theorem w_X8_greatestGrip_L104 {L : Nat} {xs : Nat → Int32} {fm : Bool} {h0 : Nat → va_E} {t : Nat × Nat × Nat} (hn1 : 64 ≤ t.1) (hn2 : t.1 ≤ 1000000) (d : Nat) {o : Nat} (ho_o : zSc t.1 o) {ex : Int32 → Int32 → zS → Option (Int32 × zS)} {i2 : Int32} {i3 : Int32} {i4 : Int32} {i5 : Int32} {R : Int32 × zS} (hex : ∀ (x6 : Int32) (x7 : Int32) (S : zS) (h : Nat → va_E), zE (zDc t.1) h0 S (h, t) → ex x6 x7 S = some R → zW (ia_P0 L xs fm) ia_nx (d + 3) 8 false cX8_greatestGrip 8 (some .int) 142 [(0, .ref 26), (1, .ref o), (2, .int i2), (3, .int i3), (4, .int i4), (5, .int i5), (6, .int x6), (7, .int x7)] [] (h, t) (zQi (zDc t.1) h0 t R)) : ∀ (k : Nat) (x6 : Int32) (x7 : Int32) (S : zS) (h : Nat → va_E), zE (zDc t.1) h0 S (h, t) → f_X8_greatestGrip_L104 o ex i2 i3 i4 i5 k x6 x7 S = some R → zW (ia_P0 L xs fm) ia_nx (d + 3) 8 false cX8_greatestGrip 8 (some .int) 104 [(0, .ref 26), (1, .ref o), (2, .int i2), (3, .int i3), (4, .int i4), (5, .int i5), (6, .int x6), (7, .int x7)] [] (h, t) (zQi (zDc t.1) h0 t R) := by
  intro k
  induction k with
  | zero => intro x6 x7 S h hE hf; cases hf
  | succ k ih =>
    intro x6 x7 S h hE hf
    unfold f_X8_greatestGrip_L104 at hf
    refine z_iload dX8_greatestGrip_104 rfl ?_
    refine z_aload_n dX8_greatestGrip_106 rfl ?_
    refine z_getC dX8_greatestGrip_107 tF_8_24 hE dc_26 rfl rfl ?_
    refine z_getC dX8_greatestGrip_110 tF_8_58 hE dc_11 rfl rfl ?_
    refine z_iconst (v := 2) dX8_greatestGrip_113 (by decide) ?_
    refine z_ialoadL (i := 2) dX8_greatestGrip_114 hE dc_12 (by decide) (by decide) ?_
    by_cases c28 : (S.1 12 2) ≤ x7
    · have hf := zif_t hf c28
      refine z_icmp_ge_t (tgt := 142) dX8_greatestGrip_115 (by decide) c28 ?_
      exact zW.sub (hex x6 x7 S _ hE hf) [0, 1, 2, 3, 4, 5, 6, 7] rfl rfl rfl rfl
    · have hf := zif_f hf c28
      refine z_icmp_ge_f (tgt := 142) dX8_greatestGrip_115 (by decide) c28 ?_
      refine z_iload dX8_greatestGrip_118 rfl ?_
      refine z_aload_n dX8_greatestGrip_120 rfl ?_
      refine z_iload_n dX8_greatestGrip_121 rfl ?_
      refine z_iload dX8_greatestGrip_122 rfl ?_
      refine z_aload_n dX8_greatestGrip_124 rfl ?_
      obtain ⟨r30, S29, k31, hf⟩ := zb_some hf
      refine z_callVi dX8_greatestGrip_125 tM_8_93 mt_7010 (Nat.le_of_ble_eq_true rfl) rfl rfl (z_recv hE ho_o.1 rfl) rfl (by have q0 : 26 < t.1 := Nat.lt_of_lt_of_le (by decide) hn1; have q1 : o < t.1 := Nat.lt_of_lt_of_le ho_o.2.2 (Nat.le_trans (by decide) hn1); simp [ia_oks, ia_okv, q0, q1]) (Nat.le_of_ble_eq_true rfl) (w_X7_onTable hn1 hn2 (d + 2) ho_o hE k31) (fun h hE => ?_)
      obtain ⟨r33, S32, k34, hf⟩ := zb_some hf
      refine z_callVi dX8_greatestGrip_128 tM_8_103 mt_7006 (Nat.le_of_ble_eq_true rfl) rfl rfl (z_recv hE ho_o.1 rfl) rfl (by have q0 : 26 < t.1 := Nat.lt_of_lt_of_le (by decide) hn1; have q1 : o < t.1 := Nat.lt_of_lt_of_le ho_o.2.2 (Nat.le_trans (by decide) hn1); simp [ia_oks, ia_okv, q0, q1]) (Nat.le_of_ble_eq_true rfl) (w_X7_gripOn hn1 hn2 (d + 0) ho_o hE k34) (fun h hE => ?_)
      refine z_mmax dX8_greatestGrip_131 tM_8_107 (Nat.le_of_ble_eq_true rfl) ?_
      obtain ⟨y35, ey35, hf⟩ := zl_some hf
      refine z_topi ey35 ?_
      refine z_istore (lv' := [(6, .int y35), (0, .ref 26), (1, .ref o), (2, .int i2), (3, .int i3), (4, .int i4), (5, .int i5), (7, .int x7)]) dX8_greatestGrip_134 (by decide) rfl ?_
      obtain ⟨y36, ey36, hf⟩ := zl_some hf
      refine z_iincY (v := 1) (y := y36) (lv' := [(7, .int y36), (6, .int y35), (0, .ref 26), (1, .ref o), (2, .int i2), (3, .int i3), (4, .int i4), (5, .int i5)]) dX8_greatestGrip_136 rfl (by decide) (by decide) ey36 rfl ?_
      refine z_goto (tgt := 104) dX8_greatestGrip_139 (by decide) ?_
      exact zW.sub (ih y35 y36 S32 _ hE hf) [2, 3, 4, 5, 6, 7, 1, 0] rfl rfl rfl rfl
theorem w_X8_greatestGrip {L : Nat} {xs : Nat → Int32} {fm : Bool} {h0 : Nat → va_E} {t : Nat × Nat × Nat} (hn1 : 64 ≤ t.1) (hn2 : t.1 ≤ 1000000) (d : Nat) {o : Nat} (ho_o : zSc t.1 o) {h : Nat → va_E} {S : zS} (hE : zE (zDc t.1) h0 S (h, t)) {v2 : Int32} {R : Int32 × zS} (hf : f_X8_greatestGrip o v2 S = some R) : zC (ia_P0 L xs fm) (d + 4) 8006 [.ref 26, .ref o, .int v2] (h, t) (zQi (zDc t.1) h0 t R) := by
  refine zC_of mt_8006 nn_8006 (Nat.le_of_ble_eq_true rfl) ?_
  refine zW_lv (lv' := [(0, .ref 26), (1, .ref o), (2, .int v2)]) rfl ?_
  unfold f_X8_greatestGrip at hf
  refine z_aload_n dX8_greatestGrip_0 rfl ?_
  refine z_iload_n dX8_greatestGrip_1 rfl ?_
  refine z_iconst (v := 0) dX8_greatestGrip_2 (by decide) ?_
  obtain ⟨r2, S1, k3, hf⟩ := zb_some hf
  refine z_callVi dX8_greatestGrip_3 tM_8_100 mt_7003 (Nat.le_of_ble_eq_true rfl) rfl rfl (z_recv hE ho_o.1 rfl) rfl (by have q0 : 26 < t.1 := Nat.lt_of_lt_of_le (by decide) hn1; have q1 : o < t.1 := Nat.lt_of_lt_of_le ho_o.2.2 (Nat.le_trans (by decide) hn1); simp [ia_oks, ia_okv, q0, q1]) (Nat.le_of_ble_eq_true rfl) (w_X7_handCell hn1 hn2 (d + 2) ho_o hE k3) (fun h hE => ?_)
  refine z_bipush (v := 10) dX8_greatestGrip_6 (by decide) ?_
  refine z_imul dX8_greatestGrip_8 ?_
  refine z_aload_n dX8_greatestGrip_9 rfl ?_
  refine z_iload_n dX8_greatestGrip_10 rfl ?_
  refine z_iconst (v := 1) dX8_greatestGrip_11 (by decide) ?_
  obtain ⟨r5, S4, k6, hf⟩ := zb_some hf
  refine z_callVi dX8_greatestGrip_12 tM_8_100 mt_7003 (Nat.le_of_ble_eq_true rfl) rfl rfl (z_recv hE ho_o.1 rfl) rfl (by have q0 : 26 < t.1 := Nat.lt_of_lt_of_le (by decide) hn1; have q1 : o < t.1 := Nat.lt_of_lt_of_le ho_o.2.2 (Nat.le_trans (by decide) hn1); simp [ia_oks, ia_okv, q0, q1]) (Nat.le_of_ble_eq_true rfl) (w_X7_handCell hn1 hn2 (d + 2) ho_o hE k6) (fun h hE => ?_)
  refine z_iadd dX8_greatestGrip_15 ?_
  refine z_bipush (v := 10) dX8_greatestGrip_16 (by decide) ?_
  refine z_imul dX8_greatestGrip_18 ?_
  refine z_aload_n dX8_greatestGrip_19 rfl ?_
  refine z_iconst (v := 2) dX8_greatestGrip_20 (by decide) ?_
  obtain ⟨r8, S7, k9, hf⟩ := zb_some hf
  refine z_callVi dX8_greatestGrip_21 tM_8_74 mt_7013 (Nat.le_of_ble_eq_true rfl) rfl rfl (z_recv hE ho_o.1 rfl) rfl (by have q0 : 26 < t.1 := Nat.lt_of_lt_of_le (by decide) hn1; have q1 : o < t.1 := Nat.lt_of_lt_of_le ho_o.2.2 (Nat.le_trans (by decide) hn1); simp [ia_oks, ia_okv, q0, q1]) (Nat.le_of_ble_eq_true rfl) (w_X7_lid hn1 hn2 (d + 2) ho_o hE k9) (fun h hE => ?_)
  refine z_iadd dX8_greatestGrip_24 ?_
  obtain ⟨y10, ey10, hf⟩ := zl_some hf
  refine z_topi ey10 ?_
  refine z_istore_n (lv' := [(3, .int y10), (0, .ref 26), (1, .ref o), (2, .int v2)]) dX8_greatestGrip_25 (by decide) rfl ?_
  refine z_iload_n dX8_greatestGrip_26 rfl ?_
  refine z_bipush (v := 24) dX8_greatestGrip_27 (by decide) ?_
  refine z_imul dX8_greatestGrip_29 ?_
  obtain ⟨y11, ey11, hf⟩ := zl_some hf
  refine z_topi ey11 ?_
  refine z_istore (lv' := [(4, .int y11), (3, .int y10), (0, .ref 26), (1, .ref o), (2, .int v2)]) dX8_greatestGrip_30 (by decide) rfl ?_
  refine z_iload dX8_greatestGrip_32 rfl ?_
  refine z_aload_n dX8_greatestGrip_34 rfl ?_
  refine z_getC dX8_greatestGrip_35 tF_8_21 hE dc_26 rfl rfl ?_
  refine z_iload_n dX8_greatestGrip_38 rfl ?_
  obtain ⟨b12, hf⟩ := zchk hf
  refine z_ialoadL dX8_greatestGrip_39 hE dc_30 b12 rfl ?_
  refine z_iadd dX8_greatestGrip_40 ?_
  obtain ⟨y13, ey13, hf⟩ := zl_some hf
  refine z_topi ey13 ?_
  refine z_istore (lv' := [(5, .int y13), (4, .int y11), (3, .int y10), (0, .ref 26), (1, .ref o), (2, .int v2)]) dX8_greatestGrip_41 (by decide) rfl ?_
  refine z_iload dX8_greatestGrip_43 rfl ?_
  refine z_istore (lv' := [(6, .int y11), (5, .int y13), (4, .int y11), (3, .int y10), (0, .ref 26), (1, .ref o), (2, .int v2)]) dX8_greatestGrip_45 (by decide) rfl ?_
  refine zW.sub (w_X8_greatestGrip_L47 hn1 hn2 d ho_o (fun q21 S20 h hE hf => ?_) zN y11 S7 h hE hf) [4, 5, 6, 3, 2, 1, 0] rfl rfl rfl rfl
  try dsimp only at hf
  refine z_aload_n dX8_greatestGrip_89 rfl ?_
  refine z_iload_n dX8_greatestGrip_90 rfl ?_
  refine z_iconst (v := (-1)) dX8_greatestGrip_91 (by decide) ?_
  refine z_aload_n dX8_greatestGrip_92 rfl ?_
  obtain ⟨r23, S22, k24, hf⟩ := zb_some hf
  refine z_callVi dX8_greatestGrip_93 tM_8_93 mt_7010 (Nat.le_of_ble_eq_true rfl) rfl rfl (z_recv hE ho_o.1 rfl) rfl (by have q0 : 26 < t.1 := Nat.lt_of_lt_of_le (by decide) hn1; have q1 : o < t.1 := Nat.lt_of_lt_of_le ho_o.2.2 (Nat.le_trans (by decide) hn1); simp [ia_oks, ia_okv, q0, q1]) (Nat.le_of_ble_eq_true rfl) (w_X7_onTable hn1 hn2 (d + 2) ho_o hE k24) (fun h hE => ?_)
  obtain ⟨r26, S25, k27, hf⟩ := zb_some hf
  refine z_callVi dX8_greatestGrip_96 tM_8_103 mt_7006 (Nat.le_of_ble_eq_true rfl) rfl rfl (z_recv hE ho_o.1 rfl) rfl (by have q0 : 26 < t.1 := Nat.lt_of_lt_of_le (by decide) hn1; have q1 : o < t.1 := Nat.lt_of_lt_of_le ho_o.2.2 (Nat.le_trans (by decide) hn1); simp [ia_oks, ia_okv, q0, q1]) (Nat.le_of_ble_eq_true rfl) (w_X7_gripOn hn1 hn2 (d + 0) ho_o hE k27) (fun h hE => ?_)
  refine z_istore (lv' := [(6, .int r26), (0, .ref 26), (1, .ref o), (2, .int v2), (3, .int y10), (4, .int y11), (5, .int y13)]) dX8_greatestGrip_99 (by decide) rfl ?_
  refine z_iconst (v := 0) dX8_greatestGrip_101 (by decide) ?_
  refine z_istore (lv' := [(7, .int 0), (6, .int r26), (0, .ref 26), (1, .ref o), (2, .int v2), (3, .int y10), (4, .int y11), (5, .int y13)]) dX8_greatestGrip_102 (by decide) rfl ?_
  refine zW.sub (w_X8_greatestGrip_L104 hn1 hn2 d ho_o (fun q38 q39 S37 h hE hf => ?_) zN r26 0 S25 h hE hf) [2, 3, 4, 5, 6, 7, 1, 0] rfl rfl rfl rfl
  try dsimp only at hf
  refine z_aload_n dX8_greatestGrip_142 rfl ?_
  refine z_getC dX8_greatestGrip_143 tF_8_21 hE dc_26 rfl rfl ?_
  refine z_iload_n dX8_greatestGrip_146 rfl ?_
  obtain ⟨b40, hf⟩ := zchk hf
  refine z_ialoadL dX8_greatestGrip_147 hE dc_30 b40 rfl ?_
  refine z_bipush (v := 24) dX8_greatestGrip_148 (by decide) ?_
  by_cases c41 : 24 ≤ (S37.1 30 v2.toNatClampNeg)
  · have hf := zif_t hf c41
    refine z_icmp_ge_t (tgt := 180) dX8_greatestGrip_150 (by decide) c41 ?_
    refine z_iload dX8_greatestGrip_180 rfl ?_
    have e_ := Option.some.inj hf
    subst e_
    exact z_ireturn dX8_greatestGrip_182 rfl ⟨h, rfl, rfl, hE⟩
  · have hf := zif_f hf c41
    refine z_icmp_ge_f (tgt := 180) dX8_greatestGrip_150 (by decide) c41 ?_
    refine z_aload_n dX8_greatestGrip_153 rfl ?_
    refine z_getC dX8_greatestGrip_154 tF_8_15 hE dc_26 rfl rfl ?_
    refine z_iload dX8_greatestGrip_157 rfl ?_
    refine z_iload_n dX8_greatestGrip_159 rfl ?_
    obtain ⟨b42, hf⟩ := zchk hf
    obtain ⟨S43, eS43, hf⟩ := zl_some hf
    refine z_iastoreL (i := y13.toNatClampNeg) dX8_greatestGrip_160 hE dc_28 b42 rfl (fun h hE => ?_)
    rw [← eS43] at hE
    refine z_aload_n dX8_greatestGrip_161 rfl ?_
    refine z_getC dX8_greatestGrip_162 tF_8_18 hE dc_26 rfl rfl ?_
    refine z_iload dX8_greatestGrip_165 rfl ?_
    refine z_iload dX8_greatestGrip_167 rfl ?_
    obtain ⟨b44, hf⟩ := zchk hf
    obtain ⟨S45, eS45, hf⟩ := zl_some hf
    refine z_iastoreL (i := y13.toNatClampNeg) dX8_greatestGrip_169 hE dc_29 b44 rfl (fun h hE => ?_)
    rw [← eS45] at hE
    refine z_aload_n dX8_greatestGrip_170 rfl ?_
    refine z_getC dX8_greatestGrip_171 tF_8_21 hE dc_26 rfl rfl ?_
    refine z_iload_n dX8_greatestGrip_174 rfl ?_
    refine z_dup2 dX8_greatestGrip_175 ⟨rfl, rfl⟩ ?_
    obtain ⟨b46, hf⟩ := zchk hf
    refine z_ialoadL dX8_greatestGrip_176 hE dc_30 b46 rfl ?_
    refine z_iconst (v := 1) dX8_greatestGrip_177 (by decide) ?_
    refine z_iadd dX8_greatestGrip_178 ?_
    obtain ⟨b47, hf⟩ := zchk hf
    obtain ⟨S48, eS48, hf⟩ := zl_some hf
    refine z_iastoreL (i := v2.toNatClampNeg) dX8_greatestGrip_179 hE dc_30 b47 rfl (fun h hE => ?_)
    rw [← eS48] at hE
    refine z_iload dX8_greatestGrip_180 rfl ?_
    have e_ := Option.some.inj hf
    subst e_
    exact z_ireturn dX8_greatestGrip_182 rfl ⟨h, rfl, rfl, hE⟩
def f_X8_opensByTry_L11 (o : Nat) (ex : Int32 → zS → Option (Int32 × zS)) (i2 : Int32) : Nat → Int32 → zS → Option (Int32 × zS)
  | 0, _, _ => none
  | k + 1, x3, S =>
    if (S.1 12 1) ≤ x3 then
    ex x3 S
    else
    zb (f_X8_greatestGrip o x3 S) fun r9 S8 =>
    if r9 < i2 then
    zl (x3 + 1) fun (y12 : Int32) =>
    f_X8_opensByTry_L11 o ex i2 k y12 S8
    else
    some (1, S8)
def f_X8_opensByTry (o : Nat) (S : zS) : Option (Int32 × zS) :=
zb (f_X7_onTable o S) fun r2 S1 =>
zb (f_X7_hold o r2 S1) fun r5 S4 =>
f_X8_opensByTry_L11 o (fun (q14 : Int32) (S13 : zS) =>
some (0, S13)) r5 zN 0 S4
theorem w_X8_opensByTry_L11 {L : Nat} {xs : Nat → Int32} {fm : Bool} {h0 : Nat → va_E} {t : Nat × Nat × Nat} (hn1 : 64 ≤ t.1) (hn2 : t.1 ≤ 1000000) (d : Nat) {o : Nat} (ho_o : zSc t.1 o) {ex : Int32 → zS → Option (Int32 × zS)} {i2 : Int32} {R : Int32 × zS} (hex : ∀ (x3 : Int32) (S : zS) (h : Nat → va_E), zE (zDc t.1) h0 S (h, t) → ex x3 S = some R → zW (ia_P0 L xs fm) ia_nx (d + 4) 8 false cX8_opensByTry 4 (some .boolean) 42 [(0, .ref 26), (1, .ref o), (2, .int i2), (3, .int x3)] [] (h, t) (zQi (zDc t.1) h0 t R)) : ∀ (k : Nat) (x3 : Int32) (S : zS) (h : Nat → va_E), zE (zDc t.1) h0 S (h, t) → f_X8_opensByTry_L11 o ex i2 k x3 S = some R → zW (ia_P0 L xs fm) ia_nx (d + 4) 8 false cX8_opensByTry 4 (some .boolean) 11 [(0, .ref 26), (1, .ref o), (2, .int i2), (3, .int x3)] [] (h, t) (zQi (zDc t.1) h0 t R) := by
  intro k
  induction k with
  | zero => intro x3 S h hE hf; cases hf
  | succ k ih =>
    intro x3 S h hE hf
    unfold f_X8_opensByTry_L11 at hf
    refine z_iload_n dX8_opensByTry_11 rfl ?_
    refine z_aload_n dX8_opensByTry_12 rfl ?_
    refine z_getC dX8_opensByTry_13 tF_8_24 hE dc_26 rfl rfl ?_
    refine z_getC dX8_opensByTry_16 tF_8_58 hE dc_11 rfl rfl ?_
    refine z_iconst (v := 1) dX8_opensByTry_19 (by decide) ?_
    refine z_ialoadL (i := 1) dX8_opensByTry_20 hE dc_12 (by decide) (by decide) ?_
    by_cases c7 : (S.1 12 1) ≤ x3
    · have hf := zif_t hf c7
      refine z_icmp_ge_t (tgt := 42) dX8_opensByTry_21 (by decide) c7 ?_
      exact zW.sub (hex x3 S _ hE hf) [0, 1, 2, 3] rfl rfl rfl rfl
    · have hf := zif_f hf c7
      refine z_icmp_ge_f (tgt := 42) dX8_opensByTry_21 (by decide) c7 ?_
      refine z_aload_n dX8_opensByTry_24 rfl ?_
      refine z_aload_n dX8_opensByTry_25 rfl ?_
      refine z_iload_n dX8_opensByTry_26 rfl ?_
      obtain ⟨r9, S8, k10, hf⟩ := zb_some hf
      refine z_callVi dX8_opensByTry_27 tM_8_85 mt_8006 (Nat.le_of_ble_eq_true rfl) rfl rfl (z_recv hE dc_26 rfl) rfl (by have q0 : 26 < t.1 := Nat.lt_of_lt_of_le (by decide) hn1; have q1 : o < t.1 := Nat.lt_of_lt_of_le ho_o.2.2 (Nat.le_trans (by decide) hn1); simp [ia_oks, ia_okv, q0, q1]) (Nat.le_of_ble_eq_true rfl) (w_X8_greatestGrip hn1 hn2 (d + 0) ho_o hE k10) (fun h hE => ?_)
      refine z_iload_n dX8_opensByTry_30 rfl ?_
      by_cases c11 : r9 < i2
      · have hf := zif_t hf c11
        refine z_icmp_lt_t (tgt := 36) dX8_opensByTry_31 (by decide) c11 ?_
        obtain ⟨y12, ey12, hf⟩ := zl_some hf
        refine z_iincY (v := 1) (y := y12) (lv' := [(3, .int y12), (0, .ref 26), (1, .ref o), (2, .int i2)]) dX8_opensByTry_36 rfl (by decide) (by decide) ey12 rfl ?_
        refine z_goto (tgt := 11) dX8_opensByTry_39 (by decide) ?_
        exact zW.sub (ih y12 S8 _ hE hf) [1, 2, 3, 0] rfl rfl rfl rfl
      · have hf := zif_f hf c11
        refine z_icmp_lt_f (tgt := 36) dX8_opensByTry_31 (by decide) c11 ?_
        refine z_iconst (v := 1) dX8_opensByTry_34 (by decide) ?_
        have e_ := Option.some.inj hf
        subst e_
        exact z_zreturn dX8_opensByTry_35 rfl (by decide) ⟨h, rfl, rfl, hE⟩
theorem w_X8_opensByTry {L : Nat} {xs : Nat → Int32} {fm : Bool} {h0 : Nat → va_E} {t : Nat × Nat × Nat} (hn1 : 64 ≤ t.1) (hn2 : t.1 ≤ 1000000) (d : Nat) {o : Nat} (ho_o : zSc t.1 o) {h : Nat → va_E} {S : zS} (hE : zE (zDc t.1) h0 S (h, t)) {R : Int32 × zS} (hf : f_X8_opensByTry o S = some R) : zC (ia_P0 L xs fm) (d + 5) 8005 [.ref 26, .ref o] (h, t) (zQi (zDc t.1) h0 t R) := by
  refine zC_of mt_8005 nn_8005 (Nat.le_of_ble_eq_true rfl) ?_
  refine zW_lv (lv' := [(0, .ref 26), (1, .ref o)]) rfl ?_
  unfold f_X8_opensByTry at hf
  refine z_aload_n dX8_opensByTry_0 rfl ?_
  refine z_aload_n dX8_opensByTry_1 rfl ?_
  obtain ⟨r2, S1, k3, hf⟩ := zb_some hf
  refine z_callVi dX8_opensByTry_2 tM_8_93 mt_7010 (Nat.le_of_ble_eq_true rfl) rfl rfl (z_recv hE ho_o.1 rfl) rfl (by have q0 : 26 < t.1 := Nat.lt_of_lt_of_le (by decide) hn1; have q1 : o < t.1 := Nat.lt_of_lt_of_le ho_o.2.2 (Nat.le_trans (by decide) hn1); simp [ia_oks, ia_okv, q0, q1]) (Nat.le_of_ble_eq_true rfl) (w_X7_onTable hn1 hn2 (d + 3) ho_o hE k3) (fun h hE => ?_)
  obtain ⟨r5, S4, k6, hf⟩ := zb_some hf
  refine z_callVi dX8_opensByTry_5 tM_8_97 mt_7009 (Nat.le_of_ble_eq_true rfl) rfl rfl (z_recv hE ho_o.1 rfl) rfl (by have q0 : 26 < t.1 := Nat.lt_of_lt_of_le (by decide) hn1; have q1 : o < t.1 := Nat.lt_of_lt_of_le ho_o.2.2 (Nat.le_trans (by decide) hn1); simp [ia_oks, ia_okv, q0, q1]) (Nat.le_of_ble_eq_true rfl) (w_X7_hold hn1 hn2 (d + 2) ho_o hE k6) (fun h hE => ?_)
  refine z_istore_n (lv' := [(2, .int r5), (0, .ref 26), (1, .ref o)]) dX8_opensByTry_8 (by decide) rfl ?_
  refine z_iconst (v := 0) dX8_opensByTry_9 (by decide) ?_
  refine z_istore_n (lv' := [(3, .int 0), (2, .int r5), (0, .ref 26), (1, .ref o)]) dX8_opensByTry_10 (by decide) rfl ?_
  refine zW.sub (w_X8_opensByTry_L11 hn1 hn2 d ho_o (fun q14 S13 h hE hf => ?_) zN 0 S4 h hE hf) [2, 3, 1, 0] rfl rfl rfl rfl
  try dsimp only at hf
  refine z_iconst (v := 0) dX8_opensByTry_42 (by decide) ?_
  have e_ := Option.some.inj hf
  subst e_
  exact z_zreturn dX8_opensByTry_43 rfl (by decide) ⟨h, rfl, rfl, hE⟩
def f_X8_opensInTwo_31_L2 (ex : Int32 → zS → Option (Int32 × zS))  : Nat → Int32 → zS → Option (Int32 × zS)
  | 0, _, _ => none
  | k + 1, x2, S =>
    if (S.1 26 4) ≤ x2 then
    ex x2 S
    else
    if ia_in x2 41 = true then
    if 100 ≤ (S.1 27 x2.toNatClampNeg) then
    ex x2 S
    else
    zb (f_X7_take 33 31 S) fun _ S4 =>
    if ia_in x2 41 = true then
    zb (f_X7_act 33 (S4.1 27 x2.toNatClampNeg) S4) fun _ S8 =>
    zb (f_X7_lid 33 6 S8) fun r12 S11 =>
    zl (fun (S16 : zS) =>
    zl (x2 + 1) fun (y17 : Int32) =>
    f_X8_opensInTwo_31_L2 ex k y17 S16) fun J15 =>
    if ¬ r12 = 0 then
    J15 S11
    else
    zb (f_X8_opensByTry 33 S11) fun r19 S18 =>
    if r19 = 0 then
    J15 S18
    else
    some (1, S18)
    else none
    else none
def f_X8_opensInTwo_31_L75 (ex : Int32 → zS → Option (Int32 × zS))  : Nat → Int32 → zS → Option (Int32 × zS)
  | 0, _, _ => none
  | k + 1, x2, S =>
    if (S.1 12 1) ≤ x2 then
    ex x2 S
    else
    zb (f_X7_take 33 31 S) fun _ S25 =>
    zb (f_X8_greatestGrip 31 x2 S25) fun r29 S28 =>
    zb (f_X7_tryLid 33 x2 r29 S28) fun _ S31 =>
    zb (f_X8_opensByTry 33 S31) fun r35 S34 =>
    if r35 = 0 then
    zl (x2 + 1) fun (y38 : Int32) =>
    f_X8_opensInTwo_31_L75 ex k y38 S34
    else
    some (1, S34)
def f_X8_opensInTwo_31  (S : zS) : Option (Int32 × zS) :=
f_X8_opensInTwo_31_L2 (fun (q23 : Int32) (S22 : zS) =>
f_X8_opensInTwo_31_L75 (fun (q40 : Int32) (S39 : zS) =>
some (0, S39))  zN 0 S22)  zN 0 S
theorem w_X8_opensInTwo_31_L2 {L : Nat} {xs : Nat → Int32} {fm : Bool} {h0 : Nat → va_E} {t : Nat × Nat × Nat} (hn1 : 64 ≤ t.1) (hn2 : t.1 ≤ 1000000) (d : Nat) {ex : Int32 → zS → Option (Int32 × zS)} {R : Int32 × zS} (hex : ∀ (x2 : Int32) (S : zS) (h : Nat → va_E), zE (zDc t.1) h0 S (h, t) → ex x2 S = some R → zW (ia_P0 L xs fm) ia_nx (d + 5) 8 false cX8_opensInTwo 3 (some .boolean) 73 [(0, .ref 26), (1, .ref 31), (2, .int x2)] [] (h, t) (zQi (zDc t.1) h0 t R)) : ∀ (k : Nat) (x2 : Int32) (S : zS) (h : Nat → va_E), zE (zDc t.1) h0 S (h, t) → f_X8_opensInTwo_31_L2 ex  k x2 S = some R → zW (ia_P0 L xs fm) ia_nx (d + 5) 8 false cX8_opensInTwo 3 (some .boolean) 2 [(0, .ref 26), (1, .ref 31), (2, .int x2)] [] (h, t) (zQi (zDc t.1) h0 t R) := by
  intro k
  induction k with
  | zero => intro x2 S h hE hf; cases hf
  | succ k ih =>
    intro x2 S h hE hf
    unfold f_X8_opensInTwo_31_L2 at hf
    refine z_iload_n dX8_opensInTwo_2 rfl ?_
    refine z_aload_n dX8_opensInTwo_3 rfl ?_
    refine z_getI dX8_opensInTwo_4 tF_8_50 hE dc_26 rfl rfl ?_
    by_cases c1 : (S.1 26 4) ≤ x2
    · have hf := zif_t hf c1
      refine z_icmp_ge_t (tgt := 73) dX8_opensInTwo_7 (by decide) c1 ?_
      exact zW.sub (hex x2 S _ hE hf) [0, 1, 2] rfl rfl rfl rfl
    · have hf := zif_f hf c1
      refine z_icmp_ge_f (tgt := 73) dX8_opensInTwo_7 (by decide) c1 ?_
      refine z_aload_n dX8_opensInTwo_10 rfl ?_
      refine z_getC dX8_opensInTwo_11 tF_8_9 hE dc_26 rfl rfl ?_
      refine z_iload_n dX8_opensInTwo_14 rfl ?_
      obtain ⟨b2, hf⟩ := zchk hf
      refine z_ialoadL dX8_opensInTwo_15 hE dc_27 b2 rfl ?_
      refine z_bipush (v := 100) dX8_opensInTwo_16 (by decide) ?_
      by_cases c3 : 100 ≤ (S.1 27 x2.toNatClampNeg)
      · have hf := zif_t hf c3
        refine z_icmp_ge_t (tgt := 73) dX8_opensInTwo_18 (by decide) c3 ?_
        exact zW.sub (hex x2 S _ hE hf) [0, 1, 2] rfl rfl rfl rfl
      · have hf := zif_f hf c3
        refine z_icmp_ge_f (tgt := 73) dX8_opensInTwo_18 (by decide) c3 ?_
        refine z_aload_n dX8_opensInTwo_21 rfl ?_
        refine z_getC dX8_opensInTwo_22 tF_8_37 hE dc_26 rfl rfl ?_
        refine z_aload_n dX8_opensInTwo_25 rfl ?_
        obtain ⟨r5, S4, k6, hf⟩ := zb_some hf
        refine z_callVv dX8_opensInTwo_26 tM_8_67 mt_7024 (Nat.le_of_ble_eq_true rfl) rfl rfl (z_recv hE dc_33 rfl) rfl (ia_oks_le hn1 rfl) (Nat.le_of_ble_eq_true rfl) (w_X7_take hn1 hn2 (d + 4) sc_33 sc_31 hE k6) (fun h hE => ?_)
        refine z_aload_n dX8_opensInTwo_29 rfl ?_
        refine z_getC dX8_opensInTwo_30 tF_8_37 hE dc_26 rfl rfl ?_
        refine z_aload_n dX8_opensInTwo_33 rfl ?_
        refine z_getC dX8_opensInTwo_34 tF_8_9 hE dc_26 rfl rfl ?_
        refine z_iload_n dX8_opensInTwo_37 rfl ?_
        obtain ⟨b7, hf⟩ := zchk hf
        refine z_ialoadL dX8_opensInTwo_38 hE dc_27 b7 rfl ?_
        obtain ⟨r9, S8, k10, hf⟩ := zb_some hf
        refine z_callVv dX8_opensInTwo_39 tM_8_71 mt_7020 (Nat.le_of_ble_eq_true rfl) rfl rfl (z_recv hE dc_33 rfl) rfl (ia_oks_le hn1 rfl) (Nat.le_of_ble_eq_true rfl) (w_X7_act hn1 hn2 (d + 0) sc_33 hE k10) (fun h hE => ?_)
        refine z_aload_n dX8_opensInTwo_42 rfl ?_
        refine z_getC dX8_opensInTwo_43 tF_8_37 hE dc_26 rfl rfl ?_
        refine z_bipush (v := 6) dX8_opensInTwo_46 (by decide) ?_
        obtain ⟨r12, S11, k13, hf⟩ := zb_some hf
        refine z_callVi dX8_opensInTwo_48 tM_8_74 mt_7013 (Nat.le_of_ble_eq_true rfl) rfl rfl (z_recv hE dc_33 rfl) rfl (ia_oks_le hn1 rfl) (Nat.le_of_ble_eq_true rfl) (w_X7_lid hn1 hn2 (d + 4) sc_33 hE k13) (fun h hE => ?_)
        obtain ⟨J15, eJ15, hf⟩ := zl_some hf
        have hJ15 : ∀ (S16 : zS) (h : Nat → va_E), zE (zDc t.1) h0 S16 (h, t) → J15 S16 = some R → zW (ia_P0 L xs fm) ia_nx (d + 5) 8 false cX8_opensInTwo 3 (some .boolean) 67 [(0, .ref 26), (1, .ref 31), (2, .int x2)] [] (h, t) (zQi (zDc t.1) h0 t R) := by
          intro S16 h hE hf
          rw [eJ15] at hf
          obtain ⟨y17, ey17, hf⟩ := zl_some hf
          refine z_iincY (v := 1) (y := y17) (lv' := [(2, .int y17), (0, .ref 26), (1, .ref 31)]) dX8_opensInTwo_67 rfl (by decide) (by decide) ey17 rfl ?_
          refine z_goto (tgt := 2) dX8_opensInTwo_70 (by decide) ?_
          exact zW.sub (ih y17 S16 _ hE hf) [1, 2, 0] rfl rfl rfl rfl
        by_cases c14 : ¬ r12 = 0
        · have hf := zif_t hf c14
          refine z_if_ne_t (tgt := 67) dX8_opensInTwo_51 (by decide) c14 ?_
          exact zW.sub (hJ15 S11 _ hE hf) [0, 1, 2] rfl rfl rfl rfl
        · have hf := zif_f hf c14
          refine z_if_ne_f (tgt := 67) dX8_opensInTwo_51 (by decide) c14 ?_
          refine z_aload_n dX8_opensInTwo_54 rfl ?_
          refine z_aload_n dX8_opensInTwo_55 rfl ?_
          refine z_getC dX8_opensInTwo_56 tF_8_37 hE dc_26 rfl rfl ?_
          obtain ⟨r19, S18, k20, hf⟩ := zb_some hf
          refine z_callVi dX8_opensInTwo_59 tM_8_78 mt_8005 (Nat.le_of_ble_eq_true rfl) rfl rfl (z_recv hE dc_26 rfl) rfl (ia_oks_le hn1 rfl) (Nat.le_of_ble_eq_true rfl) (w_X8_opensByTry hn1 hn2 (d + 0) sc_33 hE k20) (fun h hE => ?_)
          by_cases c21 : r19 = 0
          · have hf := zif_t hf c21
            refine z_if_eq_t (tgt := 67) dX8_opensInTwo_62 (by decide) c21 ?_
            exact zW.sub (hJ15 S18 _ hE hf) [0, 1, 2] rfl rfl rfl rfl
          · have hf := zif_f hf c21
            refine z_if_eq_f (tgt := 67) dX8_opensInTwo_62 (by decide) c21 ?_
            refine z_iconst (v := 1) dX8_opensInTwo_65 (by decide) ?_
            have e_ := Option.some.inj hf
            subst e_
            exact z_zreturn dX8_opensInTwo_66 rfl (by decide) ⟨h, rfl, rfl, hE⟩
theorem w_X8_opensInTwo_31_L75 {L : Nat} {xs : Nat → Int32} {fm : Bool} {h0 : Nat → va_E} {t : Nat × Nat × Nat} (hn1 : 64 ≤ t.1) (hn2 : t.1 ≤ 1000000) (d : Nat) {ex : Int32 → zS → Option (Int32 × zS)} {R : Int32 × zS} (hex : ∀ (x2 : Int32) (S : zS) (h : Nat → va_E), zE (zDc t.1) h0 S (h, t) → ex x2 S = some R → zW (ia_P0 L xs fm) ia_nx (d + 5) 8 false cX8_opensInTwo 3 (some .boolean) 129 [(0, .ref 26), (1, .ref 31), (2, .int x2)] [] (h, t) (zQi (zDc t.1) h0 t R)) : ∀ (k : Nat) (x2 : Int32) (S : zS) (h : Nat → va_E), zE (zDc t.1) h0 S (h, t) → f_X8_opensInTwo_31_L75 ex  k x2 S = some R → zW (ia_P0 L xs fm) ia_nx (d + 5) 8 false cX8_opensInTwo 3 (some .boolean) 75 [(0, .ref 26), (1, .ref 31), (2, .int x2)] [] (h, t) (zQi (zDc t.1) h0 t R) := by
  intro k
  induction k with
  | zero => intro x2 S h hE hf; cases hf
  | succ k ih =>
    intro x2 S h hE hf
    unfold f_X8_opensInTwo_31_L75 at hf
    refine z_iload_n dX8_opensInTwo_75 rfl ?_
    refine z_aload_n dX8_opensInTwo_76 rfl ?_
    refine z_getC dX8_opensInTwo_77 tF_8_24 hE dc_26 rfl rfl ?_
    refine z_getC dX8_opensInTwo_80 tF_8_58 hE dc_11 rfl rfl ?_
    refine z_iconst (v := 1) dX8_opensInTwo_83 (by decide) ?_
    refine z_ialoadL (i := 1) dX8_opensInTwo_84 hE dc_12 (by decide) (by decide) ?_
    by_cases c24 : (S.1 12 1) ≤ x2
    · have hf := zif_t hf c24
      refine z_icmp_ge_t (tgt := 129) dX8_opensInTwo_85 (by decide) c24 ?_
      exact zW.sub (hex x2 S _ hE hf) [0, 1, 2] rfl rfl rfl rfl
    · have hf := zif_f hf c24
      refine z_icmp_ge_f (tgt := 129) dX8_opensInTwo_85 (by decide) c24 ?_
      refine z_aload_n dX8_opensInTwo_88 rfl ?_
      refine z_getC dX8_opensInTwo_89 tF_8_37 hE dc_26 rfl rfl ?_
      refine z_aload_n dX8_opensInTwo_92 rfl ?_
      obtain ⟨r26, S25, k27, hf⟩ := zb_some hf
      refine z_callVv dX8_opensInTwo_93 tM_8_67 mt_7024 (Nat.le_of_ble_eq_true rfl) rfl rfl (z_recv hE dc_33 rfl) rfl (ia_oks_le hn1 rfl) (Nat.le_of_ble_eq_true rfl) (w_X7_take hn1 hn2 (d + 4) sc_33 sc_31 hE k27) (fun h hE => ?_)
      refine z_aload_n dX8_opensInTwo_96 rfl ?_
      refine z_getC dX8_opensInTwo_97 tF_8_37 hE dc_26 rfl rfl ?_
      refine z_iload_n dX8_opensInTwo_100 rfl ?_
      refine z_aload_n dX8_opensInTwo_101 rfl ?_
      refine z_aload_n dX8_opensInTwo_102 rfl ?_
      refine z_iload_n dX8_opensInTwo_103 rfl ?_
      obtain ⟨r29, S28, k30, hf⟩ := zb_some hf
      refine z_callVi dX8_opensInTwo_104 tM_8_85 mt_8006 (Nat.le_of_ble_eq_true rfl) rfl rfl (z_recv hE dc_26 rfl) rfl (ia_oks_le hn1 rfl) (Nat.le_of_ble_eq_true rfl) (w_X8_greatestGrip hn1 hn2 (d + 1) sc_31 hE k30) (fun h hE => ?_)
      obtain ⟨r32, S31, k33, hf⟩ := zb_some hf
      refine z_callVv dX8_opensInTwo_107 tM_8_89 mt_7011 (Nat.le_of_ble_eq_true rfl) rfl rfl (z_recv hE dc_33 rfl) rfl (ia_oks_le hn1 rfl) (Nat.le_of_ble_eq_true rfl) (w_X7_tryLid hn1 hn2 (d + 1) sc_33 hE k33) (fun h hE => ?_)
      refine z_aload_n dX8_opensInTwo_110 rfl ?_
      refine z_aload_n dX8_opensInTwo_111 rfl ?_
      refine z_getC dX8_opensInTwo_112 tF_8_37 hE dc_26 rfl rfl ?_
      obtain ⟨r35, S34, k36, hf⟩ := zb_some hf
      refine z_callVi dX8_opensInTwo_115 tM_8_78 mt_8005 (Nat.le_of_ble_eq_true rfl) rfl rfl (z_recv hE dc_26 rfl) rfl (ia_oks_le hn1 rfl) (Nat.le_of_ble_eq_true rfl) (w_X8_opensByTry hn1 hn2 (d + 0) sc_33 hE k36) (fun h hE => ?_)
      by_cases c37 : r35 = 0
      · have hf := zif_t hf c37
        refine z_if_eq_t (tgt := 123) dX8_opensInTwo_118 (by decide) c37 ?_
        obtain ⟨y38, ey38, hf⟩ := zl_some hf
        refine z_iincY (v := 1) (y := y38) (lv' := [(2, .int y38), (0, .ref 26), (1, .ref 31)]) dX8_opensInTwo_123 rfl (by decide) (by decide) ey38 rfl ?_
        refine z_goto (tgt := 75) dX8_opensInTwo_126 (by decide) ?_
        exact zW.sub (ih y38 S34 _ hE hf) [1, 2, 0] rfl rfl rfl rfl
      · have hf := zif_f hf c37
        refine z_if_eq_f (tgt := 123) dX8_opensInTwo_118 (by decide) c37 ?_
        refine z_iconst (v := 1) dX8_opensInTwo_121 (by decide) ?_
        have e_ := Option.some.inj hf
        subst e_
        exact z_zreturn dX8_opensInTwo_122 rfl (by decide) ⟨h, rfl, rfl, hE⟩
theorem w_X8_opensInTwo_31 {L : Nat} {xs : Nat → Int32} {fm : Bool} {h0 : Nat → va_E} {t : Nat × Nat × Nat} (hn1 : 64 ≤ t.1) (hn2 : t.1 ≤ 1000000) (d : Nat) {h : Nat → va_E} {S : zS} (hE : zE (zDc t.1) h0 S (h, t)) {R : Int32 × zS} (hf : f_X8_opensInTwo_31  S = some R) : zC (ia_P0 L xs fm) (d + 6) 8007 [.ref 26, .ref 31] (h, t) (zQi (zDc t.1) h0 t R) := by
  refine zC_of mt_8007 nn_8007 (Nat.le_of_ble_eq_true rfl) ?_
  refine zW_lv (lv' := [(0, .ref 26), (1, .ref 31)]) rfl ?_
  unfold f_X8_opensInTwo_31 at hf
  refine z_iconst (v := 0) dX8_opensInTwo_0 (by decide) ?_
  refine z_istore_n (lv' := [(2, .int 0), (0, .ref 26), (1, .ref 31)]) dX8_opensInTwo_1 (by decide) rfl ?_
  refine zW.sub (w_X8_opensInTwo_31_L2 hn1 hn2 d (fun q23 S22 h hE hf => ?_) zN 0 S h hE hf) [1, 2, 0] rfl rfl rfl rfl
  try dsimp only at hf
  refine z_iconst (v := 0) dX8_opensInTwo_73 (by decide) ?_
  refine z_istore_n (lv' := [(2, .int 0), (0, .ref 26), (1, .ref 31)]) dX8_opensInTwo_74 (by decide) rfl ?_
  refine zW.sub (w_X8_opensInTwo_31_L75 hn1 hn2 d (fun q40 S39 h hE hf => ?_) zN 0 S22 h hE hf) [1, 2, 0] rfl rfl rfl rfl
  try dsimp only at hf
  refine z_iconst (v := 0) dX8_opensInTwo_129 (by decide) ?_
  have e_ := Option.some.inj hf
  subst e_
  exact z_zreturn dX8_opensInTwo_130 rfl (by decide) ⟨h, rfl, rfl, hE⟩
def f_X8_firstOf_17_L2 (ex : Int32 → zS → Option (Int32 × zS)) (i1 : Int32) : Nat → Int32 → zS → Option (Int32 × zS)
  | 0, _, _ => none
  | k + 1, x3, S =>
    if (S.1 26 4) ≤ x3 then
    ex x3 S
    else
    zb (f_X7_take 31 17 S) fun _ S2 =>
    if ia_in x3 41 = true then
    zb (f_X7_act 31 (S2.1 27 x3.toNatClampNeg) S2) fun _ S6 =>
    zl (fun (q12 : Int32) (S11 : zS) =>
    if q12 = 0 then
    zl (x3 + 1) fun (y14 : Int32) =>
    f_X8_firstOf_17_L2 ex i1 k y14 S11
    else
    if ia_in x3 41 = true then
    some (S11.1 27 x3.toNatClampNeg, S11)
    else none) fun J10 =>
    if ¬ i1 = 1 then
    zb (f_X7_lid 31 6 S6) fun r17 S16 =>
    if ¬ r17 = 1 then
    zl (fun (q23 : Int32) (S22 : zS) =>
    J10 q23 S22) fun J21 =>
    if ¬ i1 = 2 then
    zb (f_X8_opensInTwo_31 S16) fun r25 S24 =>
    J21 r25 S24
    else
    zb (f_X8_opensByTry 31 S16) fun r28 S27 =>
    J21 r28 S27
    else
    J10 0 S16
    else
    zb (f_X7_lid 31 5 S6) fun r31 S30 =>
    zl (fun (q35 : Int32) =>
    J10 q35 S30) fun J34 =>
    if ¬ r31 = 1 then
    J34 0
    else
    J34 1
    else none
def f_X8_firstOf_17 (v1 : Int32) (S : zS) : Option (Int32 × zS) :=
f_X8_firstOf_17_L2 (fun (q37 : Int32) (S36 : zS) =>
some ((-1), S36)) v1 zN 0 S
theorem w_X8_firstOf_17_L2 {L : Nat} {xs : Nat → Int32} {fm : Bool} {h0 : Nat → va_E} {t : Nat × Nat × Nat} (hn1 : 64 ≤ t.1) (hn2 : t.1 ≤ 1000000) (d : Nat) {ex : Int32 → zS → Option (Int32 × zS)} {i1 : Int32} {R : Int32 × zS} (hex : ∀ (x3 : Int32) (S : zS) (h : Nat → va_E), zE (zDc t.1) h0 S (h, t) → ex x3 S = some R → zW (ia_P0 L xs fm) ia_nx (d + 6) 8 false cX8_firstOf 5 (some .int) 121 [(0, .ref 26), (1, .int i1), (2, .ref 17), (3, .int x3)] [] (h, t) (zQi (zDc t.1) h0 t R)) : ∀ (k : Nat) (x3 : Int32) (S : zS) (h : Nat → va_E), zE (zDc t.1) h0 S (h, t) → f_X8_firstOf_17_L2 ex i1 k x3 S = some R → zW (ia_P0 L xs fm) ia_nx (d + 6) 8 false cX8_firstOf 5 (some .int) 2 [(0, .ref 26), (1, .int i1), (2, .ref 17), (3, .int x3)] [] (h, t) (zQi (zDc t.1) h0 t R) := by
  intro k
  induction k with
  | zero => intro x3 S h hE hf; cases hf
  | succ k ih =>
    intro x3 S h hE hf
    unfold f_X8_firstOf_17_L2 at hf
    refine z_iload_n dX8_firstOf_2 rfl ?_
    refine z_aload_n dX8_firstOf_3 rfl ?_
    refine z_getI dX8_firstOf_4 tF_8_50 hE dc_26 rfl rfl ?_
    by_cases c1 : (S.1 26 4) ≤ x3
    · have hf := zif_t hf c1
      refine z_icmp_ge_t (tgt := 121) dX8_firstOf_7 (by decide) c1 ?_
      exact zW.sub (hex x3 S _ hE hf) [0, 1, 2, 3] rfl rfl rfl rfl
    · have hf := zif_f hf c1
      refine z_icmp_ge_f (tgt := 121) dX8_firstOf_7 (by decide) c1 ?_
      refine z_aload_n dX8_firstOf_10 rfl ?_
      refine z_getC dX8_firstOf_11 tF_8_33 hE dc_26 rfl rfl ?_
      refine z_aload_n dX8_firstOf_14 rfl ?_
      obtain ⟨r3, S2, k4, hf⟩ := zb_some hf
      refine z_callVv dX8_firstOf_15 tM_8_67 mt_7024 (Nat.le_of_ble_eq_true rfl) rfl rfl (z_recv hE dc_31 rfl) rfl (ia_oks_le hn1 rfl) (Nat.le_of_ble_eq_true rfl) (w_X7_take hn1 hn2 (d + 5) sc_31 sc_17 hE k4) (fun h hE => ?_)
      refine z_aload_n dX8_firstOf_18 rfl ?_
      refine z_getC dX8_firstOf_19 tF_8_33 hE dc_26 rfl rfl ?_
      refine z_aload_n dX8_firstOf_22 rfl ?_
      refine z_getC dX8_firstOf_23 tF_8_9 hE dc_26 rfl rfl ?_
      refine z_iload_n dX8_firstOf_26 rfl ?_
      obtain ⟨b5, hf⟩ := zchk hf
      refine z_ialoadL dX8_firstOf_27 hE dc_27 b5 rfl ?_
      obtain ⟨r7, S6, k8, hf⟩ := zb_some hf
      refine z_callVv dX8_firstOf_28 tM_8_71 mt_7020 (Nat.le_of_ble_eq_true rfl) rfl rfl (z_recv hE dc_31 rfl) rfl (ia_oks_le hn1 rfl) (Nat.le_of_ble_eq_true rfl) (w_X7_act hn1 hn2 (d + 1) sc_31 hE k8) (fun h hE => ?_)
      refine z_iload_n dX8_firstOf_31 rfl ?_
      refine z_iconst (v := 1) dX8_firstOf_32 (by decide) ?_
      obtain ⟨J10, eJ10, hf⟩ := zl_some hf
      have hJ10 : ∀ (q12 : Int32) (S11 : zS) (h : Nat → va_E), zE (zDc t.1) h0 S11 (h, t) → J10 q12 S11 = some R → zW (ia_P0 L xs fm) ia_nx (d + 6) 8 false cX8_firstOf 5 (some .int) 103 [(0, .ref 26), (1, .int i1), (2, .ref 17), (3, .int x3), (4, .int q12)] [] (h, t) (zQi (zDc t.1) h0 t R) := by
        intro q12 S11 h hE hf
        rw [eJ10] at hf
        refine z_iload dX8_firstOf_103 rfl ?_
        by_cases c13 : q12 = 0
        · have hf := zif_t hf c13
          refine z_if_eq_t (tgt := 115) dX8_firstOf_105 (by decide) c13 ?_
          obtain ⟨y14, ey14, hf⟩ := zl_some hf
          refine z_iincY (v := 1) (y := y14) (lv' := [(3, .int y14), (0, .ref 26), (1, .int i1), (2, .ref 17), (4, .int q12)]) dX8_firstOf_115 rfl (by decide) (by decide) ey14 rfl ?_
          refine z_goto (tgt := 2) dX8_firstOf_118 (by decide) ?_
          exact zW.sub (ih y14 S11 _ hE hf) [1, 2, 3, 0] rfl rfl rfl rfl
        · have hf := zif_f hf c13
          refine z_if_eq_f (tgt := 115) dX8_firstOf_105 (by decide) c13 ?_
          refine z_aload_n dX8_firstOf_108 rfl ?_
          refine z_getC dX8_firstOf_109 tF_8_9 hE dc_26 rfl rfl ?_
          refine z_iload_n dX8_firstOf_112 rfl ?_
          obtain ⟨b15, hf⟩ := zchk hf
          refine z_ialoadL dX8_firstOf_113 hE dc_27 b15 rfl ?_
          have e_ := Option.some.inj hf
          subst e_
          exact z_ireturn dX8_firstOf_114 rfl ⟨h, rfl, rfl, hE⟩
      by_cases c9 : ¬ i1 = 1
      · have hf := zif_t hf c9
        refine z_icmp_ne_t (tgt := 58) dX8_firstOf_33 (by decide) c9 ?_
        refine z_aload_n dX8_firstOf_58 rfl ?_
        refine z_getC dX8_firstOf_59 tF_8_33 hE dc_26 rfl rfl ?_
        refine z_bipush (v := 6) dX8_firstOf_62 (by decide) ?_
        obtain ⟨r17, S16, k18, hf⟩ := zb_some hf
        refine z_callVi dX8_firstOf_64 tM_8_74 mt_7013 (Nat.le_of_ble_eq_true rfl) rfl rfl (z_recv hE dc_31 rfl) rfl (ia_oks_le hn1 rfl) (Nat.le_of_ble_eq_true rfl) (w_X7_lid hn1 hn2 (d + 5) sc_31 hE k18) (fun h hE => ?_)
        refine z_iconst (v := 1) dX8_firstOf_67 (by decide) ?_
        by_cases c19 : ¬ r17 = 1
        · have hf := zif_t hf c19
          refine z_icmp_ne_t (tgt := 77) dX8_firstOf_68 (by decide) c19 ?_
          refine z_iload_n dX8_firstOf_77 rfl ?_
          refine z_iconst (v := 2) dX8_firstOf_78 (by decide) ?_
          obtain ⟨J21, eJ21, hf⟩ := zl_some hf
          have hJ21 : ∀ (q23 : Int32) (S22 : zS) (h : Nat → va_E), zE (zDc t.1) h0 S22 (h, t) → J21 q23 S22 = some R → zW (ia_P0 L xs fm) ia_nx (d + 6) 8 false cX8_firstOf 5 (some .int) 101 [(0, .ref 26), (1, .int i1), (2, .ref 17), (3, .int x3)] [.int q23] (h, t) (zQi (zDc t.1) h0 t R) := by
            intro q23 S22 h hE hf
            rw [eJ21] at hf
            refine z_istore (lv' := [(4, .int q23), (0, .ref 26), (1, .int i1), (2, .ref 17), (3, .int x3)]) dX8_firstOf_101 (by decide) rfl ?_
            exact zW.sub (hJ10 q23 S22 _ hE hf) [1, 2, 3, 4, 0] rfl rfl rfl rfl
          by_cases c20 : ¬ i1 = 2
          · have hf := zif_t hf c20
            refine z_icmp_ne_t (tgt := 93) dX8_firstOf_79 (by decide) c20 ?_
            refine z_aload_n dX8_firstOf_93 rfl ?_
            refine z_aload_n dX8_firstOf_94 rfl ?_
            refine z_getC dX8_firstOf_95 tF_8_33 hE dc_26 rfl rfl ?_
            obtain ⟨r25, S24, k26, hf⟩ := zb_some hf
            refine z_callVi dX8_firstOf_98 tM_8_82 mt_8007 (Nat.le_of_ble_eq_true rfl) rfl rfl (z_recv hE dc_26 rfl) rfl (ia_oks_le hn1 rfl) (Nat.le_of_ble_eq_true rfl) (w_X8_opensInTwo_31 hn1 hn2 (d + 0) hE k26) (fun h hE => ?_)
            exact zW.sub (hJ21 r25 S24 _ hE hf) [0, 1, 2, 3] rfl rfl rfl rfl
          · have hf := zif_f hf c20
            refine z_icmp_ne_f (tgt := 93) dX8_firstOf_79 (by decide) c20 ?_
            refine z_aload_n dX8_firstOf_82 rfl ?_
            refine z_aload_n dX8_firstOf_83 rfl ?_
            refine z_getC dX8_firstOf_84 tF_8_33 hE dc_26 rfl rfl ?_
            obtain ⟨r28, S27, k29, hf⟩ := zb_some hf
            refine z_callVi dX8_firstOf_87 tM_8_78 mt_8005 (Nat.le_of_ble_eq_true rfl) rfl rfl (z_recv hE dc_26 rfl) rfl (ia_oks_le hn1 rfl) (Nat.le_of_ble_eq_true rfl) (w_X8_opensByTry hn1 hn2 (d + 1) sc_31 hE k29) (fun h hE => ?_)
            refine z_goto (tgt := 101) dX8_firstOf_90 (by decide) ?_
            exact zW.sub (hJ21 r28 S27 _ hE hf) [0, 1, 2, 3] rfl rfl rfl rfl
        · have hf := zif_f hf c19
          refine z_icmp_ne_f (tgt := 77) dX8_firstOf_68 (by decide) c19 ?_
          refine z_iconst (v := 0) dX8_firstOf_71 (by decide) ?_
          refine z_istore (lv' := [(4, .int 0), (0, .ref 26), (1, .int i1), (2, .ref 17), (3, .int x3)]) dX8_firstOf_72 (by decide) rfl ?_
          refine z_goto (tgt := 103) dX8_firstOf_74 (by decide) ?_
          exact zW.sub (hJ10 0 S16 _ hE hf) [1, 2, 3, 4, 0] rfl rfl rfl rfl
      · have hf := zif_f hf c9
        refine z_icmp_ne_f (tgt := 58) dX8_firstOf_33 (by decide) c9 ?_
        refine z_aload_n dX8_firstOf_36 rfl ?_
        refine z_getC dX8_firstOf_37 tF_8_33 hE dc_26 rfl rfl ?_
        refine z_iconst (v := 5) dX8_firstOf_40 (by decide) ?_
        obtain ⟨r31, S30, k32, hf⟩ := zb_some hf
        refine z_callVi dX8_firstOf_41 tM_8_74 mt_7013 (Nat.le_of_ble_eq_true rfl) rfl rfl (z_recv hE dc_31 rfl) rfl (ia_oks_le hn1 rfl) (Nat.le_of_ble_eq_true rfl) (w_X7_lid hn1 hn2 (d + 5) sc_31 hE k32) (fun h hE => ?_)
        refine z_iconst (v := 1) dX8_firstOf_44 (by decide) ?_
        obtain ⟨J34, eJ34, hf⟩ := zl_some hf
        have hJ34 : ∀ (q35 : Int32) (h : Nat → va_E), zE (zDc t.1) h0 S30 (h, t) → J34 q35 = some R → zW (ia_P0 L xs fm) ia_nx (d + 6) 8 false cX8_firstOf 5 (some .int) 53 [(0, .ref 26), (1, .int i1), (2, .ref 17), (3, .int x3)] [.int q35] (h, t) (zQi (zDc t.1) h0 t R) := by
          intro q35 h hE hf
          rw [eJ34] at hf
          refine z_istore (lv' := [(4, .int q35), (0, .ref 26), (1, .int i1), (2, .ref 17), (3, .int x3)]) dX8_firstOf_53 (by decide) rfl ?_
          refine z_goto (tgt := 103) dX8_firstOf_55 (by decide) ?_
          exact zW.sub (hJ10 q35 S30 _ hE hf) [1, 2, 3, 4, 0] rfl rfl rfl rfl
        by_cases c33 : ¬ r31 = 1
        · have hf := zif_t hf c33
          refine z_icmp_ne_t (tgt := 52) dX8_firstOf_45 (by decide) c33 ?_
          refine z_iconst (v := 0) dX8_firstOf_52 (by decide) ?_
          exact zW.sub (hJ34 0 _ hE hf) [0, 1, 2, 3] rfl rfl rfl rfl
        · have hf := zif_f hf c33
          refine z_icmp_ne_f (tgt := 52) dX8_firstOf_45 (by decide) c33 ?_
          refine z_iconst (v := 1) dX8_firstOf_48 (by decide) ?_
          refine z_goto (tgt := 53) dX8_firstOf_49 (by decide) ?_
          exact zW.sub (hJ34 1 _ hE hf) [0, 1, 2, 3] rfl rfl rfl rfl
theorem w_X8_firstOf_17 {L : Nat} {xs : Nat → Int32} {fm : Bool} {h0 : Nat → va_E} {t : Nat × Nat × Nat} (hn1 : 64 ≤ t.1) (hn2 : t.1 ≤ 1000000) (d : Nat) {h : Nat → va_E} {S : zS} (hE : zE (zDc t.1) h0 S (h, t)) {v1 : Int32} {R : Int32 × zS} (hf : f_X8_firstOf_17 v1 S = some R) : zC (ia_P0 L xs fm) (d + 7) 8004 [.ref 26, .int v1, .ref 17] (h, t) (zQi (zDc t.1) h0 t R) := by
  refine zC_of mt_8004 nn_8004 (Nat.le_of_ble_eq_true rfl) ?_
  refine zW_lv (lv' := [(0, .ref 26), (1, .int v1), (2, .ref 17)]) rfl ?_
  unfold f_X8_firstOf_17 at hf
  refine z_iconst (v := 0) dX8_firstOf_0 (by decide) ?_
  refine z_istore_n (lv' := [(3, .int 0), (0, .ref 26), (1, .int v1), (2, .ref 17)]) dX8_firstOf_1 (by decide) rfl ?_
  refine zW.sub (w_X8_firstOf_17_L2 hn1 hn2 d (fun q37 S36 h hE hf => ?_) zN 0 S h hE hf) [1, 2, 3, 0] rfl rfl rfl rfl
  try dsimp only at hf
  refine z_iconst (v := (-1)) dX8_firstOf_121 (by decide) ?_
  have e_ := Option.some.inj hf
  subst e_
  exact z_ireturn dX8_firstOf_122 rfl ⟨h, rfl, rfl, hE⟩
def f_X11_soonest_L76 (ex : Int32 → zS → Option (Int32 × zS)) (i1 : Int32) (i2 : Int32) (i3 : Int32) : Nat → Int32 → zS → Option (Int32 × zS)
  | 0, _, _ => none
  | k + 1, x4, S =>
    if i1 < x4 then
    ex x4 S
    else
    zb (f_X8_firstOf_17 x4 S) fun r19 S18 =>
    if r19 = (-1) then
    zl (x4 + 1) fun (y22 : Int32) =>
    f_X11_soonest_L76 ex i1 i2 i3 k y22 S18
    else
    if ¬ i3 = 0 then
    some (r19, S18)
    else
    some (x4, S18)
def f_X11_soonest (v1 : Int32) (v2 : Int32) (v3 : Int32) (S : zS) : Option (Int32 × zS) :=
if (S.1 0 17) = 0 then
some ((-1000000), S)
else
if v1 < 1 then
some ((-1000000), S)
else
if 3 < v1 then
some ((-1000000), S)
else
if v3 < 0 then
some ((-1000000), S)
else
if 1 < v3 then
some ((-1000000), S)
else
zb (f_X7_lid 17 6 S) fun r7 S6 =>
if ¬ r7 = 1 then
zb (f_X7_lid 17 5 S6) fun r11 S10 =>
if ¬ r11 = 1 then
zb (f_X8_prepare v2 S10) fun _ S14 =>
f_X11_soonest_L76 (fun (q25 : Int32) (S24 : zS) =>
some ((-1000000), S24)) v1 v2 v3 zN 1 S14
else
if ¬ v3 = 0 then
some ((-1), S10)
else
some (0, S10)
else
some ((-1000000), S6)
theorem w_X11_soonest_L76 {L : Nat} {xs : Nat → Int32} {fm : Bool} {h0 : Nat → va_E} {t : Nat × Nat × Nat} (hn1 : 64 ≤ t.1) (hn2 : t.1 ≤ 1000000) (d : Nat) {ex : Int32 → zS → Option (Int32 × zS)} {i1 : Int32} {i2 : Int32} {i3 : Int32} {R : Int32 × zS} (hex : ∀ (x4 : Int32) (S : zS) (h : Nat → va_E), zE (zDc t.1) h0 S (h, t) → ex x4 S = some R → zW (ia_P0 L xs fm) ia_nx (d + 7) 11 false cX11_soonest 6 (some .int) 121 [(0, .ref 0), (1, .int i1), (2, .int i2), (3, .int i3), (4, .int x4)] [] (h, t) (zQi (zDc t.1) h0 t R)) : ∀ (k : Nat) (x4 : Int32) (S : zS) (h : Nat → va_E), zE (zDc t.1) h0 S (h, t) → f_X11_soonest_L76 ex i1 i2 i3 k x4 S = some R → zW (ia_P0 L xs fm) ia_nx (d + 7) 11 false cX11_soonest 6 (some .int) 76 [(0, .ref 0), (1, .int i1), (2, .int i2), (3, .int i3), (4, .int x4)] [] (h, t) (zQi (zDc t.1) h0 t R) := by
  intro k
  induction k with
  | zero => intro x4 S h hE hf; cases hf
  | succ k ih =>
    intro x4 S h hE hf
    unfold f_X11_soonest_L76 at hf
    refine z_iload dX11_soonest_76 rfl ?_
    refine z_iload_n dX11_soonest_78 rfl ?_
    by_cases c17 : i1 < x4
    · have hf := zif_t hf c17
      refine z_icmp_gt_t (tgt := 121) dX11_soonest_79 (by decide) c17 ?_
      exact zW.sub (hex x4 S _ hE hf) [0, 1, 2, 3, 4] rfl rfl rfl rfl
    · have hf := zif_f hf c17
      refine z_icmp_gt_f (tgt := 121) dX11_soonest_79 (by decide) c17 ?_
      refine z_aload_n dX11_soonest_82 rfl ?_
      refine z_getC dX11_soonest_83 tF_11_75 hE dc_0 rfl rfl ?_
      refine z_iload dX11_soonest_86 rfl ?_
      refine z_aload_n dX11_soonest_88 rfl ?_
      refine z_getC dX11_soonest_89 tF_11_58 hE dc_0 rfl rfl ?_
      obtain ⟨r19, S18, k20, hf⟩ := zb_some hf
      refine z_callVi dX11_soonest_92 tM_11_280 mt_8004 (Nat.le_of_ble_eq_true rfl) rfl rfl (z_recv hE dc_26 rfl) rfl (ia_oks_le hn1 rfl) (Nat.le_of_ble_eq_true rfl) (w_X8_firstOf_17 hn1 hn2 (d + 0) hE k20) (fun h hE => ?_)
      refine z_istore (lv' := [(5, .int r19), (0, .ref 0), (1, .int i1), (2, .int i2), (3, .int i3), (4, .int x4)]) dX11_soonest_95 (by decide) rfl ?_
      refine z_iload dX11_soonest_97 rfl ?_
      refine z_iconst (v := (-1)) dX11_soonest_99 (by decide) ?_
      by_cases c21 : r19 = (-1)
      · have hf := zif_t hf c21
        refine z_icmp_eq_t (tgt := 115) dX11_soonest_100 (by decide) c21 ?_
        obtain ⟨y22, ey22, hf⟩ := zl_some hf
        refine z_iincY (v := 1) (y := y22) (lv' := [(4, .int y22), (5, .int r19), (0, .ref 0), (1, .int i1), (2, .int i2), (3, .int i3)]) dX11_soonest_115 rfl (by decide) (by decide) ey22 rfl ?_
        refine z_goto (tgt := 76) dX11_soonest_118 (by decide) ?_
        exact zW.sub (ih y22 S18 _ hE hf) [2, 3, 4, 5, 0] rfl rfl rfl rfl
      · have hf := zif_f hf c21
        refine z_icmp_eq_f (tgt := 115) dX11_soonest_100 (by decide) c21 ?_
        refine z_iload_n dX11_soonest_103 rfl ?_
        by_cases c23 : ¬ i3 = 0
        · have hf := zif_t hf c23
          refine z_if_ne_t (tgt := 112) dX11_soonest_104 (by decide) c23 ?_
          refine z_iload dX11_soonest_112 rfl ?_
          have e_ := Option.some.inj hf
          subst e_
          exact z_ireturn dX11_soonest_114 rfl ⟨h, rfl, rfl, hE⟩
        · have hf := zif_f hf c23
          refine z_if_ne_f (tgt := 112) dX11_soonest_104 (by decide) c23 ?_
          refine z_iload dX11_soonest_107 rfl ?_
          refine z_goto (tgt := 114) dX11_soonest_109 (by decide) ?_
          have e_ := Option.some.inj hf
          subst e_
          exact z_ireturn dX11_soonest_114 rfl ⟨h, rfl, rfl, hE⟩
theorem w_X11_soonest {L : Nat} {xs : Nat → Int32} {fm : Bool} {h0 : Nat → va_E} {t : Nat × Nat × Nat} (hn1 : 64 ≤ t.1) (hn2 : t.1 ≤ 1000000) (d : Nat) {h : Nat → va_E} {S : zS} (hE : zE (zDc t.1) h0 S (h, t)) {v1 : Int32} {v2 : Int32} {v3 : Int32} {R : Int32 × zS} (hf : f_X11_soonest v1 v2 v3 S = some R) : zC (ia_P0 L xs fm) (d + 8) 11028 [.ref 0, .int v1, .int v2, .int v3] (h, t) (zQi (zDc t.1) h0 t R) := by
  refine zC_of mt_11028 nn_11028 (Nat.le_of_ble_eq_true rfl) ?_
  refine zW_lv (lv' := [(0, .ref 0), (1, .int v1), (2, .int v2), (3, .int v3)]) rfl ?_
  unfold f_X11_soonest at hf
  refine z_aload_n dX11_soonest_0 rfl ?_
  refine z_getI dX11_soonest_1 tF_11_149 hE dc_0 rfl rfl ?_
  by_cases c1 : (S.1 0 17) = 0
  · have hf := zif_t hf c1
    refine z_if_eq_t (tgt := 39) dX11_soonest_4 (by decide) c1 ?_
    refine z_ldcw dX11_soonest_39 tK_11_275 ?_
    have e_ := Option.some.inj hf
    subst e_
    exact z_ireturn dX11_soonest_42 rfl ⟨h, rfl, rfl, hE⟩
  · have hf := zif_f hf c1
    refine z_if_eq_f (tgt := 39) dX11_soonest_4 (by decide) c1 ?_
    refine z_iload_n dX11_soonest_7 rfl ?_
    refine z_iconst (v := 1) dX11_soonest_8 (by decide) ?_
    by_cases c2 : v1 < 1
    · have hf := zif_t hf c2
      refine z_icmp_lt_t (tgt := 39) dX11_soonest_9 (by decide) c2 ?_
      refine z_ldcw dX11_soonest_39 tK_11_275 ?_
      have e_ := Option.some.inj hf
      subst e_
      exact z_ireturn dX11_soonest_42 rfl ⟨h, rfl, rfl, hE⟩
    · have hf := zif_f hf c2
      refine z_icmp_lt_f (tgt := 39) dX11_soonest_9 (by decide) c2 ?_
      refine z_iload_n dX11_soonest_12 rfl ?_
      refine z_iconst (v := 3) dX11_soonest_13 (by decide) ?_
      by_cases c3 : 3 < v1
      · have hf := zif_t hf c3
        refine z_icmp_gt_t (tgt := 39) dX11_soonest_14 (by decide) c3 ?_
        refine z_ldcw dX11_soonest_39 tK_11_275 ?_
        have e_ := Option.some.inj hf
        subst e_
        exact z_ireturn dX11_soonest_42 rfl ⟨h, rfl, rfl, hE⟩
      · have hf := zif_f hf c3
        refine z_icmp_gt_f (tgt := 39) dX11_soonest_14 (by decide) c3 ?_
        refine z_iload_n dX11_soonest_17 rfl ?_
        by_cases c4 : v3 < 0
        · have hf := zif_t hf c4
          refine z_if_lt_t (tgt := 39) dX11_soonest_18 (by decide) c4 ?_
          refine z_ldcw dX11_soonest_39 tK_11_275 ?_
          have e_ := Option.some.inj hf
          subst e_
          exact z_ireturn dX11_soonest_42 rfl ⟨h, rfl, rfl, hE⟩
        · have hf := zif_f hf c4
          refine z_if_lt_f (tgt := 39) dX11_soonest_18 (by decide) c4 ?_
          refine z_iload_n dX11_soonest_21 rfl ?_
          refine z_iconst (v := 1) dX11_soonest_22 (by decide) ?_
          by_cases c5 : 1 < v3
          · have hf := zif_t hf c5
            refine z_icmp_gt_t (tgt := 39) dX11_soonest_23 (by decide) c5 ?_
            refine z_ldcw dX11_soonest_39 tK_11_275 ?_
            have e_ := Option.some.inj hf
            subst e_
            exact z_ireturn dX11_soonest_42 rfl ⟨h, rfl, rfl, hE⟩
          · have hf := zif_f hf c5
            refine z_icmp_gt_f (tgt := 39) dX11_soonest_23 (by decide) c5 ?_
            refine z_aload_n dX11_soonest_26 rfl ?_
            refine z_getC dX11_soonest_27 tF_11_58 hE dc_0 rfl rfl ?_
            refine z_bipush (v := 6) dX11_soonest_30 (by decide) ?_
            obtain ⟨r7, S6, k8, hf⟩ := zb_some hf
            refine z_callVi dX11_soonest_32 tM_11_250 mt_7013 (Nat.le_of_ble_eq_true rfl) rfl rfl (z_recv hE dc_17 rfl) rfl (ia_oks_le hn1 rfl) (Nat.le_of_ble_eq_true rfl) (w_X7_lid hn1 hn2 (d + 6) sc_17 hE k8) (fun h hE => ?_)
            refine z_iconst (v := 1) dX11_soonest_35 (by decide) ?_
            by_cases c9 : ¬ r7 = 1
            · have hf := zif_t hf c9
              refine z_icmp_ne_t (tgt := 43) dX11_soonest_36 (by decide) c9 ?_
              refine z_aload_n dX11_soonest_43 rfl ?_
              refine z_getC dX11_soonest_44 tF_11_58 hE dc_0 rfl rfl ?_
              refine z_iconst (v := 5) dX11_soonest_47 (by decide) ?_
              obtain ⟨r11, S10, k12, hf⟩ := zb_some hf
              refine z_callVi dX11_soonest_48 tM_11_250 mt_7013 (Nat.le_of_ble_eq_true rfl) rfl rfl (z_recv hE dc_17 rfl) rfl (ia_oks_le hn1 rfl) (Nat.le_of_ble_eq_true rfl) (w_X7_lid hn1 hn2 (d + 6) sc_17 hE k12) (fun h hE => ?_)
              refine z_iconst (v := 1) dX11_soonest_51 (by decide) ?_
              by_cases c13 : ¬ r11 = 1
              · have hf := zif_t hf c13
                refine z_icmp_ne_t (tgt := 65) dX11_soonest_52 (by decide) c13 ?_
                refine z_aload_n dX11_soonest_65 rfl ?_
                refine z_getC dX11_soonest_66 tF_11_75 hE dc_0 rfl rfl ?_
                refine z_iload_n dX11_soonest_69 rfl ?_
                obtain ⟨r15, S14, k16, hf⟩ := zb_some hf
                refine z_callVv dX11_soonest_70 tM_11_276 mt_8001 (Nat.le_of_ble_eq_true rfl) rfl rfl (z_recv hE dc_26 rfl) rfl (ia_oks_le hn1 rfl) (Nat.le_of_ble_eq_true rfl) (w_X8_prepare hn1 hn2 (d + 4) hE k16) (fun h hE => ?_)
                refine z_iconst (v := 1) dX11_soonest_73 (by decide) ?_
                refine z_istore (lv' := [(4, .int 1), (0, .ref 0), (1, .int v1), (2, .int v2), (3, .int v3)]) dX11_soonest_74 (by decide) rfl ?_
                refine zW.sub (w_X11_soonest_L76 hn1 hn2 d (fun q25 S24 h hE hf => ?_) zN 1 S14 h hE hf) [1, 2, 3, 4, 0] rfl rfl rfl rfl
                try dsimp only at hf
                refine z_ldcw dX11_soonest_121 tK_11_275 ?_
                have e_ := Option.some.inj hf
                subst e_
                exact z_ireturn dX11_soonest_124 rfl ⟨h, rfl, rfl, hE⟩
              · have hf := zif_f hf c13
                refine z_icmp_ne_f (tgt := 65) dX11_soonest_52 (by decide) c13 ?_
                refine z_iload_n dX11_soonest_55 rfl ?_
                by_cases c26 : ¬ v3 = 0
                · have hf := zif_t hf c26
                  refine z_if_ne_t (tgt := 63) dX11_soonest_56 (by decide) c26 ?_
                  refine z_iconst (v := (-1)) dX11_soonest_63 (by decide) ?_
                  have e_ := Option.some.inj hf
                  subst e_
                  exact z_ireturn dX11_soonest_64 rfl ⟨h, rfl, rfl, hE⟩
                · have hf := zif_f hf c26
                  refine z_if_ne_f (tgt := 63) dX11_soonest_56 (by decide) c26 ?_
                  refine z_iconst (v := 0) dX11_soonest_59 (by decide) ?_
                  refine z_goto (tgt := 64) dX11_soonest_60 (by decide) ?_
                  have e_ := Option.some.inj hf
                  subst e_
                  exact z_ireturn dX11_soonest_64 rfl ⟨h, rfl, rfl, hE⟩
            · have hf := zif_f hf c9
              refine z_icmp_ne_f (tgt := 43) dX11_soonest_36 (by decide) c9 ?_
              refine z_ldcw dX11_soonest_39 tK_11_275 ?_
              have e_ := Option.some.inj hf
              subst e_
              exact z_ireturn dX11_soonest_42 rfl ⟨h, rfl, rfl, hE⟩
def f_X0_gather_17_L15 (ex : Int32 → zS → Option (Unit × zS))  : Nat → Int32 → zS → Option (Unit × zS)
  | 0, _, _ => none
  | k + 1, x2, S =>
    if (S.1 35 1) ≤ x2 then
    ex x2 S
    else
    zb (f_X7_onTable 17 S) fun r4 S3 =>
    zb (f_X7_gripOn 17 x2 (-1) r4 S3) fun r7 S6 =>
    if ia_in x2 6 = true then
    zl (sV S6 36 (x2.toNatClampNeg) r7) fun S10 =>
    zl (x2 + 1) fun (y11 : Int32) =>
    f_X0_gather_17_L15 ex k y11 S10
    else none
def f_X0_gather_17  (S : zS) : Option (Unit × zS) :=
zl (sV S 35 1 (S.1 12 1)) fun S1 =>
f_X0_gather_17_L15 (fun (q13 : Int32) (S12 : zS) =>
zb (f_X7_lid 17 1 S12) fun r15 S14 =>
zl (sV S14 35 2 r15) fun S17 =>
zb (f_X7_onTable 17 S17) fun r19 S18 =>
zb (f_X7_hold 17 r19 S18) fun r22 S21 =>
zl (sV S21 35 3 (r22 - (S21.1 35 2))) fun S24 =>
some ((), S24))  zN 0 S1
theorem w_X0_gather_17_L15 {L : Nat} {xs : Nat → Int32} {fm : Bool} {h0 : Nat → va_E} {t : Nat × Nat × Nat} (hn1 : 64 ≤ t.1) (hn2 : t.1 ≤ 1000000) (d : Nat) {ex : Int32 → zS → Option (Unit × zS)} {R : Unit × zS} (hex : ∀ (x2 : Int32) (S : zS) (h : Nat → va_E), zE (zDc t.1) h0 S (h, t) → ex x2 S = some R → zW (ia_P0 L xs fm) ia_nx (d + 3) 0 false cX0_gather 3 (none) 45 [(0, .ref 35), (1, .ref 17), (2, .int x2)] [] (h, t) (zQv (zDc t.1) h0 t R)) : ∀ (k : Nat) (x2 : Int32) (S : zS) (h : Nat → va_E), zE (zDc t.1) h0 S (h, t) → f_X0_gather_17_L15 ex  k x2 S = some R → zW (ia_P0 L xs fm) ia_nx (d + 3) 0 false cX0_gather 3 (none) 15 [(0, .ref 35), (1, .ref 17), (2, .int x2)] [] (h, t) (zQv (zDc t.1) h0 t R) := by
  intro k
  induction k with
  | zero => intro x2 S h hE hf; cases hf
  | succ k ih =>
    intro x2 S h hE hf
    unfold f_X0_gather_17_L15 at hf
    refine z_iload_n dX0_gather_15 rfl ?_
    refine z_aload_n dX0_gather_16 rfl ?_
    refine z_getI dX0_gather_17 tF_0_26 hE dc_35 rfl rfl ?_
    by_cases c2 : (S.1 35 1) ≤ x2
    · have hf := zif_t hf c2
      refine z_icmp_ge_t (tgt := 45) dX0_gather_20 (by decide) c2 ?_
      exact zW.sub (hex x2 S _ hE hf) [0, 1, 2] rfl rfl rfl rfl
    · have hf := zif_f hf c2
      refine z_icmp_ge_f (tgt := 45) dX0_gather_20 (by decide) c2 ?_
      refine z_aload_n dX0_gather_23 rfl ?_
      refine z_getC dX0_gather_24 tF_0_9 hE dc_35 rfl rfl ?_
      refine z_iload_n dX0_gather_27 rfl ?_
      refine z_aload_n dX0_gather_28 rfl ?_
      refine z_iload_n dX0_gather_29 rfl ?_
      refine z_iconst (v := (-1)) dX0_gather_30 (by decide) ?_
      refine z_aload_n dX0_gather_31 rfl ?_
      obtain ⟨r4, S3, k5, hf⟩ := zb_some hf
      refine z_callVi dX0_gather_32 tM_0_30 mt_7010 (Nat.le_of_ble_eq_true rfl) rfl rfl (z_recv hE dc_17 rfl) rfl (ia_oks_le hn1 rfl) (Nat.le_of_ble_eq_true rfl) (w_X7_onTable hn1 hn2 (d + 2) sc_17 hE k5) (fun h hE => ?_)
      obtain ⟨r7, S6, k8, hf⟩ := zb_some hf
      refine z_callVi dX0_gather_35 tM_0_34 mt_7006 (Nat.le_of_ble_eq_true rfl) rfl rfl (z_recv hE dc_17 rfl) rfl (ia_oks_le hn1 rfl) (Nat.le_of_ble_eq_true rfl) (w_X7_gripOn hn1 hn2 (d + 0) sc_17 hE k8) (fun h hE => ?_)
      obtain ⟨b9, hf⟩ := zchk hf
      obtain ⟨S10, eS10, hf⟩ := zl_some hf
      refine z_iastoreL (i := x2.toNatClampNeg) dX0_gather_38 hE dc_36 b9 rfl (fun h hE => ?_)
      rw [← eS10] at hE
      obtain ⟨y11, ey11, hf⟩ := zl_some hf
      refine z_iincY (v := 1) (y := y11) (lv' := [(2, .int y11), (0, .ref 35), (1, .ref 17)]) dX0_gather_39 rfl (by decide) (by decide) ey11 rfl ?_
      refine z_goto (tgt := 15) dX0_gather_42 (by decide) ?_
      exact zW.sub (ih y11 S10 _ hE hf) [1, 2, 0] rfl rfl rfl rfl
theorem w_X0_gather_17 {L : Nat} {xs : Nat → Int32} {fm : Bool} {h0 : Nat → va_E} {t : Nat × Nat × Nat} (hn1 : 64 ≤ t.1) (hn2 : t.1 ≤ 1000000) (d : Nat) {h : Nat → va_E} {S : zS} (hE : zE (zDc t.1) h0 S (h, t)) {R : Unit × zS} (hf : f_X0_gather_17  S = some R) : zC (ia_P0 L xs fm) (d + 4) 1 [.ref 35, .ref 17] (h, t) (zQv (zDc t.1) h0 t R) := by
  refine zC_of mt_1 nn_1 (Nat.le_of_ble_eq_true rfl) ?_
  refine zW_lv (lv' := [(0, .ref 35), (1, .ref 17)]) rfl ?_
  unfold f_X0_gather_17 at hf
  refine z_aload_n dX0_gather_0 rfl ?_
  refine z_aload_n dX0_gather_1 rfl ?_
  refine z_getC dX0_gather_2 tF_0_15 hE dc_17 rfl rfl ?_
  refine z_getC dX0_gather_5 tF_0_21 hE dc_11 rfl rfl ?_
  refine z_iconst (v := 1) dX0_gather_8 (by decide) ?_
  refine z_ialoadL (i := 1) dX0_gather_9 hE dc_12 (by decide) (by decide) ?_
  obtain ⟨S1, eS1, hf⟩ := zl_some hf
  refine z_putI dX0_gather_10 tF_0_26 hE dc_35 rfl rfl rfl rfl (fun h hE => ?_)
  rw [← eS1] at hE
  refine z_iconst (v := 0) dX0_gather_13 (by decide) ?_
  refine z_istore_n (lv' := [(2, .int 0), (0, .ref 35), (1, .ref 17)]) dX0_gather_14 (by decide) rfl ?_
  refine zW.sub (w_X0_gather_17_L15 hn1 hn2 d (fun q13 S12 h hE hf => ?_) zN 0 S1 h hE hf) [1, 2, 0] rfl rfl rfl rfl
  try dsimp only at hf
  refine z_aload_n dX0_gather_45 rfl ?_
  refine z_aload_n dX0_gather_46 rfl ?_
  refine z_iconst (v := 1) dX0_gather_47 (by decide) ?_
  obtain ⟨r15, S14, k16, hf⟩ := zb_some hf
  refine z_callVi dX0_gather_48 tM_0_38 mt_7013 (Nat.le_of_ble_eq_true rfl) rfl rfl (z_recv hE dc_17 rfl) rfl (ia_oks_le hn1 rfl) (Nat.le_of_ble_eq_true rfl) (w_X7_lid hn1 hn2 (d + 2) sc_17 hE k16) (fun h hE => ?_)
  obtain ⟨S17, eS17, hf⟩ := zl_some hf
  refine z_putI dX0_gather_51 tF_0_42 hE dc_35 rfl rfl rfl rfl (fun h hE => ?_)
  rw [← eS17] at hE
  refine z_aload_n dX0_gather_54 rfl ?_
  refine z_aload_n dX0_gather_55 rfl ?_
  refine z_aload_n dX0_gather_56 rfl ?_
  obtain ⟨r19, S18, k20, hf⟩ := zb_some hf
  refine z_callVi dX0_gather_57 tM_0_30 mt_7010 (Nat.le_of_ble_eq_true rfl) rfl rfl (z_recv hE dc_17 rfl) rfl (ia_oks_le hn1 rfl) (Nat.le_of_ble_eq_true rfl) (w_X7_onTable hn1 hn2 (d + 2) sc_17 hE k20) (fun h hE => ?_)
  obtain ⟨r22, S21, k23, hf⟩ := zb_some hf
  refine z_callVi dX0_gather_60 tM_0_45 mt_7009 (Nat.le_of_ble_eq_true rfl) rfl rfl (z_recv hE dc_17 rfl) rfl (ia_oks_le hn1 rfl) (Nat.le_of_ble_eq_true rfl) (w_X7_hold hn1 hn2 (d + 1) sc_17 hE k23) (fun h hE => ?_)
  refine z_aload_n dX0_gather_63 rfl ?_
  refine z_getI dX0_gather_64 tF_0_42 hE dc_35 rfl rfl ?_
  refine z_isub dX0_gather_67 ?_
  obtain ⟨S24, eS24, hf⟩ := zl_some hf
  refine z_putI dX0_gather_68 tF_0_48 hE dc_35 rfl rfl rfl rfl (fun h hE => ?_)
  rw [← eS24] at hE
  have e_ := Option.some.inj hf
  subst e_
  exact z_vreturn dX0_gather_71 rfl ⟨h, rfl, rfl, hE⟩
def f_X0_stuckBehind (v1 : Int32) (v2 : Int32) (S : zS) : Option (Int32 × zS) :=
if ia_in v1 6 = true then
some (if 0 < (v2 - ((S.1 36 v1.toNatClampNeg) / 10)) then (v2 - ((S.1 36 v1.toNatClampNeg) / 10)) else 0, S)
else none
theorem w_X0_stuckBehind {L : Nat} {xs : Nat → Int32} {fm : Bool} {h0 : Nat → va_E} {t : Nat × Nat × Nat} (hn1 : 64 ≤ t.1) (hn2 : t.1 ≤ 1000000) (d : Nat) {h : Nat → va_E} {S : zS} (hE : zE (zDc t.1) h0 S (h, t)) {v1 : Int32} {v2 : Int32} {R : Int32 × zS} (hf : f_X0_stuckBehind v1 v2 S = some R) : zC (ia_P0 L xs fm) (d + 1) 4 [.ref 35, .int v1, .int v2] (h, t) (zQi (zDc t.1) h0 t R) := by
  refine zC_of mt_4 nn_4 (Nat.le_of_ble_eq_true rfl) ?_
  refine zW_lv (lv' := [(0, .ref 35), (1, .int v1), (2, .int v2)]) rfl ?_
  unfold f_X0_stuckBehind at hf
  refine z_iconst (v := 0) dX0_stuckBehind_0 (by decide) ?_
  refine z_iload_n dX0_stuckBehind_1 rfl ?_
  refine z_aload_n dX0_stuckBehind_2 rfl ?_
  refine z_getC dX0_stuckBehind_3 tF_0_9 hE dc_35 rfl rfl ?_
  refine z_iload_n dX0_stuckBehind_6 rfl ?_
  obtain ⟨b1, hf⟩ := zchk hf
  refine z_ialoadL dX0_stuckBehind_7 hE dc_36 b1 rfl ?_
  refine z_bipush (v := 10) dX0_stuckBehind_8 (by decide) ?_
  refine z_idiv dX0_stuckBehind_10 (by decide) ?_
  refine z_isub dX0_stuckBehind_11 ?_
  refine z_mmax dX0_stuckBehind_12 tM_0_51 (Nat.le_of_ble_eq_true rfl) ?_
  have e_ := Option.some.inj hf
  subst e_
  exact z_ireturn dX0_stuckBehind_15 rfl ⟨h, rfl, rfl, hE⟩
def f_X0_filled_L5 (ex : Int32 → Int32 → zS → Option (Int32 × zS)) (i1 : Int32) (i2 : Int32) : Nat → Int32 → Int32 → zS → Option (Int32 × zS)
  | 0, _, _, _ => none
  | k + 1, x3, x4, S =>
    if (S.1 35 1) ≤ x4 then
    ex x3 x4 S
    else
    zl (fun (q4 : Int32) =>
    zl (x4 + 1) fun (y5 : Int32) =>
    f_X0_filled_L5 ex i1 i2 k q4 y5 S) fun J3 =>
    if ¬ ((i2 >>> (x4 &&& 31)) &&& 1) = 0 then
    J3 x3
    else
    zl ((x3 * 10) + x4) fun (y6 : Int32) =>
    J3 y6
def f_X0_filled (v1 : Int32) (v2 : Int32) (S : zS) : Option (Int32 × zS) :=
f_X0_filled_L5 (fun (q8 : Int32) (q9 : Int32) (S7 : zS) =>
some (q8, S7)) v1 v2 zN v1 0 S
theorem w_X0_filled_L5 {L : Nat} {xs : Nat → Int32} {fm : Bool} {h0 : Nat → va_E} {t : Nat × Nat × Nat} (hn1 : 64 ≤ t.1) (hn2 : t.1 ≤ 1000000) (d : Nat) {ex : Int32 → Int32 → zS → Option (Int32 × zS)} {i1 : Int32} {i2 : Int32} {R : Int32 × zS} (hex : ∀ (x3 : Int32) (x4 : Int32) (S : zS) (h : Nat → va_E), zE (zDc t.1) h0 S (h, t) → ex x3 x4 S = some R → zW (ia_P0 L xs fm) ia_nx (d + 0) 0 false cX0_filled 5 (some .int) 37 [(0, .ref 35), (1, .int i1), (2, .int i2), (3, .int x3), (4, .int x4)] [] (h, t) (zQi (zDc t.1) h0 t R)) : ∀ (k : Nat) (x3 : Int32) (x4 : Int32) (S : zS) (h : Nat → va_E), zE (zDc t.1) h0 S (h, t) → f_X0_filled_L5 ex i1 i2 k x3 x4 S = some R → zW (ia_P0 L xs fm) ia_nx (d + 0) 0 false cX0_filled 5 (some .int) 5 [(0, .ref 35), (1, .int i1), (2, .int i2), (3, .int x3), (4, .int x4)] [] (h, t) (zQi (zDc t.1) h0 t R) := by
  intro k
  induction k with
  | zero => intro x3 x4 S h hE hf; cases hf
  | succ k ih =>
    intro x3 x4 S h hE hf
    unfold f_X0_filled_L5 at hf
    refine z_iload dX0_filled_5 rfl ?_
    refine z_aload_n dX0_filled_7 rfl ?_
    refine z_getI dX0_filled_8 tF_0_26 hE dc_35 rfl rfl ?_
    by_cases c1 : (S.1 35 1) ≤ x4
    · have hf := zif_t hf c1
      refine z_icmp_ge_t (tgt := 37) dX0_filled_11 (by decide) c1 ?_
      exact zW.sub (hex x3 x4 S _ hE hf) [0, 1, 2, 3, 4] rfl rfl rfl rfl
    · have hf := zif_f hf c1
      refine z_icmp_ge_f (tgt := 37) dX0_filled_11 (by decide) c1 ?_
      refine z_iload_n dX0_filled_14 rfl ?_
      refine z_iload dX0_filled_15 rfl ?_
      refine z_ishr dX0_filled_17 ?_
      refine z_iconst (v := 1) dX0_filled_18 (by decide) ?_
      refine z_iand dX0_filled_19 ?_
      obtain ⟨J3, eJ3, hf⟩ := zl_some hf
      have hJ3 : ∀ (q4 : Int32) (h : Nat → va_E), zE (zDc t.1) h0 S (h, t) → J3 q4 = some R → zW (ia_P0 L xs fm) ia_nx (d + 0) 0 false cX0_filled 5 (some .int) 31 [(0, .ref 35), (1, .int i1), (2, .int i2), (3, .int q4), (4, .int x4)] [] (h, t) (zQi (zDc t.1) h0 t R) := by
        intro q4 h hE hf
        rw [eJ3] at hf
        obtain ⟨y5, ey5, hf⟩ := zl_some hf
        refine z_iincY (v := 1) (y := y5) (lv' := [(4, .int y5), (0, .ref 35), (1, .int i1), (2, .int i2), (3, .int q4)]) dX0_filled_31 rfl (by decide) (by decide) ey5 rfl ?_
        refine z_goto (tgt := 5) dX0_filled_34 (by decide) ?_
        exact zW.sub (ih q4 y5 S _ hE hf) [1, 2, 3, 4, 0] rfl rfl rfl rfl
      by_cases c2 : ¬ ((i2 >>> (x4 &&& 31)) &&& 1) = 0
      · have hf := zif_t hf c2
        refine z_if_ne_t (tgt := 31) dX0_filled_20 (by decide) c2 ?_
        exact zW.sub (hJ3 x3 _ hE hf) [0, 1, 2, 3, 4] rfl rfl rfl rfl
      · have hf := zif_f hf c2
        refine z_if_ne_f (tgt := 31) dX0_filled_20 (by decide) c2 ?_
        refine z_iload_n dX0_filled_23 rfl ?_
        refine z_bipush (v := 10) dX0_filled_24 (by decide) ?_
        refine z_imul dX0_filled_26 ?_
        refine z_iload dX0_filled_27 rfl ?_
        refine z_iadd dX0_filled_29 ?_
        obtain ⟨y6, ey6, hf⟩ := zl_some hf
        refine z_topi ey6 ?_
        refine z_istore_n (lv' := [(3, .int y6), (0, .ref 35), (1, .int i1), (2, .int i2), (4, .int x4)]) dX0_filled_30 (by decide) rfl ?_
        exact zW.sub (hJ3 y6 _ hE hf) [1, 2, 3, 0, 4] rfl rfl rfl rfl
theorem w_X0_filled {L : Nat} {xs : Nat → Int32} {fm : Bool} {h0 : Nat → va_E} {t : Nat × Nat × Nat} (hn1 : 64 ≤ t.1) (hn2 : t.1 ≤ 1000000) (d : Nat) {h : Nat → va_E} {S : zS} (hE : zE (zDc t.1) h0 S (h, t)) {v1 : Int32} {v2 : Int32} {R : Int32 × zS} (hf : f_X0_filled v1 v2 S = some R) : zC (ia_P0 L xs fm) (d + 1) 5 [.ref 35, .int v1, .int v2] (h, t) (zQi (zDc t.1) h0 t R) := by
  refine zC_of mt_5 nn_5 (Nat.le_of_ble_eq_true rfl) ?_
  refine zW_lv (lv' := [(0, .ref 35), (1, .int v1), (2, .int v2)]) rfl ?_
  unfold f_X0_filled at hf
  refine z_iload_n dX0_filled_0 rfl ?_
  refine z_istore_n (lv' := [(3, .int v1), (0, .ref 35), (1, .int v1), (2, .int v2)]) dX0_filled_1 (by decide) rfl ?_
  refine z_iconst (v := 0) dX0_filled_2 (by decide) ?_
  refine z_istore (lv' := [(4, .int 0), (3, .int v1), (0, .ref 35), (1, .int v1), (2, .int v2)]) dX0_filled_3 (by decide) rfl ?_
  refine zW.sub (w_X0_filled_L5 hn1 hn2 d (fun q8 q9 S7 h hE hf => ?_) zN v1 0 S h hE hf) [2, 3, 4, 1, 0] rfl rfl rfl rfl
  try dsimp only at hf
  refine z_iload_n dX0_filled_37 rfl ?_
  have e_ := Option.some.inj hf
  subst e_
  exact z_ireturn dX0_filled_38 rfl ⟨h, rfl, rfl, hE⟩
def f_X0_orderOf_o_L3 (hub : Int32 → Int32 → Int32 → Int32 → zS → Option (Int32 × zS)) (ex : Int32 → zS → Option (Int32 × zS)) (i1 : Int32) (i2 : Int32) (i3 : Int32) (i4 : Int32) : Nat → Int32 → zS → Option (Int32 × zS)
  | 0, _, _ => none
  | k + 1, x5, S =>
    if (S.1 35 1) ≤ x5 then
    ex x5 S
    else
    zl (fun (S4 : zS) =>
    zl (x5 + 1) fun (y5 : Int32) =>
    f_X0_orderOf_o_L3 hub ex i1 i2 i3 i4 k y5 S4) fun J3 =>
    if ¬ ((i2 >>> (x5 &&& 31)) &&& 1) = 1 then
    zl (i2 ||| (1 <<< (x5 &&& 31))) fun (y6 : Int32) =>
    zl (fun (q10 : Int32) (S9 : zS) =>
    if q10 = (-1) then
    J3 S9
    else
    some (q10, S9)) fun J8 =>
    if i1 ≤ 1 then
    if ia_in x5 6 = true then
    if (S.1 36 x5.toNatClampNeg) < ((S.1 35 3) + i3) then
    J8 (-1) S
    else
    zb (f_X0_filled ((i4 * 10) + x5) y6 S) fun r15 S14 =>
    J8 r15 S14
    else none
    else
    zb (f_X0_stuckBehind x5 i3 S) fun r18 S17 =>
    zb (hub (i1 - 1) y6 r18 ((i4 * 10) + x5) S17) fun r21 S20 =>
    J8 r21 S20
    else
    J3 S
def f_X0_orderOf_o (hub : Int32 → Int32 → Int32 → Int32 → zS → Option (Int32 × zS)) (v1 : Int32) (v2 : Int32) (v3 : Int32) (v4 : Int32) (S : zS) : Option (Int32 × zS) :=
f_X0_orderOf_o_L3 hub (fun (q24 : Int32) (S23 : zS) =>
some ((-1), S23)) v1 v2 v3 v4 zN 0 S
theorem w_X0_orderOf_o_L3 {L : Nat} {xs : Nat → Int32} {fm : Bool} {h0 : Nat → va_E} {t : Nat × Nat × Nat} (hn1 : 64 ≤ t.1) (hn2 : t.1 ≤ 1000000) (d : Nat) {hub : Int32 → Int32 → Int32 → Int32 → zS → Option (Int32 × zS)} (hh : ∀ (a0 a1 a2 a3 : Int32) (h : Nat → va_E) (S : zS) (R : Int32 × zS), zE (zDc t.1) h0 S (h, t) → hub a0 a1 a2 a3 S = some R → zC (ia_P0 L xs fm) (d + 1) 3 [.ref 35, .int a0, .int a1, .int a2, .int a3] (h, t) (zQi (zDc t.1) h0 t R)) {ex : Int32 → zS → Option (Int32 × zS)} {i1 : Int32} {i2 : Int32} {i3 : Int32} {i4 : Int32} {R : Int32 × zS} (hex : ∀ (x5 : Int32) (S : zS) (h : Nat → va_E), zE (zDc t.1) h0 S (h, t) → ex x5 S = some R → zW (ia_P0 L xs fm) ia_nx (d + 1) 0 false cX0_orderOf 8 (some .int) 117 [(0, .ref 35), (1, .int i1), (2, .int i2), (3, .int i3), (4, .int i4), (5, .int x5)] [] (h, t) (zQi (zDc t.1) h0 t R)) : ∀ (k : Nat) (x5 : Int32) (S : zS) (h : Nat → va_E), zE (zDc t.1) h0 S (h, t) → f_X0_orderOf_o_L3 hub ex i1 i2 i3 i4 k x5 S = some R → zW (ia_P0 L xs fm) ia_nx (d + 1) 0 false cX0_orderOf 8 (some .int) 3 [(0, .ref 35), (1, .int i1), (2, .int i2), (3, .int i3), (4, .int i4), (5, .int x5)] [] (h, t) (zQi (zDc t.1) h0 t R) := by
  intro k
  induction k with
  | zero => intro x5 S h hE hf; cases hf
  | succ k ih =>
    intro x5 S h hE hf
    unfold f_X0_orderOf_o_L3 at hf
    refine z_iload dX0_orderOf_3 rfl ?_
    refine z_aload_n dX0_orderOf_5 rfl ?_
    refine z_getI dX0_orderOf_6 tF_0_26 hE dc_35 rfl rfl ?_
    by_cases c1 : (S.1 35 1) ≤ x5
    · have hf := zif_t hf c1
      refine z_icmp_ge_t (tgt := 117) dX0_orderOf_9 (by decide) c1 ?_
      exact zW.sub (hex x5 S _ hE hf) [0, 1, 2, 3, 4, 5] rfl rfl rfl rfl
    · have hf := zif_f hf c1
      refine z_icmp_ge_f (tgt := 117) dX0_orderOf_9 (by decide) c1 ?_
      refine z_iload_n dX0_orderOf_12 rfl ?_
      refine z_iload dX0_orderOf_13 rfl ?_
      refine z_ishr dX0_orderOf_15 ?_
      refine z_iconst (v := 1) dX0_orderOf_16 (by decide) ?_
      refine z_iand dX0_orderOf_17 ?_
      refine z_iconst (v := 1) dX0_orderOf_18 (by decide) ?_
      obtain ⟨J3, eJ3, hf⟩ := zl_some hf
      have hJ3 : ∀ (S4 : zS) (h : Nat → va_E), zE (zDc t.1) h0 S4 (h, t) → J3 S4 = some R → zW (ia_P0 L xs fm) ia_nx (d + 1) 0 false cX0_orderOf 8 (some .int) 111 [(0, .ref 35), (1, .int i1), (2, .int i2), (3, .int i3), (4, .int i4), (5, .int x5)] [] (h, t) (zQi (zDc t.1) h0 t R) := by
        intro S4 h hE hf
        rw [eJ3] at hf
        obtain ⟨y5, ey5, hf⟩ := zl_some hf
        refine z_iincY (v := 1) (y := y5) (lv' := [(5, .int y5), (0, .ref 35), (1, .int i1), (2, .int i2), (3, .int i3), (4, .int i4)]) dX0_orderOf_111 rfl (by decide) (by decide) ey5 rfl ?_
        refine z_goto (tgt := 3) dX0_orderOf_114 (by decide) ?_
        exact zW.sub (ih y5 S4 _ hE hf) [1, 2, 3, 4, 5, 0] rfl rfl rfl rfl
      by_cases c2 : ¬ ((i2 >>> (x5 &&& 31)) &&& 1) = 1
      · have hf := zif_t hf c2
        refine z_icmp_ne_t (tgt := 25) dX0_orderOf_19 (by decide) c2 ?_
        refine z_iload_n dX0_orderOf_25 rfl ?_
        refine z_iconst (v := 1) dX0_orderOf_26 (by decide) ?_
        refine z_iload dX0_orderOf_27 rfl ?_
        refine z_ishl dX0_orderOf_29 ?_
        refine z_ior dX0_orderOf_30 ?_
        obtain ⟨y6, ey6, hf⟩ := zl_some hf
        refine z_topi ey6 ?_
        refine z_istore (lv' := [(6, .int y6), (0, .ref 35), (1, .int i1), (2, .int i2), (3, .int i3), (4, .int i4), (5, .int x5)]) dX0_orderOf_31 (by decide) rfl ?_
        refine z_iconst (v := (-1)) dX0_orderOf_33 (by decide) ?_
        refine z_istore (lv' := [(7, .int (-1)), (6, .int y6), (0, .ref 35), (1, .int i1), (2, .int i2), (3, .int i3), (4, .int i4), (5, .int x5)]) dX0_orderOf_34 (by decide) rfl ?_
        refine z_iload_n dX0_orderOf_36 rfl ?_
        refine z_iconst (v := 1) dX0_orderOf_37 (by decide) ?_
        obtain ⟨J8, eJ8, hf⟩ := zl_some hf
        have hJ8 : ∀ (q10 : Int32) (S9 : zS) (h : Nat → va_E), zE (zDc t.1) h0 S9 (h, t) → J8 q10 S9 = some R → zW (ia_P0 L xs fm) ia_nx (d + 1) 0 false cX0_orderOf 8 (some .int) 102 [(0, .ref 35), (1, .int i1), (2, .int i2), (3, .int i3), (4, .int i4), (5, .int x5), (6, .int y6), (7, .int q10)] [] (h, t) (zQi (zDc t.1) h0 t R) := by
          intro q10 S9 h hE hf
          rw [eJ8] at hf
          refine z_iload dX0_orderOf_102 rfl ?_
          refine z_iconst (v := (-1)) dX0_orderOf_104 (by decide) ?_
          by_cases c11 : q10 = (-1)
          · have hf := zif_t hf c11
            refine z_icmp_eq_t (tgt := 111) dX0_orderOf_105 (by decide) c11 ?_
            exact zW.sub (hJ3 S9 _ hE hf) [0, 1, 2, 3, 4, 5] rfl rfl rfl rfl
          · have hf := zif_f hf c11
            refine z_icmp_eq_f (tgt := 111) dX0_orderOf_105 (by decide) c11 ?_
            refine z_iload dX0_orderOf_108 rfl ?_
            have e_ := Option.some.inj hf
            subst e_
            exact z_ireturn dX0_orderOf_110 rfl ⟨h, rfl, rfl, hE⟩
        by_cases c7 : i1 ≤ 1
        · have hf := zif_t hf c7
          refine z_icmp_le_t (tgt := 70) dX0_orderOf_38 (by decide) c7 ?_
          refine z_aload_n dX0_orderOf_70 rfl ?_
          refine z_getC dX0_orderOf_71 tF_0_9 hE dc_35 rfl rfl ?_
          refine z_iload dX0_orderOf_74 rfl ?_
          obtain ⟨b12, hf⟩ := zchk hf
          refine z_ialoadL dX0_orderOf_76 hE dc_36 b12 rfl ?_
          refine z_aload_n dX0_orderOf_77 rfl ?_
          refine z_getI dX0_orderOf_78 tF_0_48 hE dc_35 rfl rfl ?_
          refine z_iload_n dX0_orderOf_81 rfl ?_
          refine z_iadd dX0_orderOf_82 ?_
          by_cases c13 : (S.1 36 x5.toNatClampNeg) < ((S.1 35 3) + i3)
          · have hf := zif_t hf c13
            refine z_icmp_lt_t (tgt := 102) dX0_orderOf_83 (by decide) c13 ?_
            exact zW.sub (hJ8 (-1) S _ hE hf) [2, 3, 4, 5, 6, 7, 1, 0] rfl rfl rfl rfl
          · have hf := zif_f hf c13
            refine z_icmp_lt_f (tgt := 102) dX0_orderOf_83 (by decide) c13 ?_
            refine z_aload_n dX0_orderOf_86 rfl ?_
            refine z_iload dX0_orderOf_87 rfl ?_
            refine z_bipush (v := 10) dX0_orderOf_89 (by decide) ?_
            refine z_imul dX0_orderOf_91 ?_
            refine z_iload dX0_orderOf_92 rfl ?_
            refine z_iadd dX0_orderOf_94 ?_
            refine z_iload dX0_orderOf_95 rfl ?_
            obtain ⟨r15, S14, k16, hf⟩ := zb_some hf
            refine z_callVi dX0_orderOf_97 tM_0_82 mt_5 (Nat.le_of_ble_eq_true rfl) rfl rfl (z_recv hE dc_35 rfl) rfl (ia_oks_le hn1 rfl) (Nat.le_of_ble_eq_true rfl) (w_X0_filled hn1 hn2 (d + 0) hE k16) (fun h hE => ?_)
            refine z_istore (lv' := [(7, .int r15), (6, .int y6), (0, .ref 35), (1, .int i1), (2, .int i2), (3, .int i3), (4, .int i4), (5, .int x5)]) dX0_orderOf_100 (by decide) rfl ?_
            exact zW.sub (hJ8 r15 S14 _ hE hf) [2, 3, 4, 5, 6, 7, 1, 0] rfl rfl rfl rfl
        · have hf := zif_f hf c7
          refine z_icmp_le_f (tgt := 70) dX0_orderOf_38 (by decide) c7 ?_
          refine z_aload_n dX0_orderOf_41 rfl ?_
          refine z_iload_n dX0_orderOf_42 rfl ?_
          refine z_iconst (v := 1) dX0_orderOf_43 (by decide) ?_
          refine z_isub dX0_orderOf_44 ?_
          refine z_iload dX0_orderOf_45 rfl ?_
          refine z_aload_n dX0_orderOf_47 rfl ?_
          refine z_iload dX0_orderOf_48 rfl ?_
          refine z_iload_n dX0_orderOf_50 rfl ?_
          obtain ⟨r18, S17, k19, hf⟩ := zb_some hf
          refine z_callVi dX0_orderOf_51 tM_0_57 mt_4 (Nat.le_of_ble_eq_true rfl) rfl rfl (z_recv hE dc_35 rfl) rfl (ia_oks_le hn1 rfl) (Nat.le_of_ble_eq_true rfl) (w_X0_stuckBehind hn1 hn2 (d + 0) hE k19) (fun h hE => ?_)
          refine z_iload dX0_orderOf_54 rfl ?_
          refine z_bipush (v := 10) dX0_orderOf_56 (by decide) ?_
          refine z_imul dX0_orderOf_58 ?_
          refine z_iload dX0_orderOf_59 rfl ?_
          refine z_iadd dX0_orderOf_61 ?_
          obtain ⟨r21, S20, k22, hf⟩ := zb_some hf
          refine z_callVi dX0_orderOf_62 tM_0_72 mt_3 (Nat.le_of_ble_eq_true rfl) rfl rfl (z_recv hE dc_35 rfl) rfl (ia_oks_le hn1 rfl) (Nat.le_of_ble_eq_true rfl) ((hh (i1 - 1) y6 r18 ((i4 * 10) + x5) h S17 _ hE k22).mono (by omega)) (fun h hE => ?_)
          refine z_istore (lv' := [(7, .int r21), (6, .int y6), (0, .ref 35), (1, .int i1), (2, .int i2), (3, .int i3), (4, .int i4), (5, .int x5)]) dX0_orderOf_65 (by decide) rfl ?_
          refine z_goto (tgt := 102) dX0_orderOf_67 (by decide) ?_
          exact zW.sub (hJ8 r21 S20 _ hE hf) [2, 3, 4, 5, 6, 7, 1, 0] rfl rfl rfl rfl
      · have hf := zif_f hf c2
        refine z_icmp_ne_f (tgt := 25) dX0_orderOf_19 (by decide) c2 ?_
        refine z_goto (tgt := 111) dX0_orderOf_22 (by decide) ?_
        exact zW.sub (hJ3 S _ hE hf) [0, 1, 2, 3, 4, 5] rfl rfl rfl rfl
theorem w_X0_orderOf_o {L : Nat} {xs : Nat → Int32} {fm : Bool} {h0 : Nat → va_E} {t : Nat × Nat × Nat} (hn1 : 64 ≤ t.1) (hn2 : t.1 ≤ 1000000) (d : Nat) {hub : Int32 → Int32 → Int32 → Int32 → zS → Option (Int32 × zS)} (hh : ∀ (a0 a1 a2 a3 : Int32) (h : Nat → va_E) (S : zS) (R : Int32 × zS), zE (zDc t.1) h0 S (h, t) → hub a0 a1 a2 a3 S = some R → zC (ia_P0 L xs fm) (d + 1) 3 [.ref 35, .int a0, .int a1, .int a2, .int a3] (h, t) (zQi (zDc t.1) h0 t R)) {h : Nat → va_E} {S : zS} (hE : zE (zDc t.1) h0 S (h, t)) {v1 : Int32} {v2 : Int32} {v3 : Int32} {v4 : Int32} {R : Int32 × zS} (hf : f_X0_orderOf_o hub v1 v2 v3 v4 S = some R) : zC (ia_P0 L xs fm) (d + 2) 3 [.ref 35, .int v1, .int v2, .int v3, .int v4] (h, t) (zQi (zDc t.1) h0 t R) := by
  refine zC_of mt_3 nn_3 (Nat.le_of_ble_eq_true rfl) ?_
  refine zW_lv (lv' := [(0, .ref 35), (1, .int v1), (2, .int v2), (3, .int v3), (4, .int v4)]) rfl ?_
  unfold f_X0_orderOf_o at hf
  refine z_iconst (v := 0) dX0_orderOf_0 (by decide) ?_
  refine z_istore (lv' := [(5, .int 0), (0, .ref 35), (1, .int v1), (2, .int v2), (3, .int v3), (4, .int v4)]) dX0_orderOf_1 (by decide) rfl ?_
  refine zW.sub (w_X0_orderOf_o_L3 hn1 hn2 d hh (fun q24 S23 h hE hf => ?_) zN 0 S h hE hf) [1, 2, 3, 4, 5, 0] rfl rfl rfl rfl
  try dsimp only at hf
  refine z_iconst (v := (-1)) dX0_orderOf_117 (by decide) ?_
  have e_ := Option.some.inj hf
  subst e_
  exact z_ireturn dX0_orderOf_118 rfl ⟨h, rfl, rfl, hE⟩
def f_X0_orderOf_g : Nat → Int32 → Int32 → Int32 → Int32 → zS → Option (Int32 × zS)
  | 0 => fun _ _ _ _ _ => none
  | g + 1 => f_X0_orderOf_o (f_X0_orderOf_g g)
theorem w_X0_orderOf_g {L : Nat} {xs : Nat → Int32} {fm : Bool} {h0 : Nat → va_E} {t : Nat × Nat × Nat} (hn1 : 64 ≤ t.1) (hn2 : t.1 ≤ 1000000) (d : Nat) : ∀ g : Nat, ∀ (a0 a1 a2 a3 : Int32) (h : Nat → va_E) (S : zS) (R : Int32 × zS), zE (zDc t.1) h0 S (h, t) → f_X0_orderOf_g g a0 a1 a2 a3 S = some R → zC (ia_P0 L xs fm) (d + 1 * g + 1) 3 [.ref 35, .int a0, .int a1, .int a2, .int a3] (h, t) (zQi (zDc t.1) h0 t R) := by
  intro g
  induction g with
  | zero => intro a0 a1 a2 a3 h S R hE hf; cases hf
  | succ g ih => intro a0 a1 a2 a3 h S R hE hf; exact (w_X0_orderOf_o hn1 hn2 (d + 1 * g) ih hE hf).mono (by omega)
def f_X0_orderOf (a0 : Int32) (a1 : Int32) (a2 : Int32) (a3 : Int32) (S : zS) : Option (Int32 × zS) := f_X0_orderOf_o (f_X0_orderOf_g 16) a0 a1 a2 a3 S
theorem w_X0_orderOf {L : Nat} {xs : Nat → Int32} {fm : Bool} {h0 : Nat → va_E} {t : Nat × Nat × Nat} (hn1 : 64 ≤ t.1) (hn2 : t.1 ≤ 1000000) (d : Nat) {h : Nat → va_E} {S : zS} (hE : zE (zDc t.1) h0 S (h, t)) {a0 : Int32} {a1 : Int32} {a2 : Int32} {a3 : Int32} {R : Int32 × zS} (hf : f_X0_orderOf a0 a1 a2 a3 S = some R) : zC (ia_P0 L xs fm) (d + 18) 3 [.ref 35, .int a0, .int a1, .int a2, .int a3] (h, t) (zQi (zDc t.1) h0 t R) :=
  (w_X0_orderOf_o hn1 hn2 (d + 1 * 16) (w_X0_orderOf_g hn1 hn2 d 16) hE hf).mono (by omega)
def f_X0_findsOrder_L2 (ex : Int32 → zS → Option (Int32 × zS))  : Nat → Int32 → zS → Option (Int32 × zS)
  | 0, _, _ => none
  | k + 1, x1, S =>
    if (S.1 35 1) < x1 then
    ex x1 S
    else
    zb (f_X0_orderOf x1 0 (S.1 35 2) 0 S) fun r3 S2 =>
    if r3 = (-1) then
    zl (x1 + 1) fun (y6 : Int32) =>
    f_X0_findsOrder_L2 ex k y6 S2
    else
    zl (sV S2 35 4 r3) fun S7 =>
    zl (sV S7 35 5 x1) fun S8 =>
    some (1, S8)
def f_X0_findsOrder  (S : zS) : Option (Int32 × zS) :=
f_X0_findsOrder_L2 (fun (q10 : Int32) (S9 : zS) =>
some (0, S9))  zN 1 S
theorem w_X0_findsOrder_L2 {L : Nat} {xs : Nat → Int32} {fm : Bool} {h0 : Nat → va_E} {t : Nat × Nat × Nat} (hn1 : 64 ≤ t.1) (hn2 : t.1 ≤ 1000000) (d : Nat) {ex : Int32 → zS → Option (Int32 × zS)} {R : Int32 × zS} (hex : ∀ (x1 : Int32) (S : zS) (h : Nat → va_E), zE (zDc t.1) h0 S (h, t) → ex x1 S = some R → zW (ia_P0 L xs fm) ia_nx (d + 18) 0 false cX0_findsOrder 3 (some .boolean) 45 [(0, .ref 35), (1, .int x1)] [] (h, t) (zQi (zDc t.1) h0 t R)) : ∀ (k : Nat) (x1 : Int32) (S : zS) (h : Nat → va_E), zE (zDc t.1) h0 S (h, t) → f_X0_findsOrder_L2 ex  k x1 S = some R → zW (ia_P0 L xs fm) ia_nx (d + 18) 0 false cX0_findsOrder 3 (some .boolean) 2 [(0, .ref 35), (1, .int x1)] [] (h, t) (zQi (zDc t.1) h0 t R) := by
  intro k
  induction k with
  | zero => intro x1 S h hE hf; cases hf
  | succ k ih =>
    intro x1 S h hE hf
    unfold f_X0_findsOrder_L2 at hf
    refine z_iload_n dX0_findsOrder_2 rfl ?_
    refine z_aload_n dX0_findsOrder_3 rfl ?_
    refine z_getI dX0_findsOrder_4 tF_0_26 hE dc_35 rfl rfl ?_
    by_cases c1 : (S.1 35 1) < x1
    · have hf := zif_t hf c1
      refine z_icmp_gt_t (tgt := 45) dX0_findsOrder_7 (by decide) c1 ?_
      exact zW.sub (hex x1 S _ hE hf) [0, 1] rfl rfl rfl rfl
    · have hf := zif_f hf c1
      refine z_icmp_gt_f (tgt := 45) dX0_findsOrder_7 (by decide) c1 ?_
      refine z_aload_n dX0_findsOrder_10 rfl ?_
      refine z_iload_n dX0_findsOrder_11 rfl ?_
      refine z_iconst (v := 0) dX0_findsOrder_12 (by decide) ?_
      refine z_aload_n dX0_findsOrder_13 rfl ?_
      refine z_getI dX0_findsOrder_14 tF_0_42 hE dc_35 rfl rfl ?_
      refine z_iconst (v := 0) dX0_findsOrder_17 (by decide) ?_
      obtain ⟨r3, S2, k4, hf⟩ := zb_some hf
      refine z_callVi dX0_findsOrder_18 tM_0_72 mt_3 (Nat.le_of_ble_eq_true rfl) rfl rfl (z_recv hE dc_35 rfl) rfl (ia_oks_le hn1 rfl) (Nat.le_of_ble_eq_true rfl) (w_X0_orderOf hn1 hn2 (d + 0) hE k4) (fun h hE => ?_)
      refine z_istore_n (lv' := [(2, .int r3), (0, .ref 35), (1, .int x1)]) dX0_findsOrder_21 (by decide) rfl ?_
      refine z_iload_n dX0_findsOrder_22 rfl ?_
      refine z_iconst (v := (-1)) dX0_findsOrder_23 (by decide) ?_
      by_cases c5 : r3 = (-1)
      · have hf := zif_t hf c5
        refine z_icmp_eq_t (tgt := 39) dX0_findsOrder_24 (by decide) c5 ?_
        obtain ⟨y6, ey6, hf⟩ := zl_some hf
        refine z_iincY (v := 1) (y := y6) (lv' := [(1, .int y6), (2, .int r3), (0, .ref 35)]) dX0_findsOrder_39 rfl (by decide) (by decide) ey6 rfl ?_
        refine z_goto (tgt := 2) dX0_findsOrder_42 (by decide) ?_
        exact zW.sub (ih y6 S2 _ hE hf) [2, 0] rfl rfl rfl rfl
      · have hf := zif_f hf c5
        refine z_icmp_eq_f (tgt := 39) dX0_findsOrder_24 (by decide) c5 ?_
        refine z_aload_n dX0_findsOrder_27 rfl ?_
        refine z_iload_n dX0_findsOrder_28 rfl ?_
        obtain ⟨S7, eS7, hf⟩ := zl_some hf
        refine z_putI dX0_findsOrder_29 tF_0_76 hE dc_35 rfl rfl rfl rfl (fun h hE => ?_)
        rw [← eS7] at hE
        refine z_aload_n dX0_findsOrder_32 rfl ?_
        refine z_iload_n dX0_findsOrder_33 rfl ?_
        obtain ⟨S8, eS8, hf⟩ := zl_some hf
        refine z_putI dX0_findsOrder_34 tF_0_79 hE dc_35 rfl rfl rfl rfl (fun h hE => ?_)
        rw [← eS8] at hE
        refine z_iconst (v := 1) dX0_findsOrder_37 (by decide) ?_
        have e_ := Option.some.inj hf
        subst e_
        exact z_zreturn dX0_findsOrder_38 rfl (by decide) ⟨h, rfl, rfl, hE⟩
theorem w_X0_findsOrder {L : Nat} {xs : Nat → Int32} {fm : Bool} {h0 : Nat → va_E} {t : Nat × Nat × Nat} (hn1 : 64 ≤ t.1) (hn2 : t.1 ≤ 1000000) (d : Nat) {h : Nat → va_E} {S : zS} (hE : zE (zDc t.1) h0 S (h, t)) {R : Int32 × zS} (hf : f_X0_findsOrder  S = some R) : zC (ia_P0 L xs fm) (d + 19) 2 [.ref 35] (h, t) (zQi (zDc t.1) h0 t R) := by
  refine zC_of mt_2 nn_2 (Nat.le_of_ble_eq_true rfl) ?_
  refine zW_lv (lv' := [(0, .ref 35)]) rfl ?_
  unfold f_X0_findsOrder at hf
  refine z_iconst (v := 1) dX0_findsOrder_0 (by decide) ?_
  refine z_istore_n (lv' := [(1, .int 1), (0, .ref 35)]) dX0_findsOrder_1 (by decide) rfl ?_
  refine zW.sub (w_X0_findsOrder_L2 hn1 hn2 d (fun q10 S9 h hE hf => ?_) zN 1 S h hE hf) [1, 0] rfl rfl rfl rfl
  try dsimp only at hf
  refine z_iconst (v := 0) dX0_findsOrder_45 (by decide) ?_
  have e_ := Option.some.inj hf
  subst e_
  exact z_zreturn dX0_findsOrder_46 rfl (by decide) ⟨h, rfl, rfl, hE⟩
def f_X11_order (v1 : Int32) (S : zS) : Option (Int32 × zS) :=
if v1 < 0 then
some ((-1), S)
else
if 1 < v1 then
some ((-1), S)
else
zb (f_X11_lidIsShut S) fun r4 S3 =>
if ¬ r4 = 0 then
zb (f_X0_gather_17 S3) fun _ S7 =>
zb (f_X0_findsOrder S7) fun r11 S10 =>
if ¬ r11 = 0 then
if ¬ v1 = 0 then
some (S10.1 35 5, S10)
else
some (S10.1 35 4, S10)
else
some ((-1), S10)
else
some ((-1), S3)
theorem w_X11_order {L : Nat} {xs : Nat → Int32} {fm : Bool} {h0 : Nat → va_E} {t : Nat × Nat × Nat} (hn1 : 64 ≤ t.1) (hn2 : t.1 ≤ 1000000) (d : Nat) {h : Nat → va_E} {S : zS} (hE : zE (zDc t.1) h0 S (h, t)) {v1 : Int32} {R : Int32 × zS} (hf : f_X11_order v1 S = some R) : zC (ia_P0 L xs fm) (d + 20) 11029 [.ref 0, .int v1] (h, t) (zQi (zDc t.1) h0 t R) := by
  refine zC_of mt_11029 nn_11029 (Nat.le_of_ble_eq_true rfl) ?_
  refine zW_lv (lv' := [(0, .ref 0), (1, .int v1)]) rfl ?_
  unfold f_X11_order at hf
  refine z_iload_n dX11_order_0 rfl ?_
  by_cases c1 : v1 < 0
  · have hf := zif_t hf c1
    refine z_if_lt_t (tgt := 16) dX11_order_1 (by decide) c1 ?_
    refine z_iconst (v := (-1)) dX11_order_16 (by decide) ?_
    have e_ := Option.some.inj hf
    subst e_
    exact z_ireturn dX11_order_17 rfl ⟨h, rfl, rfl, hE⟩
  · have hf := zif_f hf c1
    refine z_if_lt_f (tgt := 16) dX11_order_1 (by decide) c1 ?_
    refine z_iload_n dX11_order_4 rfl ?_
    refine z_iconst (v := 1) dX11_order_5 (by decide) ?_
    by_cases c2 : 1 < v1
    · have hf := zif_t hf c2
      refine z_icmp_gt_t (tgt := 16) dX11_order_6 (by decide) c2 ?_
      refine z_iconst (v := (-1)) dX11_order_16 (by decide) ?_
      have e_ := Option.some.inj hf
      subst e_
      exact z_ireturn dX11_order_17 rfl ⟨h, rfl, rfl, hE⟩
    · have hf := zif_f hf c2
      refine z_icmp_gt_f (tgt := 16) dX11_order_6 (by decide) c2 ?_
      refine z_aload_n dX11_order_9 rfl ?_
      obtain ⟨r4, S3, k5, hf⟩ := zb_some hf
      refine z_callVi dX11_order_10 tM_11_223 mt_11019 (Nat.le_of_ble_eq_true rfl) rfl rfl (z_recv hE dc_0 rfl) rfl (ia_oks_le hn1 rfl) (Nat.le_of_ble_eq_true rfl) (w_X11_lidIsShut hn1 hn2 (d + 16) hE k5) (fun h hE => ?_)
      by_cases c6 : ¬ r4 = 0
      · have hf := zif_t hf c6
        refine z_if_ne_t (tgt := 18) dX11_order_13 (by decide) c6 ?_
        refine z_aload_n dX11_order_18 rfl ?_
        refine z_getC dX11_order_19 tF_11_82 hE dc_0 rfl rfl ?_
        refine z_aload_n dX11_order_22 rfl ?_
        refine z_getC dX11_order_23 tF_11_58 hE dc_0 rfl rfl ?_
        obtain ⟨r8, S7, k9, hf⟩ := zb_some hf
        refine z_callVv dX11_order_26 tM_11_284 mt_1 (Nat.le_of_ble_eq_true rfl) rfl rfl (z_recv hE dc_35 rfl) rfl (ia_oks_le hn1 rfl) (Nat.le_of_ble_eq_true rfl) (w_X0_gather_17 hn1 hn2 (d + 15) hE k9) (fun h hE => ?_)
        refine z_aload_n dX11_order_29 rfl ?_
        refine z_getC dX11_order_30 tF_11_82 hE dc_0 rfl rfl ?_
        obtain ⟨r11, S10, k12, hf⟩ := zb_some hf
        refine z_callVi dX11_order_33 tM_11_287 mt_2 (Nat.le_of_ble_eq_true rfl) rfl rfl (z_recv hE dc_35 rfl) rfl (ia_oks_le hn1 rfl) (Nat.le_of_ble_eq_true rfl) (w_X0_findsOrder hn1 hn2 (d + 0) hE k12) (fun h hE => ?_)
        by_cases c13 : ¬ r11 = 0
        · have hf := zif_t hf c13
          refine z_if_ne_t (tgt := 41) dX11_order_36 (by decide) c13 ?_
          refine z_iload_n dX11_order_41 rfl ?_
          by_cases c14 : ¬ v1 = 0
          · have hf := zif_t hf c14
            refine z_if_ne_t (tgt := 55) dX11_order_42 (by decide) c14 ?_
            refine z_aload_n dX11_order_55 rfl ?_
            refine z_getC dX11_order_56 tF_11_82 hE dc_0 rfl rfl ?_
            refine z_getI dX11_order_59 tF_11_293 hE dc_35 rfl rfl ?_
            have e_ := Option.some.inj hf
            subst e_
            exact z_ireturn dX11_order_62 rfl ⟨h, rfl, rfl, hE⟩
          · have hf := zif_f hf c14
            refine z_if_ne_f (tgt := 55) dX11_order_42 (by decide) c14 ?_
            refine z_aload_n dX11_order_45 rfl ?_
            refine z_getC dX11_order_46 tF_11_82 hE dc_0 rfl rfl ?_
            refine z_getI dX11_order_49 tF_11_290 hE dc_35 rfl rfl ?_
            refine z_goto (tgt := 62) dX11_order_52 (by decide) ?_
            have e_ := Option.some.inj hf
            subst e_
            exact z_ireturn dX11_order_62 rfl ⟨h, rfl, rfl, hE⟩
        · have hf := zif_f hf c13
          refine z_if_ne_f (tgt := 41) dX11_order_36 (by decide) c13 ?_
          refine z_iconst (v := (-1)) dX11_order_39 (by decide) ?_
          have e_ := Option.some.inj hf
          subst e_
          exact z_ireturn dX11_order_40 rfl ⟨h, rfl, rfl, hE⟩
      · have hf := zif_f hf c6
        refine z_if_ne_f (tgt := 18) dX11_order_13 (by decide) c6 ?_
        refine z_iconst (v := (-1)) dX11_order_16 (by decide) ?_
        have e_ := Option.some.inj hf
        subst e_
        exact z_ireturn dX11_order_17 rfl ⟨h, rfl, rfl, hE⟩
def f_X7_can (o : Nat) (v1 : Int32) (S : zS) : Option (Int32 × zS) :=
if 10 ≤ v1 then
if 100 ≤ v1 then
zl ((v1 - 100) - (v1 - 100) / 10 * 10) fun (y3 : Int32) =>
if (S.1 12 1) ≤ ((v1 - 100) / 10) then
some (0, S)
else
zl (fun (u7 : Unit) =>
some (1, S)) fun J6 =>
if y3 = 9 then
J6 ()
else
if (S.1 12 2) ≤ y3 then
some (0, S)
else
J6 ()
else
if (S.1 12 1) ≤ (v1 - 10) then
some (0, S)
else
some (1, S)
else
some (1, S)
theorem w_X7_can {L : Nat} {xs : Nat → Int32} {fm : Bool} {h0 : Nat → va_E} {t : Nat × Nat × Nat} (hn1 : 64 ≤ t.1) (hn2 : t.1 ≤ 1000000) (d : Nat) {o : Nat} (ho_o : zSc t.1 o) {h : Nat → va_E} {S : zS} (hE : zE (zDc t.1) h0 S (h, t)) {v1 : Int32} {R : Int32 × zS} (hf : f_X7_can o v1 S = some R) : zC (ia_P0 L xs fm) (d + 1) 7025 [.ref o, .int v1] (h, t) (zQi (zDc t.1) h0 t R) := by
  refine zC_of mt_7025 nn_7025 (Nat.le_of_ble_eq_true rfl) ?_
  refine zW_lv (lv' := [(0, .ref o), (1, .int v1)]) rfl ?_
  unfold f_X7_can at hf
  refine z_iload_n dX7_can_0 rfl ?_
  refine z_bipush (v := 10) dX7_can_1 (by decide) ?_
  by_cases c1 : 10 ≤ v1
  · have hf := zif_t hf c1
    refine z_icmp_ge_t (tgt := 8) dX7_can_3 (by decide) c1 ?_
    refine z_iload_n dX7_can_8 rfl ?_
    refine z_bipush (v := 100) dX7_can_9 (by decide) ?_
    by_cases c2 : 100 ≤ v1
    · have hf := zif_t hf c2
      refine z_icmp_ge_t (tgt := 36) dX7_can_11 (by decide) c2 ?_
      refine z_iload_n dX7_can_36 rfl ?_
      refine z_bipush (v := 100) dX7_can_37 (by decide) ?_
      refine z_isub dX7_can_39 ?_
      refine z_bipush (v := 10) dX7_can_40 (by decide) ?_
      refine z_irem dX7_can_42 (by decide) ?_
      obtain ⟨y3, ey3, hf⟩ := zl_some hf
      refine z_topi ey3 ?_
      refine z_istore_n (lv' := [(2, .int y3), (0, .ref o), (1, .int v1)]) dX7_can_43 (by decide) rfl ?_
      refine z_iload_n dX7_can_44 rfl ?_
      refine z_bipush (v := 100) dX7_can_45 (by decide) ?_
      refine z_isub dX7_can_47 ?_
      refine z_bipush (v := 10) dX7_can_48 (by decide) ?_
      refine z_idiv dX7_can_50 (by decide) ?_
      refine z_aload_n dX7_can_51 rfl ?_
      refine z_getC dX7_can_52 tF_7_15 hE ho_o.1 rfl rfl ?_
      refine z_getC dX7_can_55 tF_7_29 hE dc_11 rfl rfl ?_
      refine z_iconst (v := 1) dX7_can_58 (by decide) ?_
      refine z_ialoadL (i := 1) dX7_can_59 hE dc_12 (by decide) (by decide) ?_
      by_cases c4 : (S.1 12 1) ≤ ((v1 - 100) / 10)
      · have hf := zif_t hf c4
        refine z_icmp_ge_t (tgt := 86) dX7_can_60 (by decide) c4 ?_
        refine z_iconst (v := 0) dX7_can_86 (by decide) ?_
        have e_ := Option.some.inj hf
        subst e_
        exact z_zreturn dX7_can_87 rfl (by decide) ⟨h, rfl, rfl, hE⟩
      · have hf := zif_f hf c4
        refine z_icmp_ge_f (tgt := 86) dX7_can_60 (by decide) c4 ?_
        refine z_iload_n dX7_can_63 rfl ?_
        refine z_bipush (v := 9) dX7_can_64 (by decide) ?_
        obtain ⟨J6, eJ6, hf⟩ := zl_some hf
        have hJ6 : ∀ (u7 : Unit) (h : Nat → va_E), zE (zDc t.1) h0 S (h, t) → J6 u7 = some R → zW (ia_P0 L xs fm) ia_nx (d + 0) 7 false cX7_can 3 (some .boolean) 82 [(0, .ref o), (1, .int v1), (2, .int y3)] [] (h, t) (zQi (zDc t.1) h0 t R) := by
          intro u7 h hE hf
          rw [eJ6] at hf
          refine z_iconst (v := 1) dX7_can_82 (by decide) ?_
          refine z_goto (tgt := 87) dX7_can_83 (by decide) ?_
          have e_ := Option.some.inj hf
          subst e_
          exact z_zreturn dX7_can_87 rfl (by decide) ⟨h, rfl, rfl, hE⟩
        by_cases c5 : y3 = 9
        · have hf := zif_t hf c5
          refine z_icmp_eq_t (tgt := 82) dX7_can_66 (by decide) c5 ?_
          exact zW.sub (hJ6 () _ hE hf) [1, 2, 0] rfl rfl rfl rfl
        · have hf := zif_f hf c5
          refine z_icmp_eq_f (tgt := 82) dX7_can_66 (by decide) c5 ?_
          refine z_iload_n dX7_can_69 rfl ?_
          refine z_aload_n dX7_can_70 rfl ?_
          refine z_getC dX7_can_71 tF_7_15 hE ho_o.1 rfl rfl ?_
          refine z_getC dX7_can_74 tF_7_29 hE dc_11 rfl rfl ?_
          refine z_iconst (v := 2) dX7_can_77 (by decide) ?_
          refine z_ialoadL (i := 2) dX7_can_78 hE dc_12 (by decide) (by decide) ?_
          by_cases c8 : (S.1 12 2) ≤ y3
          · have hf := zif_t hf c8
            refine z_icmp_ge_t (tgt := 86) dX7_can_79 (by decide) c8 ?_
            refine z_iconst (v := 0) dX7_can_86 (by decide) ?_
            have e_ := Option.some.inj hf
            subst e_
            exact z_zreturn dX7_can_87 rfl (by decide) ⟨h, rfl, rfl, hE⟩
          · have hf := zif_f hf c8
            refine z_icmp_ge_f (tgt := 86) dX7_can_79 (by decide) c8 ?_
            exact zW.sub (hJ6 () _ hE hf) [1, 2, 0] rfl rfl rfl rfl
    · have hf := zif_f hf c2
      refine z_icmp_ge_f (tgt := 36) dX7_can_11 (by decide) c2 ?_
      refine z_iload_n dX7_can_14 rfl ?_
      refine z_bipush (v := 10) dX7_can_15 (by decide) ?_
      refine z_isub dX7_can_17 ?_
      refine z_aload_n dX7_can_18 rfl ?_
      refine z_getC dX7_can_19 tF_7_15 hE ho_o.1 rfl rfl ?_
      refine z_getC dX7_can_22 tF_7_29 hE dc_11 rfl rfl ?_
      refine z_iconst (v := 1) dX7_can_25 (by decide) ?_
      refine z_ialoadL (i := 1) dX7_can_26 hE dc_12 (by decide) (by decide) ?_
      by_cases c9 : (S.1 12 1) ≤ (v1 - 10)
      · have hf := zif_t hf c9
        refine z_icmp_ge_t (tgt := 34) dX7_can_27 (by decide) c9 ?_
        refine z_iconst (v := 0) dX7_can_34 (by decide) ?_
        have e_ := Option.some.inj hf
        subst e_
        exact z_zreturn dX7_can_35 rfl (by decide) ⟨h, rfl, rfl, hE⟩
      · have hf := zif_f hf c9
        refine z_icmp_ge_f (tgt := 34) dX7_can_27 (by decide) c9 ?_
        refine z_iconst (v := 1) dX7_can_30 (by decide) ?_
        refine z_goto (tgt := 35) dX7_can_31 (by decide) ?_
        have e_ := Option.some.inj hf
        subst e_
        exact z_zreturn dX7_can_35 rfl (by decide) ⟨h, rfl, rfl, hE⟩
  · have hf := zif_f hf c1
    refine z_icmp_ge_f (tgt := 8) dX7_can_3 (by decide) c1 ?_
    refine z_iconst (v := 1) dX7_can_6 (by decide) ?_
    have e_ := Option.some.inj hf
    subst e_
    exact z_zreturn dX7_can_7 rfl (by decide) ⟨h, rfl, rfl, hE⟩
def f_X11_rehearse_L15 (a : Nat) (ex : Int32 → Int32 → zS → Option (Int32 × zS))  : Nat → Int32 → Int32 → zS → Option (Int32 × zS)
  | 0, _, _, _ => none
  | k + 1, x2, x3, S =>
    if (Int32.ofNat (S.2.2.1 a)) ≤ x3 then
    ex x2 x3 S
    else
    zb (f_X7_onTable 19 S) fun r6 S5 =>
    zb (f_X7_isClosed 19 r6 S5) fun r9 S8 =>
    if r9 = 0 then
    ex x2 x3 S8
    else
    if ia_in x3 (S8.2.2.1 a) = true then
    zb (f_X7_can 19 (S8.1 a x3.toNatClampNeg) S8) fun r14 S13 =>
    zl (fun (S18 : zS) =>
    zl (x2 + 1) fun (y19 : Int32) =>
    zl (x3 + 1) fun (y20 : Int32) =>
    f_X11_rehearse_L15 a ex k y19 y20 S18) fun J17 =>
    if r14 = 0 then
    J17 S13
    else
    if ia_in x3 (S13.2.2.1 a) = true then
    zb (f_X7_act 19 (S13.1 a x3.toNatClampNeg) S13) fun _ S22 =>
    J17 S22
    else none
    else none
def f_X11_rehearse (a : Nat) (S : zS) : Option (Int32 × zS) :=
zb (f_X7_take 19 17 S) fun _ S1 =>
f_X11_rehearse_L15 a (fun (q26 : Int32) (q27 : Int32) (S25 : zS) =>
some (q26, S25))  zN 0 0 S1
theorem w_X11_rehearse_L15 {L : Nat} {xs : Nat → Int32} {fm : Bool} {h0 : Nat → va_E} {t : Nat × Nat × Nat} (hn1 : 64 ≤ t.1) (hn2 : t.1 ≤ 1000000) (d : Nat) {a : Nat} (hda : 64 ≤ a ∧ a < t.1) {ex : Int32 → Int32 → zS → Option (Int32 × zS)} {R : Int32 × zS} (hex : ∀ (x2 : Int32) (x3 : Int32) (S : zS) (h : Nat → va_E), zE (zDc t.1) h0 S (h, t) → ex x2 x3 S = some R → zW (ia_P0 L xs fm) ia_nx (d + 5) 11 false cX11_rehearse 4 (some .int) 70 [(0, .ref 0), (1, .ref a), (2, .int x2), (3, .int x3)] [] (h, t) (zQi (zDc t.1) h0 t R)) : ∀ (k : Nat) (x2 : Int32) (x3 : Int32) (S : zS) (h : Nat → va_E), zE (zDc t.1) h0 S (h, t) → f_X11_rehearse_L15 a ex  k x2 x3 S = some R → zW (ia_P0 L xs fm) ia_nx (d + 5) 11 false cX11_rehearse 4 (some .int) 15 [(0, .ref 0), (1, .ref a), (2, .int x2), (3, .int x3)] [] (h, t) (zQi (zDc t.1) h0 t R) := by
  intro k
  induction k with
  | zero => intro x2 x3 S h hE hf; cases hf
  | succ k ih =>
    intro x2 x3 S h hE hf
    unfold f_X11_rehearse_L15 at hf
    refine z_iload_n dX11_rehearse_15 rfl ?_
    refine z_aload_n dX11_rehearse_16 rfl ?_
    refine z_alenD dX11_rehearse_17 hE (dc_dyn hda) ?_
    by_cases c4 : (Int32.ofNat (S.2.2.1 a)) ≤ x3
    · have hf := zif_t hf c4
      refine z_icmp_ge_t (tgt := 70) dX11_rehearse_18 (by decide) c4 ?_
      exact zW.sub (hex x2 x3 S _ hE hf) [0, 1, 2, 3] rfl rfl rfl rfl
    · have hf := zif_f hf c4
      refine z_icmp_ge_f (tgt := 70) dX11_rehearse_18 (by decide) c4 ?_
      refine z_aload_n dX11_rehearse_21 rfl ?_
      refine z_getC dX11_rehearse_22 tF_11_62 hE dc_0 rfl rfl ?_
      refine z_aload_n dX11_rehearse_25 rfl ?_
      refine z_getC dX11_rehearse_26 tF_11_62 hE dc_0 rfl rfl ?_
      obtain ⟨r6, S5, k7, hf⟩ := zb_some hf
      refine z_callVi dX11_rehearse_29 tM_11_234 mt_7010 (Nat.le_of_ble_eq_true rfl) rfl rfl (z_recv hE dc_19 rfl) rfl (by have q0 : 0 < t.1 := Nat.lt_of_lt_of_le (by decide) hn1; have q1 : a < t.1 := hda.2; have q2 : 19 < t.1 := Nat.lt_of_lt_of_le (by decide) hn1; simp [ia_oks, ia_okv, q0, q1, q2]) (Nat.le_of_ble_eq_true rfl) (w_X7_onTable hn1 hn2 (d + 4) sc_19 hE k7) (fun h hE => ?_)
      obtain ⟨r9, S8, k10, hf⟩ := zb_some hf
      refine z_callVi dX11_rehearse_32 tM_11_215 mt_7008 (Nat.le_of_ble_eq_true rfl) rfl rfl (z_recv hE dc_19 rfl) rfl (by have q0 : 0 < t.1 := Nat.lt_of_lt_of_le (by decide) hn1; have q1 : a < t.1 := hda.2; simp [ia_oks, ia_okv, q0, q1]) (Nat.le_of_ble_eq_true rfl) (w_X7_isClosed hn1 hn2 (d + 3) sc_19 hE k10) (fun h hE => ?_)
      by_cases c11 : r9 = 0
      · have hf := zif_t hf c11
        refine z_if_eq_t (tgt := 70) dX11_rehearse_35 (by decide) c11 ?_
        exact zW.sub (hex x2 x3 S8 _ hE hf) [0, 1, 2, 3] rfl rfl rfl rfl
      · have hf := zif_f hf c11
        refine z_if_eq_f (tgt := 70) dX11_rehearse_35 (by decide) c11 ?_
        refine z_aload_n dX11_rehearse_38 rfl ?_
        refine z_getC dX11_rehearse_39 tF_11_62 hE dc_0 rfl rfl ?_
        refine z_aload_n dX11_rehearse_42 rfl ?_
        refine z_iload_n dX11_rehearse_43 rfl ?_
        obtain ⟨b12, hf⟩ := zchk hf
        refine z_ialoadD dX11_rehearse_44 hE (dc_dyn hda) b12 ?_
        obtain ⟨r14, S13, k15, hf⟩ := zb_some hf
        refine z_callVi dX11_rehearse_45 tM_11_352 mt_7025 (Nat.le_of_ble_eq_true rfl) rfl rfl (z_recv hE dc_19 rfl) rfl (by have q0 : 0 < t.1 := Nat.lt_of_lt_of_le (by decide) hn1; have q1 : a < t.1 := hda.2; simp [ia_oks, ia_okv, q0, q1]) (Nat.le_of_ble_eq_true rfl) (w_X7_can hn1 hn2 (d + 4) sc_19 hE k15) (fun h hE => ?_)
        obtain ⟨J17, eJ17, hf⟩ := zl_some hf
        have hJ17 : ∀ (S18 : zS) (h : Nat → va_E), zE (zDc t.1) h0 S18 (h, t) → J17 S18 = some R → zW (ia_P0 L xs fm) ia_nx (d + 5) 11 false cX11_rehearse 4 (some .int) 61 [(0, .ref 0), (1, .ref a), (2, .int x2), (3, .int x3)] [] (h, t) (zQi (zDc t.1) h0 t R) := by
          intro S18 h hE hf
          rw [eJ17] at hf
          obtain ⟨y19, ey19, hf⟩ := zl_some hf
          refine z_iincY (v := 1) (y := y19) (lv' := [(2, .int y19), (0, .ref 0), (1, .ref a), (3, .int x3)]) dX11_rehearse_61 rfl (by decide) (by decide) ey19 rfl ?_
          obtain ⟨y20, ey20, hf⟩ := zl_some hf
          refine z_iincY (v := 1) (y := y20) (lv' := [(3, .int y20), (2, .int y19), (0, .ref 0), (1, .ref a)]) dX11_rehearse_64 rfl (by decide) (by decide) ey20 rfl ?_
          refine z_goto (tgt := 15) dX11_rehearse_67 (by decide) ?_
          exact zW.sub (ih y19 y20 S18 _ hE hf) [2, 3, 1, 0] rfl rfl rfl rfl
        by_cases c16 : r14 = 0
        · have hf := zif_t hf c16
          refine z_if_eq_t (tgt := 61) dX11_rehearse_48 (by decide) c16 ?_
          exact zW.sub (hJ17 S13 _ hE hf) [0, 1, 2, 3] rfl rfl rfl rfl
        · have hf := zif_f hf c16
          refine z_if_eq_f (tgt := 61) dX11_rehearse_48 (by decide) c16 ?_
          refine z_aload_n dX11_rehearse_51 rfl ?_
          refine z_getC dX11_rehearse_52 tF_11_62 hE dc_0 rfl rfl ?_
          refine z_aload_n dX11_rehearse_55 rfl ?_
          refine z_iload_n dX11_rehearse_56 rfl ?_
          obtain ⟨b21, hf⟩ := zchk hf
          refine z_ialoadD dX11_rehearse_57 hE (dc_dyn hda) b21 ?_
          obtain ⟨r23, S22, k24, hf⟩ := zb_some hf
          refine z_callVv dX11_rehearse_58 tM_11_259 mt_7020 (Nat.le_of_ble_eq_true rfl) rfl rfl (z_recv hE dc_19 rfl) rfl (by have q0 : 0 < t.1 := Nat.lt_of_lt_of_le (by decide) hn1; have q1 : a < t.1 := hda.2; simp [ia_oks, ia_okv, q0, q1]) (Nat.le_of_ble_eq_true rfl) (w_X7_act hn1 hn2 (d + 0) sc_19 hE k24) (fun h hE => ?_)
          exact zW.sub (hJ17 S22 _ hE hf) [0, 1, 2, 3] rfl rfl rfl rfl
theorem w_X11_rehearse {L : Nat} {xs : Nat → Int32} {fm : Bool} {h0 : Nat → va_E} {t : Nat × Nat × Nat} (hn1 : 64 ≤ t.1) (hn2 : t.1 ≤ 1000000) (d : Nat) {a : Nat} (hda : 64 ≤ a ∧ a < t.1) {h : Nat → va_E} {S : zS} (hE : zE (zDc t.1) h0 S (h, t)) {R : Int32 × zS} (hf : f_X11_rehearse a S = some R) : zC (ia_P0 L xs fm) (d + 6) 11031 [.ref 0, .ref a] (h, t) (zQi (zDc t.1) h0 t R) := by
  refine zC_of mt_11031 nn_11031 (Nat.le_of_ble_eq_true rfl) ?_
  refine zW_lv (lv' := [(0, .ref 0), (1, .ref a)]) rfl ?_
  unfold f_X11_rehearse at hf
  refine z_aload_n dX11_rehearse_0 rfl ?_
  refine z_getC dX11_rehearse_1 tF_11_62 hE dc_0 rfl rfl ?_
  refine z_aload_n dX11_rehearse_4 rfl ?_
  refine z_getC dX11_rehearse_5 tF_11_58 hE dc_0 rfl rfl ?_
  obtain ⟨r2, S1, k3, hf⟩ := zb_some hf
  refine z_callVv dX11_rehearse_8 tM_11_317 mt_7024 (Nat.le_of_ble_eq_true rfl) rfl rfl (z_recv hE dc_19 rfl) rfl (by have q0 : 0 < t.1 := Nat.lt_of_lt_of_le (by decide) hn1; have q1 : a < t.1 := hda.2; simp [ia_oks, ia_okv, q0, q1]) (Nat.le_of_ble_eq_true rfl) (w_X7_take hn1 hn2 (d + 4) sc_19 sc_17 hE k3) (fun h hE => ?_)
  refine z_iconst (v := 0) dX11_rehearse_11 (by decide) ?_
  refine z_istore_n (lv' := [(2, .int 0), (0, .ref 0), (1, .ref a)]) dX11_rehearse_12 (by decide) rfl ?_
  refine z_iconst (v := 0) dX11_rehearse_13 (by decide) ?_
  refine z_istore_n (lv' := [(3, .int 0), (2, .int 0), (0, .ref 0), (1, .ref a)]) dX11_rehearse_14 (by decide) rfl ?_
  refine zW.sub (w_X11_rehearse_L15 hn1 hn2 d hda (fun q26 q27 S25 h hE hf => ?_) zN 0 0 S1 h hE hf) [2, 3, 1, 0] rfl rfl rfl rfl
  try dsimp only at hf
  refine z_iload_n dX11_rehearse_70 rfl ?_
  have e_ := Option.some.inj hf
  subst e_
  exact z_ireturn dX11_rehearse_71 rfl ⟨h, rfl, rfl, hE⟩
def f_X11_run (v1 : Int32) (v2 : Int32) (S : zS) : Option (Int32 × zS) :=
zb (f_X11_stepsOf v1 S) fun r2 S1 =>
zkr r2 (
some ((-1), S1)) fun a4 =>
if 64 ≤ a4 ∧ a4 < S1.2.2.2 then
if v2 < 0 then
some ((-1), S1)
else
if 2 < v2 then
some ((-1), S1)
else
zb (f_X11_lidIsShut S1) fun r8 S7 =>
if ¬ r8 = 0 then
zb (f_X11_rehearse a4 S7) fun r12 S11 =>
if ¬ v2 = 2 then
zl (fun (q17 : Int32) =>
zb (f_X7_lid 19 q17 S11) fun r19 S18 =>
if ¬ r19 = 1 then
some ((-1), S18)
else
some (r12, S18)) fun J16 =>
if ¬ v2 = 0 then
J16 6
else
J16 5
else
zb (f_X7_minute 19 S11) fun r23 S22 =>
zb (f_X7_minute 17 S22) fun r26 S25 =>
some (r23 - r26, S25)
else
some ((-1), S7)
else none
theorem w_X11_run {L : Nat} {xs : Nat → Int32} {fm : Bool} {h0 : Nat → va_E} {t : Nat × Nat × Nat} (hn1 : 64 ≤ t.1) (hn2 : t.1 ≤ 1000000) (d : Nat) {h : Nat → va_E} {S : zS} (hE : zE (zDc t.1) h0 S (h, t)) {v1 : Int32} {v2 : Int32} {R : Int32 × zS} (hf : f_X11_run v1 v2 S = some R) : zC (ia_P0 L xs fm) (d + 7) 11030 [.ref 0, .int v1, .int v2] (h, t) (zQi (zDc t.1) h0 t R) := by
  refine zC_of mt_11030 nn_11030 (Nat.le_of_ble_eq_true rfl) ?_
  refine zW_lv (lv' := [(0, .ref 0), (1, .int v1), (2, .int v2)]) rfl ?_
  unfold f_X11_run at hf
  refine z_aload_n dX11_run_0 rfl ?_
  refine z_iload_n dX11_run_1 rfl ?_
  obtain ⟨r2, S1, k3, hf⟩ := zb_some hf
  refine z_callVr dX11_run_2 tM_11_208 mt_11014 (Nat.le_of_ble_eq_true rfl) rfl rfl (z_recv hE dc_0 rfl) rfl (ia_oks_le hn1 rfl) (Nat.le_of_ble_eq_true rfl) (w_X11_stepsOf hn1 hn2 (d + 5) hE k3) (fun h hE => ?_)
  rcases zkr_some hf with ⟨ea4, hf⟩ | ⟨a4, ea4, hf⟩
  · refine z_topv ea4 ?_
    refine z_astore_nN (lv' := [(3, .null), (0, .ref 0), (1, .int v1), (2, .int v2)]) dX11_run_5 (by decide) rfl ?_
    refine z_aload_nN dX11_run_6 rfl ?_
    refine z_ifnullN (tgt := 26) dX11_run_7 (by decide) ?_
    refine z_iconst (v := (-1)) dX11_run_26 (by decide) ?_
    have e_ := Option.some.inj hf
    subst e_
    exact z_ireturn dX11_run_27 rfl ⟨h, rfl, rfl, hE⟩
  · obtain ⟨hda4, hf⟩ := zchk hf
    rw [hE.1] at hda4
    refine z_topv ea4 ?_
    refine z_astore_n (lv' := [(3, .ref a4), (0, .ref 0), (1, .int v1), (2, .int v2)]) dX11_run_5 (by decide) rfl ?_
    refine z_aload_n dX11_run_6 rfl ?_
    refine z_ifnull dX11_run_7 ?_
    refine z_iload_n dX11_run_10 rfl ?_
    by_cases c5 : v2 < 0
    · have hf := zif_t hf c5
      refine z_if_lt_t (tgt := 26) dX11_run_11 (by decide) c5 ?_
      refine z_iconst (v := (-1)) dX11_run_26 (by decide) ?_
      have e_ := Option.some.inj hf
      subst e_
      exact z_ireturn dX11_run_27 rfl ⟨h, rfl, rfl, hE⟩
    · have hf := zif_f hf c5
      refine z_if_lt_f (tgt := 26) dX11_run_11 (by decide) c5 ?_
      refine z_iload_n dX11_run_14 rfl ?_
      refine z_iconst (v := 2) dX11_run_15 (by decide) ?_
      by_cases c6 : 2 < v2
      · have hf := zif_t hf c6
        refine z_icmp_gt_t (tgt := 26) dX11_run_16 (by decide) c6 ?_
        refine z_iconst (v := (-1)) dX11_run_26 (by decide) ?_
        have e_ := Option.some.inj hf
        subst e_
        exact z_ireturn dX11_run_27 rfl ⟨h, rfl, rfl, hE⟩
      · have hf := zif_f hf c6
        refine z_icmp_gt_f (tgt := 26) dX11_run_16 (by decide) c6 ?_
        refine z_aload_n dX11_run_19 rfl ?_
        obtain ⟨r8, S7, k9, hf⟩ := zb_some hf
        refine z_callVi dX11_run_20 tM_11_223 mt_11019 (Nat.le_of_ble_eq_true rfl) rfl rfl (z_recv hE dc_0 rfl) rfl (by have q0 : a4 < t.1 := hda4.2; have q1 : 0 < t.1 := Nat.lt_of_lt_of_le (by decide) hn1; simp [ia_oks, ia_okv, q0, q1]) (Nat.le_of_ble_eq_true rfl) (w_X11_lidIsShut hn1 hn2 (d + 3) hE k9) (fun h hE => ?_)
        by_cases c10 : ¬ r8 = 0
        · have hf := zif_t hf c10
          refine z_if_ne_t (tgt := 28) dX11_run_23 (by decide) c10 ?_
          refine z_aload_n dX11_run_28 rfl ?_
          refine z_aload_n dX11_run_29 rfl ?_
          obtain ⟨r12, S11, k13, hf⟩ := zb_some hf
          refine z_callVi dX11_run_30 tM_11_296 mt_11031 (Nat.le_of_ble_eq_true rfl) rfl rfl (z_recv hE dc_0 rfl) rfl (by have q0 : a4 < t.1 := hda4.2; have q1 : 0 < t.1 := Nat.lt_of_lt_of_le (by decide) hn1; simp [ia_oks, ia_okv, q0, q1]) (Nat.le_of_ble_eq_true rfl) (w_X11_rehearse hn1 hn2 (d + 0) hda4 hE k13) (fun h hE => ?_)
          refine z_istore (lv' := [(4, .int r12), (3, .ref a4), (0, .ref 0), (1, .int v1), (2, .int v2)]) dX11_run_33 (by decide) rfl ?_
          refine z_iload_n dX11_run_35 rfl ?_
          refine z_iconst (v := 2) dX11_run_36 (by decide) ?_
          by_cases c14 : ¬ v2 = 2
          · have hf := zif_t hf c14
            refine z_icmp_ne_t (tgt := 56) dX11_run_37 (by decide) c14 ?_
            refine z_aload_n dX11_run_56 rfl ?_
            refine z_getC dX11_run_57 tF_11_62 hE dc_0 rfl rfl ?_
            refine z_iload_n dX11_run_60 rfl ?_
            obtain ⟨J16, eJ16, hf⟩ := zl_some hf
            have hJ16 : ∀ (q17 : Int32) (h : Nat → va_E), zE (zDc t.1) h0 S11 (h, t) → J16 q17 = some R → zW (ia_P0 L xs fm) ia_nx (d + 6) 11 false cX11_run 5 (some .int) 70 [(0, .ref 0), (1, .int v1), (2, .int v2), (3, .ref a4), (4, .int r12)] [.int q17, .ref 19] (h, t) (zQi (zDc t.1) h0 t R) := by
              intro q17 h hE hf
              rw [eJ16] at hf
              obtain ⟨r19, S18, k20, hf⟩ := zb_some hf
              refine z_callVi dX11_run_70 tM_11_250 mt_7013 (Nat.le_of_ble_eq_true rfl) rfl rfl (z_recv hE dc_19 rfl) rfl (by have q0 : 0 < t.1 := Nat.lt_of_lt_of_le (by decide) hn1; have q1 : a4 < t.1 := hda4.2; simp [ia_oks, ia_okv, q0, q1]) (Nat.le_of_ble_eq_true rfl) (w_X7_lid hn1 hn2 (d + 5) sc_19 hE k20) (fun h hE => ?_)
              refine z_iconst (v := 1) dX11_run_73 (by decide) ?_
              by_cases c21 : ¬ r19 = 1
              · have hf := zif_t hf c21
                refine z_icmp_ne_t (tgt := 82) dX11_run_74 (by decide) c21 ?_
                refine z_iconst (v := (-1)) dX11_run_82 (by decide) ?_
                have e_ := Option.some.inj hf
                subst e_
                exact z_ireturn dX11_run_83 rfl ⟨h, rfl, rfl, hE⟩
              · have hf := zif_f hf c21
                refine z_icmp_ne_f (tgt := 82) dX11_run_74 (by decide) c21 ?_
                refine z_iload dX11_run_77 rfl ?_
                refine z_goto (tgt := 83) dX11_run_79 (by decide) ?_
                have e_ := Option.some.inj hf
                subst e_
                exact z_ireturn dX11_run_83 rfl ⟨h, rfl, rfl, hE⟩
            by_cases c15 : ¬ v2 = 0
            · have hf := zif_t hf c15
              refine z_if_ne_t (tgt := 68) dX11_run_61 (by decide) c15 ?_
              refine z_bipush (v := 6) dX11_run_68 (by decide) ?_
              exact zW.sub (hJ16 6 _ hE hf) [2, 3, 4, 1, 0] rfl rfl rfl rfl
            · have hf := zif_f hf c15
              refine z_if_ne_f (tgt := 68) dX11_run_61 (by decide) c15 ?_
              refine z_iconst (v := 5) dX11_run_64 (by decide) ?_
              refine z_goto (tgt := 70) dX11_run_65 (by decide) ?_
              exact zW.sub (hJ16 5 _ hE hf) [2, 3, 4, 1, 0] rfl rfl rfl rfl
          · have hf := zif_f hf c14
            refine z_icmp_ne_f (tgt := 56) dX11_run_37 (by decide) c14 ?_
            refine z_aload_n dX11_run_40 rfl ?_
            refine z_getC dX11_run_41 tF_11_62 hE dc_0 rfl rfl ?_
            obtain ⟨r23, S22, k24, hf⟩ := zb_some hf
            refine z_callVi dX11_run_44 tM_11_244 mt_7017 (Nat.le_of_ble_eq_true rfl) rfl rfl (z_recv hE dc_19 rfl) rfl (by have q0 : a4 < t.1 := hda4.2; have q1 : 0 < t.1 := Nat.lt_of_lt_of_le (by decide) hn1; simp [ia_oks, ia_okv, q0, q1]) (Nat.le_of_ble_eq_true rfl) (w_X7_minute hn1 hn2 (d + 5) sc_19 hE k24) (fun h hE => ?_)
            refine z_aload_n dX11_run_47 rfl ?_
            refine z_getC dX11_run_48 tF_11_58 hE dc_0 rfl rfl ?_
            obtain ⟨r26, S25, k27, hf⟩ := zb_some hf
            refine z_callVi dX11_run_51 tM_11_244 mt_7017 (Nat.le_of_ble_eq_true rfl) rfl rfl (z_recv hE dc_17 rfl) rfl (by have q0 : a4 < t.1 := hda4.2; have q1 : 0 < t.1 := Nat.lt_of_lt_of_le (by decide) hn1; simp [ia_oks, ia_okv, q0, q1]) (Nat.le_of_ble_eq_true rfl) (w_X7_minute hn1 hn2 (d + 5) sc_17 hE k27) (fun h hE => ?_)
            refine z_isub dX11_run_54 ?_
            have e_ := Option.some.inj hf
            subst e_
            exact z_ireturn dX11_run_55 rfl ⟨h, rfl, rfl, hE⟩
        · have hf := zif_f hf c10
          refine z_if_ne_f (tgt := 28) dX11_run_23 (by decide) c10 ?_
          refine z_iconst (v := (-1)) dX11_run_26 (by decide) ?_
          have e_ := Option.some.inj hf
          subst e_
          exact z_ireturn dX11_run_27 rfl ⟨h, rfl, rfl, hE⟩
def f_X11_hasHole_L2 (a : Nat) (ex : Int32 → zS → Option (Int32 × zS)) (i1 : Int32) : Nat → Int32 → zS → Option (Int32 × zS)
  | 0, _, _ => none
  | k + 1, x2, S =>
    if i1 ≤ x2 then
    ex x2 S
    else
    if (Int32.ofNat (S.2.2.1 a)) ≤ x2 then
    ex x2 S
    else
    if ia_in x2 (S.2.2.1 a) = true then
    if ¬ (S.1 a x2.toNatClampNeg) = 2 then
    zl (x2 + 1) fun (y5 : Int32) =>
    f_X11_hasHole_L2 a ex i1 k y5 S
    else
    some (1, S)
    else none
def f_X11_hasHole (a : Nat) (v1 : Int32) (S : zS) : Option (Int32 × zS) :=
f_X11_hasHole_L2 a (fun (q7 : Int32) (S6 : zS) =>
some (0, S6)) v1 zN 0 S
theorem w_X11_hasHole_L2 {L : Nat} {xs : Nat → Int32} {fm : Bool} {h0 : Nat → va_E} {t : Nat × Nat × Nat} (hn1 : 64 ≤ t.1) (hn2 : t.1 ≤ 1000000) (d : Nat) {a : Nat} (hda : 64 ≤ a ∧ a < t.1) {ex : Int32 → zS → Option (Int32 × zS)} {i1 : Int32} {R : Int32 × zS} (hex : ∀ (x2 : Int32) (S : zS) (h : Nat → va_E), zE (zDc t.1) h0 S (h, t) → ex x2 S = some R → zW (ia_P0 L xs fm) ia_nx (d + 0) 11 false cX11_hasHole 3 (some .boolean) 28 [(0, .ref a), (1, .int i1), (2, .int x2)] [] (h, t) (zQi (zDc t.1) h0 t R)) : ∀ (k : Nat) (x2 : Int32) (S : zS) (h : Nat → va_E), zE (zDc t.1) h0 S (h, t) → f_X11_hasHole_L2 a ex i1 k x2 S = some R → zW (ia_P0 L xs fm) ia_nx (d + 0) 11 false cX11_hasHole 3 (some .boolean) 2 [(0, .ref a), (1, .int i1), (2, .int x2)] [] (h, t) (zQi (zDc t.1) h0 t R) := by
  intro k
  induction k with
  | zero => intro x2 S h hE hf; cases hf
  | succ k ih =>
    intro x2 S h hE hf
    unfold f_X11_hasHole_L2 at hf
    refine z_iload_n dX11_hasHole_2 rfl ?_
    refine z_iload_n dX11_hasHole_3 rfl ?_
    by_cases c1 : i1 ≤ x2
    · have hf := zif_t hf c1
      refine z_icmp_ge_t (tgt := 28) dX11_hasHole_4 (by decide) c1 ?_
      exact zW.sub (hex x2 S _ hE hf) [0, 1, 2] rfl rfl rfl rfl
    · have hf := zif_f hf c1
      refine z_icmp_ge_f (tgt := 28) dX11_hasHole_4 (by decide) c1 ?_
      refine z_iload_n dX11_hasHole_7 rfl ?_
      refine z_aload_n dX11_hasHole_8 rfl ?_
      refine z_alenD dX11_hasHole_9 hE (dc_dyn hda) ?_
      by_cases c2 : (Int32.ofNat (S.2.2.1 a)) ≤ x2
      · have hf := zif_t hf c2
        refine z_icmp_ge_t (tgt := 28) dX11_hasHole_10 (by decide) c2 ?_
        exact zW.sub (hex x2 S _ hE hf) [0, 1, 2] rfl rfl rfl rfl
      · have hf := zif_f hf c2
        refine z_icmp_ge_f (tgt := 28) dX11_hasHole_10 (by decide) c2 ?_
        refine z_aload_n dX11_hasHole_13 rfl ?_
        refine z_iload_n dX11_hasHole_14 rfl ?_
        obtain ⟨b3, hf⟩ := zchk hf
        refine z_ialoadD dX11_hasHole_15 hE (dc_dyn hda) b3 ?_
        refine z_iconst (v := 2) dX11_hasHole_16 (by decide) ?_
        by_cases c4 : ¬ (S.1 a x2.toNatClampNeg) = 2
        · have hf := zif_t hf c4
          refine z_icmp_ne_t (tgt := 22) dX11_hasHole_17 (by decide) c4 ?_
          obtain ⟨y5, ey5, hf⟩ := zl_some hf
          refine z_iincY (v := 1) (y := y5) (lv' := [(2, .int y5), (0, .ref a), (1, .int i1)]) dX11_hasHole_22 rfl (by decide) (by decide) ey5 rfl ?_
          refine z_goto (tgt := 2) dX11_hasHole_25 (by decide) ?_
          exact zW.sub (ih y5 S _ hE hf) [1, 2, 0] rfl rfl rfl rfl
        · have hf := zif_f hf c4
          refine z_icmp_ne_f (tgt := 22) dX11_hasHole_17 (by decide) c4 ?_
          refine z_iconst (v := 1) dX11_hasHole_20 (by decide) ?_
          have e_ := Option.some.inj hf
          subst e_
          exact z_zreturn dX11_hasHole_21 rfl (by decide) ⟨h, rfl, rfl, hE⟩
theorem w_X11_hasHole {L : Nat} {xs : Nat → Int32} {fm : Bool} {h0 : Nat → va_E} {t : Nat × Nat × Nat} (hn1 : 64 ≤ t.1) (hn2 : t.1 ≤ 1000000) (d : Nat) {a : Nat} (hda : 64 ≤ a ∧ a < t.1) {h : Nat → va_E} {S : zS} (hE : zE (zDc t.1) h0 S (h, t)) {v1 : Int32} {R : Int32 × zS} (hf : f_X11_hasHole a v1 S = some R) : zC (ia_P0 L xs fm) (d + 1) 11033 [.ref a, .int v1] (h, t) (zQi (zDc t.1) h0 t R) := by
  refine zC_of mt_11033 nn_11033 (Nat.le_of_ble_eq_true rfl) ?_
  refine zW_lv (lv' := [(0, .ref a), (1, .int v1)]) rfl ?_
  unfold f_X11_hasHole at hf
  refine z_iconst (v := 0) dX11_hasHole_0 (by decide) ?_
  refine z_istore_n (lv' := [(2, .int 0), (0, .ref a), (1, .int v1)]) dX11_hasHole_1 (by decide) rfl ?_
  refine zW.sub (w_X11_hasHole_L2 hn1 hn2 d hda (fun q7 S6 h hE hf => ?_) zN 0 S h hE hf) [1, 2, 0] rfl rfl rfl rfl
  try dsimp only at hf
  refine z_iconst (v := 0) dX11_hasHole_28 (by decide) ?_
  have e_ := Option.some.inj hf
  subst e_
  exact z_zreturn dX11_hasHole_29 rfl (by decide) ⟨h, rfl, rfl, hE⟩
def f_X11_best_L16 (ex : Int32 → Int32 → Int32 → zS → Option (Int32 × zS)) (i1 : Int32) : Nat → Int32 → Int32 → Int32 → zS → Option (Int32 × zS)
  | 0, _, _, _, _ => none
  | k + 1, x2, x3, x4, S =>
    if (S.1 0 15) ≤ x4 then
    ex x2 x3 x4 S
    else
    zb (f_X11_stepsOf x4 S) fun r7 S6 =>
    zkr r7 (
    zl (x4 + 1) fun (y10 : Int32) =>
    f_X11_best_L16 ex i1 k x2 x3 y10 S6) fun a9 =>
    if 64 ≤ a9 ∧ a9 < S6.2.2.2 then
    zb (f_X11_rehearse a9 S6) fun r12 S11 =>
    zb (f_X7_lid 19 5 S11) fun r15 S14 =>
    zl (fun (S19 : zS) =>
    zl (x4 + 1) fun (y20 : Int32) =>
    f_X11_best_L16 ex i1 k x2 x3 y20 S19) fun J18 =>
    if ¬ r15 = 1 then
    J18 S14
    else
    zl (fun (S23 : zS) =>
    zl (fun (S26 : zS) =>
    zb (f_X7_minute 19 S26) fun r28 S27 =>
    zl (x4 + 1) fun (y30 : Int32) =>
    f_X11_best_L16 ex i1 k x4 r28 y30 S27) fun J25 =>
    if x2 = (-1) then
    J25 S23
    else
    zb (f_X7_minute 19 S23) fun r32 S31 =>
    if x3 ≤ r32 then
    zl (x4 + 1) fun (y35 : Int32) =>
    f_X11_best_L16 ex i1 k x2 x3 y35 S31
    else
    J25 S31) fun J22 =>
    if ¬ i1 = 0 then
    J22 S14
    else
    zb (f_X11_hasHole a9 r12 S14) fun r37 S36 =>
    if ¬ r37 = 0 then
    J18 S36
    else
    J22 S36
    else none
def f_X11_best (v1 : Int32) (S : zS) : Option (Int32 × zS) :=
zb (f_X11_lidIsShut S) fun r2 S1 =>
if ¬ r2 = 0 then
f_X11_best_L16 (fun (q41 : Int32) (q42 : Int32) (q43 : Int32) (S40 : zS) =>
some (q41, S40)) v1 zN (-1) 0 0 S1
else
some ((-1), S1)
theorem w_X11_best_L16 {L : Nat} {xs : Nat → Int32} {fm : Bool} {h0 : Nat → va_E} {t : Nat × Nat × Nat} (hn1 : 64 ≤ t.1) (hn2 : t.1 ≤ 1000000) (d : Nat) {ex : Int32 → Int32 → Int32 → zS → Option (Int32 × zS)} {i1 : Int32} {R : Int32 × zS} (hex : ∀ (x2 : Int32) (x3 : Int32) (x4 : Int32) (S : zS) (h : Nat → va_E), zE (zDc t.1) h0 S (h, t) → ex x2 x3 x4 S = some R → zW (ia_P0 L xs fm) ia_nx (d + 6) 11 false cX11_best 8 (some .int) 120 [(0, .ref 0), (1, .int i1), (2, .int x2), (3, .int x3), (4, .int x4)] [] (h, t) (zQi (zDc t.1) h0 t R)) : ∀ (k : Nat) (x2 : Int32) (x3 : Int32) (x4 : Int32) (S : zS) (h : Nat → va_E), zE (zDc t.1) h0 S (h, t) → f_X11_best_L16 ex i1 k x2 x3 x4 S = some R → zW (ia_P0 L xs fm) ia_nx (d + 6) 11 false cX11_best 8 (some .int) 16 [(0, .ref 0), (1, .int i1), (2, .int x2), (3, .int x3), (4, .int x4)] [] (h, t) (zQi (zDc t.1) h0 t R) := by
  intro k
  induction k with
  | zero => intro x2 x3 x4 S h hE hf; cases hf
  | succ k ih =>
    intro x2 x3 x4 S h hE hf
    unfold f_X11_best_L16 at hf
    refine z_iload dX11_best_16 rfl ?_
    refine z_aload_n dX11_best_18 rfl ?_
    refine z_getI dX11_best_19 tF_11_169 hE dc_0 rfl rfl ?_
    by_cases c5 : (S.1 0 15) ≤ x4
    · have hf := zif_t hf c5
      refine z_icmp_ge_t (tgt := 120) dX11_best_22 (by decide) c5 ?_
      exact zW.sub (hex x2 x3 x4 S _ hE hf) [0, 1, 2, 3, 4] rfl rfl rfl rfl
    · have hf := zif_f hf c5
      refine z_icmp_ge_f (tgt := 120) dX11_best_22 (by decide) c5 ?_
      refine z_aload_n dX11_best_25 rfl ?_
      refine z_iload dX11_best_26 rfl ?_
      obtain ⟨r7, S6, k8, hf⟩ := zb_some hf
      refine z_callVr dX11_best_28 tM_11_208 mt_11014 (Nat.le_of_ble_eq_true rfl) rfl rfl (z_recv hE dc_0 rfl) rfl (ia_oks_le hn1 rfl) (Nat.le_of_ble_eq_true rfl) (w_X11_stepsOf hn1 hn2 (d + 5) hE k8) (fun h hE => ?_)
      rcases zkr_some hf with ⟨ea9, hf⟩ | ⟨a9, ea9, hf⟩
      · refine z_topv ea9 ?_
        refine z_astoreN (lv' := [(5, .null), (0, .ref 0), (1, .int i1), (2, .int x2), (3, .int x3), (4, .int x4)]) dX11_best_31 (by decide) rfl ?_
        refine z_aloadN dX11_best_33 rfl ?_
        refine z_ifnonnullN dX11_best_35 ?_
        refine z_goto (tgt := 114) dX11_best_38 (by decide) ?_
        obtain ⟨y10, ey10, hf⟩ := zl_some hf
        refine z_iincY (v := 1) (y := y10) (lv' := [(4, .int y10), (5, .null), (0, .ref 0), (1, .int i1), (2, .int x2), (3, .int x3)]) dX11_best_114 rfl (by decide) (by decide) ey10 rfl ?_
        refine z_goto (tgt := 16) dX11_best_117 (by decide) ?_
        exact zW.sub (ih x2 x3 y10 S6 _ hE hf) [2, 3, 4, 5, 0] rfl rfl rfl rfl
      · obtain ⟨hda9, hf⟩ := zchk hf
        rw [hE.1] at hda9
        refine z_topv ea9 ?_
        refine z_astore (lv' := [(5, .ref a9), (0, .ref 0), (1, .int i1), (2, .int x2), (3, .int x3), (4, .int x4)]) dX11_best_31 (by decide) rfl ?_
        refine z_aload dX11_best_33 rfl ?_
        refine z_ifnonnull (tgt := 41) dX11_best_35 (by decide) ?_
        refine z_aload_n dX11_best_41 rfl ?_
        refine z_aload dX11_best_42 rfl ?_
        obtain ⟨r12, S11, k13, hf⟩ := zb_some hf
        refine z_callVi dX11_best_44 tM_11_296 mt_11031 (Nat.le_of_ble_eq_true rfl) rfl rfl (z_recv hE dc_0 rfl) rfl (by have q0 : a9 < t.1 := hda9.2; have q1 : 0 < t.1 := Nat.lt_of_lt_of_le (by decide) hn1; simp [ia_oks, ia_okv, q0, q1]) (Nat.le_of_ble_eq_true rfl) (w_X11_rehearse hn1 hn2 (d + 0) hda9 hE k13) (fun h hE => ?_)
        refine z_istore (lv' := [(6, .int r12), (5, .ref a9), (0, .ref 0), (1, .int i1), (2, .int x2), (3, .int x3), (4, .int x4)]) dX11_best_47 (by decide) rfl ?_
        refine z_aload_n dX11_best_49 rfl ?_
        refine z_getC dX11_best_50 tF_11_62 hE dc_0 rfl rfl ?_
        refine z_iconst (v := 5) dX11_best_53 (by decide) ?_
        obtain ⟨r15, S14, k16, hf⟩ := zb_some hf
        refine z_callVi dX11_best_54 tM_11_250 mt_7013 (Nat.le_of_ble_eq_true rfl) rfl rfl (z_recv hE dc_19 rfl) rfl (by have q0 : a9 < t.1 := hda9.2; have q1 : 0 < t.1 := Nat.lt_of_lt_of_le (by decide) hn1; simp [ia_oks, ia_okv, q0, q1]) (Nat.le_of_ble_eq_true rfl) (w_X7_lid hn1 hn2 (d + 5) sc_19 hE k16) (fun h hE => ?_)
        refine z_iconst (v := 1) dX11_best_57 (by decide) ?_
        obtain ⟨J18, eJ18, hf⟩ := zl_some hf
        have hJ18 : ∀ (S19 : zS) (h : Nat → va_E), zE (zDc t.1) h0 S19 (h, t) → J18 S19 = some R → zW (ia_P0 L xs fm) ia_nx (d + 6) 11 false cX11_best 8 (some .int) 79 [(0, .ref 0), (1, .int i1), (2, .int x2), (3, .int x3), (4, .int x4), (5, .ref a9), (6, .int r12)] [] (h, t) (zQi (zDc t.1) h0 t R) := by
          intro S19 h hE hf
          rw [eJ18] at hf
          refine z_iconst (v := 0) dX11_best_79 (by decide) ?_
          refine z_istore (lv' := [(7, .int 0), (0, .ref 0), (1, .int i1), (2, .int x2), (3, .int x3), (4, .int x4), (5, .ref a9), (6, .int r12)]) dX11_best_80 (by decide) rfl ?_
          refine z_iload dX11_best_82 rfl ?_
          refine z_if_eq_t (tgt := 114) dX11_best_84 (by decide) (by decide) ?_
          obtain ⟨y20, ey20, hf⟩ := zl_some hf
          refine z_iincY (v := 1) (y := y20) (lv' := [(4, .int y20), (7, .int 0), (0, .ref 0), (1, .int i1), (2, .int x2), (3, .int x3), (5, .ref a9), (6, .int r12)]) dX11_best_114 rfl (by decide) (by decide) ey20 rfl ?_
          refine z_goto (tgt := 16) dX11_best_117 (by decide) ?_
          exact zW.subd (ih x2 x3 y20 S19 _ hE hf) [2, 3, 4, 5, 0] rfl rfl rfl (List.forall_mem_cons.2 ⟨Or.inr rfl, List.forall_mem_cons.2 ⟨Or.inl rfl, List.forall_mem_cons.2 ⟨Or.inr rfl, List.forall_mem_cons.2 ⟨Or.inr rfl, List.forall_mem_cons.2 ⟨Or.inr rfl, List.forall_mem_cons.2 ⟨Or.inr rfl, List.forall_mem_cons.2 ⟨Or.inl (by simp [ia_okv, hda9.2]), List.forall_mem_cons.2 ⟨Or.inl rfl, List.forall_mem_nil _⟩⟩⟩⟩⟩⟩⟩⟩)
        by_cases c17 : ¬ r15 = 1
        · have hf := zif_t hf c17
          refine z_icmp_ne_t (tgt := 79) dX11_best_58 (by decide) c17 ?_
          exact zW.sub (hJ18 S14 _ hE hf) [2, 3, 4, 5, 6, 1, 0] rfl rfl rfl rfl
        · have hf := zif_f hf c17
          refine z_icmp_ne_f (tgt := 79) dX11_best_58 (by decide) c17 ?_
          refine z_iload_n dX11_best_61 rfl ?_
          obtain ⟨J22, eJ22, hf⟩ := zl_some hf
          have hJ22 : ∀ (S23 : zS) (h : Nat → va_E), zE (zDc t.1) h0 S23 (h, t) → J22 S23 = some R → zW (ia_P0 L xs fm) ia_nx (d + 6) 11 false cX11_best 8 (some .int) 75 [(0, .ref 0), (1, .int i1), (2, .int x2), (3, .int x3), (4, .int x4), (5, .ref a9), (6, .int r12)] [] (h, t) (zQi (zDc t.1) h0 t R) := by
            intro S23 h hE hf
            rw [eJ22] at hf
            refine z_iconst (v := 1) dX11_best_75 (by decide) ?_
            refine z_goto (tgt := 80) dX11_best_76 (by decide) ?_
            refine z_istore (lv' := [(7, .int 1), (0, .ref 0), (1, .int i1), (2, .int x2), (3, .int x3), (4, .int x4), (5, .ref a9), (6, .int r12)]) dX11_best_80 (by decide) rfl ?_
            refine z_iload dX11_best_82 rfl ?_
            refine z_if_eq_f (tgt := 114) dX11_best_84 (by decide) (by decide) ?_
            refine z_iload_n dX11_best_87 rfl ?_
            refine z_iconst (v := (-1)) dX11_best_88 (by decide) ?_
            obtain ⟨J25, eJ25, hf⟩ := zl_some hf
            have hJ25 : ∀ (S26 : zS) (h : Nat → va_E), zE (zDc t.1) h0 S26 (h, t) → J25 S26 = some R → zW (ia_P0 L xs fm) ia_nx (d + 6) 11 false cX11_best 8 (some .int) 103 [(0, .ref 0), (1, .int i1), (2, .int x2), (3, .int x3), (4, .int x4), (5, .ref a9), (6, .int r12), (7, .int 1)] [] (h, t) (zQi (zDc t.1) h0 t R) := by
              intro S26 h hE hf
              rw [eJ25] at hf
              refine z_iload dX11_best_103 rfl ?_
              refine z_istore_n (lv' := [(2, .int x4), (0, .ref 0), (1, .int i1), (3, .int x3), (4, .int x4), (5, .ref a9), (6, .int r12), (7, .int 1)]) dX11_best_105 (by decide) rfl ?_
              refine z_aload_n dX11_best_106 rfl ?_
              refine z_getC dX11_best_107 tF_11_62 hE dc_0 rfl rfl ?_
              obtain ⟨r28, S27, k29, hf⟩ := zb_some hf
              refine z_callVi dX11_best_110 tM_11_244 mt_7017 (Nat.le_of_ble_eq_true rfl) rfl rfl (z_recv hE dc_19 rfl) rfl (by have q0 : 0 < t.1 := Nat.lt_of_lt_of_le (by decide) hn1; have q1 : a9 < t.1 := hda9.2; simp [ia_oks, ia_okv, q0, q1]) (Nat.le_of_ble_eq_true rfl) (w_X7_minute hn1 hn2 (d + 5) sc_19 hE k29) (fun h hE => ?_)
              refine z_istore_n (lv' := [(3, .int r28), (2, .int x4), (0, .ref 0), (1, .int i1), (4, .int x4), (5, .ref a9), (6, .int r12), (7, .int 1)]) dX11_best_113 (by decide) rfl ?_
              obtain ⟨y30, ey30, hf⟩ := zl_some hf
              refine z_iincY (v := 1) (y := y30) (lv' := [(4, .int y30), (3, .int r28), (2, .int x4), (0, .ref 0), (1, .int i1), (5, .ref a9), (6, .int r12), (7, .int 1)]) dX11_best_114 rfl (by decide) (by decide) ey30 rfl ?_
              refine z_goto (tgt := 16) dX11_best_117 (by decide) ?_
              exact zW.subd (ih x4 r28 y30 S27 _ hE hf) [3, 4, 2, 1, 0] rfl rfl rfl (List.forall_mem_cons.2 ⟨Or.inr rfl, List.forall_mem_cons.2 ⟨Or.inr rfl, List.forall_mem_cons.2 ⟨Or.inr rfl, List.forall_mem_cons.2 ⟨Or.inr rfl, List.forall_mem_cons.2 ⟨Or.inr rfl, List.forall_mem_cons.2 ⟨Or.inl (by simp [ia_okv, hda9.2]), List.forall_mem_cons.2 ⟨Or.inl rfl, List.forall_mem_cons.2 ⟨Or.inl rfl, List.forall_mem_nil _⟩⟩⟩⟩⟩⟩⟩⟩)
            by_cases c24 : x2 = (-1)
            · have hf := zif_t hf c24
              refine z_icmp_eq_t (tgt := 103) dX11_best_89 (by decide) c24 ?_
              exact zW.sub (hJ25 S23 _ hE hf) [1, 2, 3, 4, 5, 6, 7, 0] rfl rfl rfl rfl
            · have hf := zif_f hf c24
              refine z_icmp_eq_f (tgt := 103) dX11_best_89 (by decide) c24 ?_
              refine z_aload_n dX11_best_92 rfl ?_
              refine z_getC dX11_best_93 tF_11_62 hE dc_0 rfl rfl ?_
              obtain ⟨r32, S31, k33, hf⟩ := zb_some hf
              refine z_callVi dX11_best_96 tM_11_244 mt_7017 (Nat.le_of_ble_eq_true rfl) rfl rfl (z_recv hE dc_19 rfl) rfl (by have q0 : 0 < t.1 := Nat.lt_of_lt_of_le (by decide) hn1; have q1 : a9 < t.1 := hda9.2; simp [ia_oks, ia_okv, q0, q1]) (Nat.le_of_ble_eq_true rfl) (w_X7_minute hn1 hn2 (d + 5) sc_19 hE k33) (fun h hE => ?_)
              refine z_iload_n dX11_best_99 rfl ?_
              by_cases c34 : x3 ≤ r32
              · have hf := zif_t hf c34
                refine z_icmp_ge_t (tgt := 114) dX11_best_100 (by decide) c34 ?_
                obtain ⟨y35, ey35, hf⟩ := zl_some hf
                refine z_iincY (v := 1) (y := y35) (lv' := [(4, .int y35), (7, .int 1), (0, .ref 0), (1, .int i1), (2, .int x2), (3, .int x3), (5, .ref a9), (6, .int r12)]) dX11_best_114 rfl (by decide) (by decide) ey35 rfl ?_
                refine z_goto (tgt := 16) dX11_best_117 (by decide) ?_
                exact zW.subd (ih x2 x3 y35 S31 _ hE hf) [2, 3, 4, 5, 0] rfl rfl rfl (List.forall_mem_cons.2 ⟨Or.inr rfl, List.forall_mem_cons.2 ⟨Or.inl rfl, List.forall_mem_cons.2 ⟨Or.inr rfl, List.forall_mem_cons.2 ⟨Or.inr rfl, List.forall_mem_cons.2 ⟨Or.inr rfl, List.forall_mem_cons.2 ⟨Or.inr rfl, List.forall_mem_cons.2 ⟨Or.inl (by simp [ia_okv, hda9.2]), List.forall_mem_cons.2 ⟨Or.inl rfl, List.forall_mem_nil _⟩⟩⟩⟩⟩⟩⟩⟩)
              · have hf := zif_f hf c34
                refine z_icmp_ge_f (tgt := 114) dX11_best_100 (by decide) c34 ?_
                exact zW.sub (hJ25 S31 _ hE hf) [1, 2, 3, 4, 5, 6, 7, 0] rfl rfl rfl rfl
          by_cases c21 : ¬ i1 = 0
          · have hf := zif_t hf c21
            refine z_if_ne_t (tgt := 75) dX11_best_62 (by decide) c21 ?_
            exact zW.sub (hJ22 S14 _ hE hf) [2, 3, 4, 5, 6, 1, 0] rfl rfl rfl rfl
          · have hf := zif_f hf c21
            refine z_if_ne_f (tgt := 75) dX11_best_62 (by decide) c21 ?_
            refine z_aload dX11_best_65 rfl ?_
            refine z_iload dX11_best_67 rfl ?_
            obtain ⟨r37, S36, k38, hf⟩ := zb_some hf
            refine z_callSi dX11_best_69 tM_11_300 (by decide) mt_11033 (Nat.le_of_ble_eq_true rfl) rfl rfl (by have q0 : a9 < t.1 := hda9.2; have q1 : 0 < t.1 := Nat.lt_of_lt_of_le (by decide) hn1; simp [ia_oks, ia_okv, q0, q1]) (Nat.le_of_ble_eq_true rfl) (w_X11_hasHole hn1 hn2 (d + 5) hda9 hE k38) (fun h hE => ?_)
            by_cases c39 : ¬ r37 = 0
            · have hf := zif_t hf c39
              refine z_if_ne_t (tgt := 79) dX11_best_72 (by decide) c39 ?_
              exact zW.sub (hJ18 S36 _ hE hf) [2, 3, 4, 5, 6, 1, 0] rfl rfl rfl rfl
            · have hf := zif_f hf c39
              refine z_if_ne_f (tgt := 79) dX11_best_72 (by decide) c39 ?_
              exact zW.sub (hJ22 S36 _ hE hf) [2, 3, 4, 5, 6, 1, 0] rfl rfl rfl rfl
theorem w_X11_best {L : Nat} {xs : Nat → Int32} {fm : Bool} {h0 : Nat → va_E} {t : Nat × Nat × Nat} (hn1 : 64 ≤ t.1) (hn2 : t.1 ≤ 1000000) (d : Nat) {h : Nat → va_E} {S : zS} (hE : zE (zDc t.1) h0 S (h, t)) {v1 : Int32} {R : Int32 × zS} (hf : f_X11_best v1 S = some R) : zC (ia_P0 L xs fm) (d + 7) 11032 [.ref 0, .int v1] (h, t) (zQi (zDc t.1) h0 t R) := by
  refine zC_of mt_11032 nn_11032 (Nat.le_of_ble_eq_true rfl) ?_
  refine zW_lv (lv' := [(0, .ref 0), (1, .int v1)]) rfl ?_
  unfold f_X11_best at hf
  refine z_aload_n dX11_best_0 rfl ?_
  obtain ⟨r2, S1, k3, hf⟩ := zb_some hf
  refine z_callVi dX11_best_1 tM_11_223 mt_11019 (Nat.le_of_ble_eq_true rfl) rfl rfl (z_recv hE dc_0 rfl) rfl (ia_oks_le hn1 rfl) (Nat.le_of_ble_eq_true rfl) (w_X11_lidIsShut hn1 hn2 (d + 3) hE k3) (fun h hE => ?_)
  by_cases c4 : ¬ r2 = 0
  · have hf := zif_t hf c4
    refine z_if_ne_t (tgt := 9) dX11_best_4 (by decide) c4 ?_
    refine z_iconst (v := (-1)) dX11_best_9 (by decide) ?_
    refine z_istore_n (lv' := [(2, .int (-1)), (0, .ref 0), (1, .int v1)]) dX11_best_10 (by decide) rfl ?_
    refine z_iconst (v := 0) dX11_best_11 (by decide) ?_
    refine z_istore_n (lv' := [(3, .int 0), (2, .int (-1)), (0, .ref 0), (1, .int v1)]) dX11_best_12 (by decide) rfl ?_
    refine z_iconst (v := 0) dX11_best_13 (by decide) ?_
    refine z_istore (lv' := [(4, .int 0), (3, .int 0), (2, .int (-1)), (0, .ref 0), (1, .int v1)]) dX11_best_14 (by decide) rfl ?_
    refine zW.sub (w_X11_best_L16 hn1 hn2 d (fun q41 q42 q43 S40 h hE hf => ?_) zN (-1) 0 0 S1 h hE hf) [3, 4, 2, 1, 0] rfl rfl rfl rfl
    try dsimp only at hf
    refine z_iload_n dX11_best_120 rfl ?_
    have e_ := Option.some.inj hf
    subst e_
    exact z_ireturn dX11_best_121 rfl ⟨h, rfl, rfl, hE⟩
  · have hf := zif_f hf c4
    refine z_if_ne_f (tgt := 9) dX11_best_4 (by decide) c4 ?_
    refine z_iconst (v := (-1)) dX11_best_7 (by decide) ?_
    have e_ := Option.some.inj hf
    subst e_
    exact z_ireturn dX11_best_8 rfl ⟨h, rfl, rfl, hE⟩
def f_X0_canOpen_L7 (ex : Int32 → Int32 → zS → Option (Int32 × zS)) (i1 : Int32) : Nat → Int32 → Int32 → zS → Option (Int32 × zS)
  | 0, _, _, _ => none
  | k + 1, x2, x3, S =>
    if (S.1 35 1) ≤ x3 then
    ex x2 x3 S
    else
    zl (fun (q6 : Int32) (S5 : zS) =>
    zl (x3 + 1) fun (y7 : Int32) =>
    f_X0_canOpen_L7 ex i1 k q6 y7 S5) fun J4 =>
    if ¬ ((i1 >>> (x3 &&& 31)) &&& 1) = 1 then
    J4 x2 S
    else
    if ia_in x3 6 = true then
    if (S.1 36 x3.toNatClampNeg) < ((S.1 35 3) + x2) then
    zb (f_X0_stuckBehind x3 x2 S) fun r11 S10 =>
    J4 r11 S10
    else
    some (1, S)
    else none
def f_X0_canOpen (v1 : Int32) (S : zS) : Option (Int32 × zS) :=
zl (S.1 35 2) fun (y1 : Int32) =>
f_X0_canOpen_L7 (fun (q14 : Int32) (q15 : Int32) (S13 : zS) =>
some (0, S13)) v1 zN y1 0 S
theorem w_X0_canOpen_L7 {L : Nat} {xs : Nat → Int32} {fm : Bool} {h0 : Nat → va_E} {t : Nat × Nat × Nat} (hn1 : 64 ≤ t.1) (hn2 : t.1 ≤ 1000000) (d : Nat) {ex : Int32 → Int32 → zS → Option (Int32 × zS)} {i1 : Int32} {R : Int32 × zS} (hex : ∀ (x2 : Int32) (x3 : Int32) (S : zS) (h : Nat → va_E), zE (zDc t.1) h0 S (h, t) → ex x2 x3 S = some R → zW (ia_P0 L xs fm) ia_nx (d + 1) 0 false cX0_canOpen 4 (some .boolean) 54 [(0, .ref 35), (1, .int i1), (2, .int x2), (3, .int x3)] [] (h, t) (zQi (zDc t.1) h0 t R)) : ∀ (k : Nat) (x2 : Int32) (x3 : Int32) (S : zS) (h : Nat → va_E), zE (zDc t.1) h0 S (h, t) → f_X0_canOpen_L7 ex i1 k x2 x3 S = some R → zW (ia_P0 L xs fm) ia_nx (d + 1) 0 false cX0_canOpen 4 (some .boolean) 7 [(0, .ref 35), (1, .int i1), (2, .int x2), (3, .int x3)] [] (h, t) (zQi (zDc t.1) h0 t R) := by
  intro k
  induction k with
  | zero => intro x2 x3 S h hE hf; cases hf
  | succ k ih =>
    intro x2 x3 S h hE hf
    unfold f_X0_canOpen_L7 at hf
    refine z_iload_n dX0_canOpen_7 rfl ?_
    refine z_aload_n dX0_canOpen_8 rfl ?_
    refine z_getI dX0_canOpen_9 tF_0_26 hE dc_35 rfl rfl ?_
    by_cases c2 : (S.1 35 1) ≤ x3
    · have hf := zif_t hf c2
      refine z_icmp_ge_t (tgt := 54) dX0_canOpen_12 (by decide) c2 ?_
      exact zW.sub (hex x2 x3 S _ hE hf) [0, 1, 2, 3] rfl rfl rfl rfl
    · have hf := zif_f hf c2
      refine z_icmp_ge_f (tgt := 54) dX0_canOpen_12 (by decide) c2 ?_
      refine z_iload_n dX0_canOpen_15 rfl ?_
      refine z_iload_n dX0_canOpen_16 rfl ?_
      refine z_ishr dX0_canOpen_17 ?_
      refine z_iconst (v := 1) dX0_canOpen_18 (by decide) ?_
      refine z_iand dX0_canOpen_19 ?_
      refine z_iconst (v := 1) dX0_canOpen_20 (by decide) ?_
      obtain ⟨J4, eJ4, hf⟩ := zl_some hf
      have hJ4 : ∀ (q6 : Int32) (S5 : zS) (h : Nat → va_E), zE (zDc t.1) h0 S5 (h, t) → J4 q6 S5 = some R → zW (ia_P0 L xs fm) ia_nx (d + 1) 0 false cX0_canOpen 4 (some .boolean) 48 [(0, .ref 35), (1, .int i1), (2, .int q6), (3, .int x3)] [] (h, t) (zQi (zDc t.1) h0 t R) := by
        intro q6 S5 h hE hf
        rw [eJ4] at hf
        obtain ⟨y7, ey7, hf⟩ := zl_some hf
        refine z_iincY (v := 1) (y := y7) (lv' := [(3, .int y7), (0, .ref 35), (1, .int i1), (2, .int q6)]) dX0_canOpen_48 rfl (by decide) (by decide) ey7 rfl ?_
        refine z_goto (tgt := 7) dX0_canOpen_51 (by decide) ?_
        exact zW.sub (ih q6 y7 S5 _ hE hf) [1, 2, 3, 0] rfl rfl rfl rfl
      by_cases c3 : ¬ ((i1 >>> (x3 &&& 31)) &&& 1) = 1
      · have hf := zif_t hf c3
        refine z_icmp_ne_t (tgt := 48) dX0_canOpen_21 (by decide) c3 ?_
        exact zW.sub (hJ4 x2 S _ hE hf) [0, 1, 2, 3] rfl rfl rfl rfl
      · have hf := zif_f hf c3
        refine z_icmp_ne_f (tgt := 48) dX0_canOpen_21 (by decide) c3 ?_
        refine z_aload_n dX0_canOpen_24 rfl ?_
        refine z_getC dX0_canOpen_25 tF_0_9 hE dc_35 rfl rfl ?_
        refine z_iload_n dX0_canOpen_28 rfl ?_
        obtain ⟨b8, hf⟩ := zchk hf
        refine z_ialoadL dX0_canOpen_29 hE dc_36 b8 rfl ?_
        refine z_aload_n dX0_canOpen_30 rfl ?_
        refine z_getI dX0_canOpen_31 tF_0_48 hE dc_35 rfl rfl ?_
        refine z_iload_n dX0_canOpen_34 rfl ?_
        refine z_iadd dX0_canOpen_35 ?_
        by_cases c9 : (S.1 36 x3.toNatClampNeg) < ((S.1 35 3) + x2)
        · have hf := zif_t hf c9
          refine z_icmp_lt_t (tgt := 41) dX0_canOpen_36 (by decide) c9 ?_
          refine z_aload_n dX0_canOpen_41 rfl ?_
          refine z_iload_n dX0_canOpen_42 rfl ?_
          refine z_iload_n dX0_canOpen_43 rfl ?_
          obtain ⟨r11, S10, k12, hf⟩ := zb_some hf
          refine z_callVi dX0_canOpen_44 tM_0_57 mt_4 (Nat.le_of_ble_eq_true rfl) rfl rfl (z_recv hE dc_35 rfl) rfl (ia_oks_le hn1 rfl) (Nat.le_of_ble_eq_true rfl) (w_X0_stuckBehind hn1 hn2 (d + 0) hE k12) (fun h hE => ?_)
          refine z_istore_n (lv' := [(2, .int r11), (0, .ref 35), (1, .int i1), (3, .int x3)]) dX0_canOpen_47 (by decide) rfl ?_
          exact zW.sub (hJ4 r11 S10 _ hE hf) [1, 2, 0, 3] rfl rfl rfl rfl
        · have hf := zif_f hf c9
          refine z_icmp_lt_f (tgt := 41) dX0_canOpen_36 (by decide) c9 ?_
          refine z_iconst (v := 1) dX0_canOpen_39 (by decide) ?_
          have e_ := Option.some.inj hf
          subst e_
          exact z_zreturn dX0_canOpen_40 rfl (by decide) ⟨h, rfl, rfl, hE⟩
theorem w_X0_canOpen {L : Nat} {xs : Nat → Int32} {fm : Bool} {h0 : Nat → va_E} {t : Nat × Nat × Nat} (hn1 : 64 ≤ t.1) (hn2 : t.1 ≤ 1000000) (d : Nat) {h : Nat → va_E} {S : zS} (hE : zE (zDc t.1) h0 S (h, t)) {v1 : Int32} {R : Int32 × zS} (hf : f_X0_canOpen v1 S = some R) : zC (ia_P0 L xs fm) (d + 2) 6 [.ref 35, .int v1] (h, t) (zQi (zDc t.1) h0 t R) := by
  refine zC_of mt_6 nn_6 (Nat.le_of_ble_eq_true rfl) ?_
  refine zW_lv (lv' := [(0, .ref 35), (1, .int v1)]) rfl ?_
  unfold f_X0_canOpen at hf
  refine z_aload_n dX0_canOpen_0 rfl ?_
  refine z_getI dX0_canOpen_1 tF_0_42 hE dc_35 rfl rfl ?_
  obtain ⟨y1, ey1, hf⟩ := zl_some hf
  refine z_topi ey1 ?_
  refine z_istore_n (lv' := [(2, .int y1), (0, .ref 35), (1, .int v1)]) dX0_canOpen_4 (by decide) rfl ?_
  refine z_iconst (v := 0) dX0_canOpen_5 (by decide) ?_
  refine z_istore_n (lv' := [(3, .int 0), (2, .int y1), (0, .ref 35), (1, .int v1)]) dX0_canOpen_6 (by decide) rfl ?_
  refine zW.sub (w_X0_canOpen_L7 hn1 hn2 d (fun q14 q15 S13 h hE hf => ?_) zN y1 0 S h hE hf) [2, 3, 1, 0] rfl rfl rfl rfl
  try dsimp only at hf
  refine z_iconst (v := 0) dX0_canOpen_54 (by decide) ?_
  have e_ := Option.some.inj hf
  subst e_
  exact z_zreturn dX0_canOpen_55 rfl (by decide) ⟨h, rfl, rfl, hE⟩
end ZX
