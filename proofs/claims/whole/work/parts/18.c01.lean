section ZX
def f_X5_readMoreUnits (a0 : Int32) (S : zS) : Option (Unit × zS) := f_X5_readMoreUnits_o (f_X5_readUnit_g 16) a0 S
theorem w_X5_readMoreUnits {L : Nat} {xs : Nat → Int32} {fm : Bool} {h0 : Nat → va_E} {t : Nat × Nat × Nat} (hn1 : 64 ≤ t.1) (hn2 : t.1 ≤ 1000000) (d : Nat) {h : Nat → va_E} {S : zS} (hE : zE (zDc t.1) h0 S (h, t)) {a0 : Int32} {R : Unit × zS} (hf : f_X5_readMoreUnits a0 S = some R) : zC (ia_P0 L xs fm) (d + 137) 5013 [.ref 7, .int a0] (h, t) (zQv (zDc t.1) h0 t R) :=
  (w_X5_readMoreUnits_o hn1 hn2 (d + 5 * 16) (w_X5_readUnit_g hn1 hn2 d 16) hE hf).mono (by omega)
def f_X5_readMoreTruths (a0 : Int32) (S : zS) : Option (Unit × zS) := f_X5_readMoreTruths_o (f_X5_readUnit_g 16) a0 S
theorem w_X5_readMoreTruths {L : Nat} {xs : Nat → Int32} {fm : Bool} {h0 : Nat → va_E} {t : Nat × Nat × Nat} (hn1 : 64 ≤ t.1) (hn2 : t.1 ≤ 1000000) (d : Nat) {h : Nat → va_E} {S : zS} (hE : zE (zDc t.1) h0 S (h, t)) {a0 : Int32} {R : Unit × zS} (hf : f_X5_readMoreTruths a0 S = some R) : zC (ia_P0 L xs fm) (d + 139) 5014 [.ref 7, .int a0] (h, t) (zQv (zDc t.1) h0 t R) :=
  (w_X5_readMoreTruths_o hn1 hn2 (d + 5 * 16) (w_X5_readUnit_g hn1 hn2 d 16) hE hf).mono (by omega)
def f_X5_readCondition (a0 : Int32) (S : zS) : Option (Unit × zS) := f_X5_readCondition_o (f_X5_readUnit_g 16) a0 S
theorem w_X5_readCondition {L : Nat} {xs : Nat → Int32} {fm : Bool} {h0 : Nat → va_E} {t : Nat × Nat × Nat} (hn1 : 64 ≤ t.1) (hn2 : t.1 ≤ 1000000) (d : Nat) {h : Nat → va_E} {S : zS} (hE : zE (zDc t.1) h0 S (h, t)) {a0 : Int32} {R : Unit × zS} (hf : f_X5_readCondition a0 S = some R) : zC (ia_P0 L xs fm) (d + 140) 5003 [.ref 7, .int a0] (h, t) (zQv (zDc t.1) h0 t R) :=
  (w_X5_readCondition_o hn1 hn2 (d + 5 * 16) (w_X5_readUnit_g hn1 hn2 d 16) hE hf).mono (by omega)
def f_X5_readClause  (S : zS) : Option (Unit × zS) :=
zb (f_X9_needs 121 S) fun _ S1 =>
zb (f_X9_needs 58 S1) fun _ S4 =>
zb (f_X9_sign S4) fun r8 S7 =>
zl (fun (u12 : Unit) =>
zb (f_X5_readCondition 0 S7) fun _ S13 =>
zb (f_X9_needs 63 S13) fun _ S16 =>
zb (f_X5_put 63 S16) fun _ S19 =>
zb (f_X5_readSum 0 S19) fun _ S22 =>
zb (f_X5_put 59 S22) fun _ S25 =>
some ((), S25)) fun J11 =>
if r8 = 33 then
J11 ()
else
if ¬ r8 = 40 then
zb (f_X5_readSum 0 S7) fun _ S29 =>
zb (f_X9_sign S29) fun r33 S32 =>
zb (f_X5_isRelation r33 S32) fun r36 S35 =>
zl (fun (q41 : Int32) (S40 : zS) =>
zl (fun (S44 : zS) =>
zb (f_X5_put 59 S44) fun _ S45 =>
some ((), S45)) fun J43 =>
if q41 = 0 then
J43 S40
else
zb (f_X9_needs 63 S40) fun _ S48 =>
zb (f_X5_put 63 S48) fun _ S51 =>
zb (f_X5_readSum 0 S51) fun _ S54 =>
J43 S54) fun J39 =>
if r36 = 0 then
J39 0 S35
else
zb (f_X5_readRelation 0 S35) fun _ S57 =>
zb (f_X5_readMoreUnits 0 S57) fun _ S60 =>
zb (f_X5_readMoreTruths 0 S60) fun _ S63 =>
J39 1 S63
else
J11 ()
theorem w_X5_readClause {L : Nat} {xs : Nat → Int32} {fm : Bool} {h0 : Nat → va_E} {t : Nat × Nat × Nat} (hn1 : 64 ≤ t.1) (hn2 : t.1 ≤ 1000000) (d : Nat) {h : Nat → va_E} {S : zS} (hE : zE (zDc t.1) h0 S (h, t)) {R : Unit × zS} (hf : f_X5_readClause  S = some R) : zC (ia_P0 L xs fm) (d + 141) 5002 [.ref 7] (h, t) (zQv (zDc t.1) h0 t R) := by
  refine zC_of mt_5002 nn_5002 (Nat.le_of_ble_eq_true rfl) ?_
  refine zW_lv (lv' := [(0, .ref 7)]) rfl ?_
  unfold f_X5_readClause at hf
  refine z_aload_n dX5_readClause_0 rfl ?_
  refine z_getC dX5_readClause_1 tF_5_15 hE dc_7 rfl rfl ?_
  refine z_bipush (v := 121) dX5_readClause_4 (by decide) ?_
  obtain ⟨r2, S1, k3, hf⟩ := zb_some hf
  refine z_callVv dX5_readClause_6 tM_5_41 mt_9010 (Nat.le_of_ble_eq_true rfl) rfl rfl (z_recv hE dc_1 rfl) rfl (ia_oks_le hn1 rfl) (Nat.le_of_ble_eq_true rfl) (w_X9_needs hn1 hn2 (d + 138) hE k3) (fun h hE => ?_)
  refine z_aload_n dX5_readClause_9 rfl ?_
  refine z_getC dX5_readClause_10 tF_5_15 hE dc_7 rfl rfl ?_
  refine z_bipush (v := 58) dX5_readClause_13 (by decide) ?_
  obtain ⟨r5, S4, k6, hf⟩ := zb_some hf
  refine z_callVv dX5_readClause_15 tM_5_41 mt_9010 (Nat.le_of_ble_eq_true rfl) rfl rfl (z_recv hE dc_1 rfl) rfl (ia_oks_le hn1 rfl) (Nat.le_of_ble_eq_true rfl) (w_X9_needs hn1 hn2 (d + 138) hE k6) (fun h hE => ?_)
  refine z_aload_n dX5_readClause_18 rfl ?_
  refine z_getC dX5_readClause_19 tF_5_15 hE dc_7 rfl rfl ?_
  obtain ⟨r8, S7, k9, hf⟩ := zb_some hf
  refine z_callVi dX5_readClause_22 tM_5_45 mt_9004 (Nat.le_of_ble_eq_true rfl) rfl rfl (z_recv hE dc_1 rfl) rfl (ia_oks_le hn1 rfl) (Nat.le_of_ble_eq_true rfl) (w_X9_sign hn1 hn2 (d + 139) hE k9) (fun h hE => ?_)
  refine z_istore_n (lv' := [(1, .int r8), (0, .ref 7)]) dX5_readClause_25 (by decide) rfl ?_
  refine z_iload_n dX5_readClause_26 rfl ?_
  refine z_bipush (v := 33) dX5_readClause_27 (by decide) ?_
  obtain ⟨J11, eJ11, hf⟩ := zl_some hf
  have hJ11 : ∀ (u12 : Unit) (h : Nat → va_E), zE (zDc t.1) h0 S7 (h, t) → J11 u12 = some R → zW (ia_P0 L xs fm) ia_nx (d + 140) 5 false cX5_readClause 3 (none) 38 [(0, .ref 7), (1, .int r8)] [] (h, t) (zQv (zDc t.1) h0 t R) := by
    intro u12 h hE hf
    rw [eJ11] at hf
    refine z_iconst (v := 1) dX5_readClause_38 (by decide) ?_
    refine z_goto (tgt := 43) dX5_readClause_39 (by decide) ?_
    refine z_istore_n (lv' := [(2, .int 1), (0, .ref 7), (1, .int r8)]) dX5_readClause_43 (by decide) rfl ?_
    refine z_iload_n dX5_readClause_44 rfl ?_
    refine z_if_eq_f (tgt := 56) dX5_readClause_45 (by decide) (by decide) ?_
    refine z_aload_n dX5_readClause_48 rfl ?_
    refine z_iconst (v := 0) dX5_readClause_49 (by decide) ?_
    obtain ⟨r14, S13, k15, hf⟩ := zb_some hf
    refine z_callVv dX5_readClause_50 tM_5_49 mt_5003 (Nat.le_of_ble_eq_true rfl) rfl rfl (z_recv hE dc_7 rfl) rfl (ia_oks_le hn1 rfl) (Nat.le_of_ble_eq_true rfl) (w_X5_readCondition hn1 hn2 (d + 0) hE k15) (fun h hE => ?_)
    refine z_goto (tgt := 91) dX5_readClause_53 (by decide) ?_
    refine z_iload_n dX5_readClause_91 rfl ?_
    refine z_if_eq_f (tgt := 115) dX5_readClause_92 (by decide) (by decide) ?_
    refine z_aload_n dX5_readClause_95 rfl ?_
    refine z_getC dX5_readClause_96 tF_5_15 hE dc_7 rfl rfl ?_
    refine z_bipush (v := 63) dX5_readClause_99 (by decide) ?_
    obtain ⟨r17, S16, k18, hf⟩ := zb_some hf
    refine z_callVv dX5_readClause_101 tM_5_41 mt_9010 (Nat.le_of_ble_eq_true rfl) rfl rfl (z_recv hE dc_1 rfl) rfl (ia_oks_le hn1 rfl) (Nat.le_of_ble_eq_true rfl) (w_X9_needs hn1 hn2 (d + 138) hE k18) (fun h hE => ?_)
    refine z_aload_n dX5_readClause_104 rfl ?_
    refine z_bipush (v := 63) dX5_readClause_105 (by decide) ?_
    obtain ⟨r20, S19, k21, hf⟩ := zb_some hf
    refine z_callVv dX5_readClause_107 tM_5_67 mt_5007 (Nat.le_of_ble_eq_true rfl) rfl rfl (z_recv hE dc_7 rfl) rfl (ia_oks_le hn1 rfl) (Nat.le_of_ble_eq_true rfl) (w_X5_put hn1 hn2 (d + 139) hE k21) (fun h hE => ?_)
    refine z_aload_n dX5_readClause_110 rfl ?_
    refine z_iconst (v := 0) dX5_readClause_111 (by decide) ?_
    obtain ⟨r23, S22, k24, hf⟩ := zb_some hf
    refine z_callVv dX5_readClause_112 tM_5_52 mt_5008 (Nat.le_of_ble_eq_true rfl) rfl rfl (z_recv hE dc_7 rfl) rfl (ia_oks_le hn1 rfl) (Nat.le_of_ble_eq_true rfl) (w_X5_readSum hn1 hn2 (d + 85) hE k24) (fun h hE => ?_)
    refine z_aload_n dX5_readClause_115 rfl ?_
    refine z_bipush (v := 59) dX5_readClause_116 (by decide) ?_
    obtain ⟨r26, S25, k27, hf⟩ := zb_some hf
    refine z_callVv dX5_readClause_118 tM_5_67 mt_5007 (Nat.le_of_ble_eq_true rfl) rfl rfl (z_recv hE dc_7 rfl) rfl (ia_oks_le hn1 rfl) (Nat.le_of_ble_eq_true rfl) (w_X5_put hn1 hn2 (d + 139) hE k27) (fun h hE => ?_)
    have e_ := Option.some.inj hf
    subst e_
    exact z_vreturn dX5_readClause_121 rfl ⟨h, rfl, rfl, hE⟩
  by_cases c10 : r8 = 33
  · have hf := zif_t hf c10
    refine z_icmp_eq_t (tgt := 38) dX5_readClause_29 (by decide) c10 ?_
    exact zW.sub (hJ11 () _ hE hf) [1, 0] rfl rfl rfl rfl
  · have hf := zif_f hf c10
    refine z_icmp_eq_f (tgt := 38) dX5_readClause_29 (by decide) c10 ?_
    refine z_iload_n dX5_readClause_32 rfl ?_
    refine z_bipush (v := 40) dX5_readClause_33 (by decide) ?_
    by_cases c28 : ¬ r8 = 40
    · have hf := zif_t hf c28
      refine z_icmp_ne_t (tgt := 42) dX5_readClause_35 (by decide) c28 ?_
      refine z_iconst (v := 0) dX5_readClause_42 (by decide) ?_
      refine z_istore_n (lv' := [(2, .int 0), (1, .int r8), (0, .ref 7)]) dX5_readClause_43 (by decide) rfl ?_
      refine z_iload_n dX5_readClause_44 rfl ?_
      refine z_if_eq_t (tgt := 56) dX5_readClause_45 (by decide) (by decide) ?_
      refine z_aload_n dX5_readClause_56 rfl ?_
      refine z_iconst (v := 0) dX5_readClause_57 (by decide) ?_
      obtain ⟨r30, S29, k31, hf⟩ := zb_some hf
      refine z_callVv dX5_readClause_58 tM_5_52 mt_5008 (Nat.le_of_ble_eq_true rfl) rfl rfl (z_recv hE dc_7 rfl) rfl (ia_oks_le hn1 rfl) (Nat.le_of_ble_eq_true rfl) (w_X5_readSum hn1 hn2 (d + 85) hE k31) (fun h hE => ?_)
      refine z_aload_n dX5_readClause_61 rfl ?_
      refine z_getC dX5_readClause_62 tF_5_15 hE dc_7 rfl rfl ?_
      obtain ⟨r33, S32, k34, hf⟩ := zb_some hf
      refine z_callVi dX5_readClause_65 tM_5_45 mt_9004 (Nat.le_of_ble_eq_true rfl) rfl rfl (z_recv hE dc_1 rfl) rfl (ia_oks_le hn1 rfl) (Nat.le_of_ble_eq_true rfl) (w_X9_sign hn1 hn2 (d + 139) hE k34) (fun h hE => ?_)
      obtain ⟨r36, S35, k37, hf⟩ := zb_some hf
      refine z_callSi dX5_readClause_68 tM_5_55 (by decide) mt_5012 (Nat.le_of_ble_eq_true rfl) rfl rfl (ia_oks_le hn1 rfl) (Nat.le_of_ble_eq_true rfl) (w_X5_isRelation hn1 hn2 (d + 139) hE k37) (fun h hE => ?_)
      obtain ⟨J39, eJ39, hf⟩ := zl_some hf
      have hJ39 : ∀ (q41 : Int32) (S40 : zS) (h : Nat → va_E), zE (zDc t.1) h0 S40 (h, t) → J39 q41 S40 = some R → zW (ia_P0 L xs fm) ia_nx (d + 140) 5 false cX5_readClause 3 (none) 91 [(0, .ref 7), (1, .int r8), (2, .int q41)] [] (h, t) (zQv (zDc t.1) h0 t R) := by
        intro q41 S40 h hE hf
        rw [eJ39] at hf
        refine z_iload_n dX5_readClause_91 rfl ?_
        obtain ⟨J43, eJ43, hf⟩ := zl_some hf
        have hJ43 : ∀ (S44 : zS) (h : Nat → va_E), zE (zDc t.1) h0 S44 (h, t) → J43 S44 = some R → zW (ia_P0 L xs fm) ia_nx (d + 140) 5 false cX5_readClause 3 (none) 115 [(0, .ref 7), (1, .int r8), (2, .int q41)] [] (h, t) (zQv (zDc t.1) h0 t R) := by
          intro S44 h hE hf
          rw [eJ43] at hf
          refine z_aload_n dX5_readClause_115 rfl ?_
          refine z_bipush (v := 59) dX5_readClause_116 (by decide) ?_
          obtain ⟨r46, S45, k47, hf⟩ := zb_some hf
          refine z_callVv dX5_readClause_118 tM_5_67 mt_5007 (Nat.le_of_ble_eq_true rfl) rfl rfl (z_recv hE dc_7 rfl) rfl (ia_oks_le hn1 rfl) (Nat.le_of_ble_eq_true rfl) (w_X5_put hn1 hn2 (d + 139) hE k47) (fun h hE => ?_)
          have e_ := Option.some.inj hf
          subst e_
          exact z_vreturn dX5_readClause_121 rfl ⟨h, rfl, rfl, hE⟩
        by_cases c42 : q41 = 0
        · have hf := zif_t hf c42
          refine z_if_eq_t (tgt := 115) dX5_readClause_92 (by decide) c42 ?_
          exact zW.sub (hJ43 S40 _ hE hf) [0, 1, 2] rfl rfl rfl rfl
        · have hf := zif_f hf c42
          refine z_if_eq_f (tgt := 115) dX5_readClause_92 (by decide) c42 ?_
          refine z_aload_n dX5_readClause_95 rfl ?_
          refine z_getC dX5_readClause_96 tF_5_15 hE dc_7 rfl rfl ?_
          refine z_bipush (v := 63) dX5_readClause_99 (by decide) ?_
          obtain ⟨r49, S48, k50, hf⟩ := zb_some hf
          refine z_callVv dX5_readClause_101 tM_5_41 mt_9010 (Nat.le_of_ble_eq_true rfl) rfl rfl (z_recv hE dc_1 rfl) rfl (ia_oks_le hn1 rfl) (Nat.le_of_ble_eq_true rfl) (w_X9_needs hn1 hn2 (d + 138) hE k50) (fun h hE => ?_)
          refine z_aload_n dX5_readClause_104 rfl ?_
          refine z_bipush (v := 63) dX5_readClause_105 (by decide) ?_
          obtain ⟨r52, S51, k53, hf⟩ := zb_some hf
          refine z_callVv dX5_readClause_107 tM_5_67 mt_5007 (Nat.le_of_ble_eq_true rfl) rfl rfl (z_recv hE dc_7 rfl) rfl (ia_oks_le hn1 rfl) (Nat.le_of_ble_eq_true rfl) (w_X5_put hn1 hn2 (d + 139) hE k53) (fun h hE => ?_)
          refine z_aload_n dX5_readClause_110 rfl ?_
          refine z_iconst (v := 0) dX5_readClause_111 (by decide) ?_
          obtain ⟨r55, S54, k56, hf⟩ := zb_some hf
          refine z_callVv dX5_readClause_112 tM_5_52 mt_5008 (Nat.le_of_ble_eq_true rfl) rfl rfl (z_recv hE dc_7 rfl) rfl (ia_oks_le hn1 rfl) (Nat.le_of_ble_eq_true rfl) (w_X5_readSum hn1 hn2 (d + 85) hE k56) (fun h hE => ?_)
          exact zW.sub (hJ43 S54 _ hE hf) [0, 1, 2] rfl rfl rfl rfl
      by_cases c38 : r36 = 0
      · have hf := zif_t hf c38
        refine z_if_eq_t (tgt := 91) dX5_readClause_71 (by decide) c38 ?_
        exact zW.sub (hJ39 0 S35 _ hE hf) [2, 1, 0] rfl rfl rfl rfl
      · have hf := zif_f hf c38
        refine z_if_eq_f (tgt := 91) dX5_readClause_71 (by decide) c38 ?_
        refine z_iconst (v := 1) dX5_readClause_74 (by decide) ?_
        refine z_istore_n (lv' := [(2, .int 1), (1, .int r8), (0, .ref 7)]) dX5_readClause_75 (by decide) rfl ?_
        refine z_aload_n dX5_readClause_76 rfl ?_
        refine z_iconst (v := 0) dX5_readClause_77 (by decide) ?_
        obtain ⟨r58, S57, k59, hf⟩ := zb_some hf
        refine z_callVv dX5_readClause_78 tM_5_58 mt_5011 (Nat.le_of_ble_eq_true rfl) rfl rfl (z_recv hE dc_7 rfl) rfl (ia_oks_le hn1 rfl) (Nat.le_of_ble_eq_true rfl) (w_X5_readRelation hn1 hn2 (d + 84) hE k59) (fun h hE => ?_)
        refine z_aload_n dX5_readClause_81 rfl ?_
        refine z_iconst (v := 0) dX5_readClause_82 (by decide) ?_
        obtain ⟨r61, S60, k62, hf⟩ := zb_some hf
        refine z_callVv dX5_readClause_83 tM_5_61 mt_5013 (Nat.le_of_ble_eq_true rfl) rfl rfl (z_recv hE dc_7 rfl) rfl (ia_oks_le hn1 rfl) (Nat.le_of_ble_eq_true rfl) (w_X5_readMoreUnits hn1 hn2 (d + 3) hE k62) (fun h hE => ?_)
        refine z_aload_n dX5_readClause_86 rfl ?_
        refine z_iconst (v := 0) dX5_readClause_87 (by decide) ?_
        obtain ⟨r64, S63, k65, hf⟩ := zb_some hf
        refine z_callVv dX5_readClause_88 tM_5_64 mt_5014 (Nat.le_of_ble_eq_true rfl) rfl rfl (z_recv hE dc_7 rfl) rfl (ia_oks_le hn1 rfl) (Nat.le_of_ble_eq_true rfl) (w_X5_readMoreTruths hn1 hn2 (d + 1) hE k65) (fun h hE => ?_)
        exact zW.sub (hJ39 1 S63 _ hE hf) [2, 1, 0] rfl rfl rfl rfl
    · have hf := zif_f hf c28
      refine z_icmp_ne_f (tgt := 42) dX5_readClause_35 (by decide) c28 ?_
      exact zW.sub (hJ11 () _ hE hf) [1, 0] rfl rfl rfl rfl
def f_X5_firstWrong_L16 (ex : Int32 → Int32 → zS → Option (Int32 × zS))  : Nat → Int32 → Int32 → zS → Option (Int32 × zS)
  | 0, _, _, _ => none
  | k + 1, x1, x2, S =>
    if x1 = 0 then
    ex x1 x2 S
    else
    if 200 ≤ x2 then
    ex x1 x2 S
    else
    zb (f_X5_readClause S) fun _ S7 =>
    zb (f_X9_takes 59 S7) fun r11 S10 =>
    zl (x2 + 1) fun (y13 : Int32) =>
    f_X5_firstWrong_L16 ex k r11 y13 S10
def f_X5_firstWrong  (S : zS) : Option (Int32 × zS) :=
zb (f_X9_rewind S) fun _ S1 =>
zl (sV S1 7 2 0) fun S4 =>
f_X5_firstWrong_L16 (fun (q15 : Int32) (q16 : Int32) (S14 : zS) =>
zb (f_X9_needsEnd S14) fun _ S17 =>
some (S17.1 1 3, S17))  zN 1 0 S4
theorem w_X5_firstWrong_L16 {L : Nat} {xs : Nat → Int32} {fm : Bool} {h0 : Nat → va_E} {t : Nat × Nat × Nat} (hn1 : 64 ≤ t.1) (hn2 : t.1 ≤ 1000000) (d : Nat) {ex : Int32 → Int32 → zS → Option (Int32 × zS)} {R : Int32 × zS} (hex : ∀ (x1 : Int32) (x2 : Int32) (S : zS) (h : Nat → va_E), zE (zDc t.1) h0 S (h, t) → ex x1 x2 S = some R → zW (ia_P0 L xs fm) ia_nx (d + 141) 5 false cX5_firstWrong 3 (some .int) 47 [(0, .ref 7), (1, .int x1), (2, .int x2)] [] (h, t) (zQi (zDc t.1) h0 t R)) : ∀ (k : Nat) (x1 : Int32) (x2 : Int32) (S : zS) (h : Nat → va_E), zE (zDc t.1) h0 S (h, t) → f_X5_firstWrong_L16 ex  k x1 x2 S = some R → zW (ia_P0 L xs fm) ia_nx (d + 141) 5 false cX5_firstWrong 3 (some .int) 16 [(0, .ref 7), (1, .int x1), (2, .int x2)] [] (h, t) (zQi (zDc t.1) h0 t R) := by
  intro k
  induction k with
  | zero => intro x1 x2 S h hE hf; cases hf
  | succ k ih =>
    intro x1 x2 S h hE hf
    unfold f_X5_firstWrong_L16 at hf
    refine z_iload_n dX5_firstWrong_16 rfl ?_
    by_cases c5 : x1 = 0
    · have hf := zif_t hf c5
      refine z_if_eq_t (tgt := 47) dX5_firstWrong_17 (by decide) c5 ?_
      exact zW.sub (hex x1 x2 S _ hE hf) [0, 1, 2] rfl rfl rfl rfl
    · have hf := zif_f hf c5
      refine z_if_eq_f (tgt := 47) dX5_firstWrong_17 (by decide) c5 ?_
      refine z_iload_n dX5_firstWrong_20 rfl ?_
      refine z_sipush (v := 200) dX5_firstWrong_21 (by decide) ?_
      by_cases c6 : 200 ≤ x2
      · have hf := zif_t hf c6
        refine z_icmp_ge_t (tgt := 47) dX5_firstWrong_24 (by decide) c6 ?_
        exact zW.sub (hex x1 x2 S _ hE hf) [0, 1, 2] rfl rfl rfl rfl
      · have hf := zif_f hf c6
        refine z_icmp_ge_f (tgt := 47) dX5_firstWrong_24 (by decide) c6 ?_
        refine z_aload_n dX5_firstWrong_27 rfl ?_
        obtain ⟨r8, S7, k9, hf⟩ := zb_some hf
        refine z_callVv dX5_firstWrong_28 tM_5_28 mt_5002 (Nat.le_of_ble_eq_true rfl) rfl rfl (z_recv hE dc_7 rfl) rfl (ia_oks_le hn1 rfl) (Nat.le_of_ble_eq_true rfl) (w_X5_readClause hn1 hn2 (d + 0) hE k9) (fun h hE => ?_)
        refine z_aload_n dX5_firstWrong_31 rfl ?_
        refine z_getC dX5_firstWrong_32 tF_5_15 hE dc_7 rfl rfl ?_
        refine z_bipush (v := 59) dX5_firstWrong_35 (by decide) ?_
        obtain ⟨r11, S10, k12, hf⟩ := zb_some hf
        refine z_callVi dX5_firstWrong_37 tM_5_31 mt_9008 (Nat.le_of_ble_eq_true rfl) rfl rfl (z_recv hE dc_1 rfl) rfl (ia_oks_le hn1 rfl) (Nat.le_of_ble_eq_true rfl) (w_X9_takes hn1 hn2 (d + 139) hE k12) (fun h hE => ?_)
        refine z_istore_n (lv' := [(1, .int r11), (0, .ref 7), (2, .int x2)]) dX5_firstWrong_40 (by decide) rfl ?_
        obtain ⟨y13, ey13, hf⟩ := zl_some hf
        refine z_iincY (v := 1) (y := y13) (lv' := [(2, .int y13), (1, .int r11), (0, .ref 7)]) dX5_firstWrong_41 rfl (by decide) (by decide) ey13 rfl ?_
        refine z_goto (tgt := 16) dX5_firstWrong_44 (by decide) ?_
        exact zW.sub (ih r11 y13 S10 _ hE hf) [2, 1, 0] rfl rfl rfl rfl
theorem w_X5_firstWrong {L : Nat} {xs : Nat → Int32} {fm : Bool} {h0 : Nat → va_E} {t : Nat × Nat × Nat} (hn1 : 64 ≤ t.1) (hn2 : t.1 ≤ 1000000) (d : Nat) {h : Nat → va_E} {S : zS} (hE : zE (zDc t.1) h0 S (h, t)) {R : Int32 × zS} (hf : f_X5_firstWrong  S = some R) : zC (ia_P0 L xs fm) (d + 142) 5001 [.ref 7] (h, t) (zQi (zDc t.1) h0 t R) := by
  refine zC_of mt_5001 nn_5001 (Nat.le_of_ble_eq_true rfl) ?_
  refine zW_lv (lv' := [(0, .ref 7)]) rfl ?_
  unfold f_X5_firstWrong at hf
  refine z_aload_n dX5_firstWrong_0 rfl ?_
  refine z_getC dX5_firstWrong_1 tF_5_15 hE dc_7 rfl rfl ?_
  obtain ⟨r2, S1, k3, hf⟩ := zb_some hf
  refine z_callVv dX5_firstWrong_4 tM_5_19 mt_9003 (Nat.le_of_ble_eq_true rfl) rfl rfl (z_recv hE dc_1 rfl) rfl (ia_oks_le hn1 rfl) (Nat.le_of_ble_eq_true rfl) (w_X9_rewind hn1 hn2 (d + 140) hE k3) (fun h hE => ?_)
  refine z_aload_n dX5_firstWrong_7 rfl ?_
  refine z_iconst (v := 0) dX5_firstWrong_8 (by decide) ?_
  obtain ⟨S4, eS4, hf⟩ := zl_some hf
  refine z_putI dX5_firstWrong_9 tF_5_24 hE dc_7 rfl rfl rfl rfl (fun h hE => ?_)
  rw [← eS4] at hE
  refine z_iconst (v := 1) dX5_firstWrong_12 (by decide) ?_
  refine z_istore_n (lv' := [(1, .int 1), (0, .ref 7)]) dX5_firstWrong_13 (by decide) rfl ?_
  refine z_iconst (v := 0) dX5_firstWrong_14 (by decide) ?_
  refine z_istore_n (lv' := [(2, .int 0), (1, .int 1), (0, .ref 7)]) dX5_firstWrong_15 (by decide) rfl ?_
  refine zW.sub (w_X5_firstWrong_L16 hn1 hn2 d (fun q15 q16 S14 h hE hf => ?_) zN 1 0 S4 h hE hf) [2, 1, 0] rfl rfl rfl rfl
  try dsimp only at hf
  refine z_aload_n dX5_firstWrong_47 rfl ?_
  refine z_getC dX5_firstWrong_48 tF_5_15 hE dc_7 rfl rfl ?_
  obtain ⟨r18, S17, k19, hf⟩ := zb_some hf
  refine z_callVv dX5_firstWrong_51 tM_5_35 mt_9009 (Nat.le_of_ble_eq_true rfl) rfl rfl (z_recv hE dc_1 rfl) rfl (ia_oks_le hn1 rfl) (Nat.le_of_ble_eq_true rfl) (w_X9_needsEnd hn1 hn2 (d + 139) hE k19) (fun h hE => ?_)
  refine z_aload_n dX5_firstWrong_54 rfl ?_
  refine z_getC dX5_firstWrong_55 tF_5_15 hE dc_7 rfl rfl ?_
  refine z_getI dX5_firstWrong_58 tF_5_38 hE dc_1 rfl rfl ?_
  have e_ := Option.some.inj hf
  subst e_
  exact z_ireturn dX5_firstWrong_61 rfl ⟨h, rfl, rfl, hE⟩
def f_X9_digit  (S : zS) : Option (Int32 × zS) :=
zb (f_X9_sign S) fun r2 S1 =>
zb (f_X9_isDigit r2 S1) fun r5 S4 =>
if ¬ r5 = 0 then
zl (sV S4 1 2 ((S4.1 1 2) + 1)) fun S8 =>
some (r2 - 48, S8)
else
zb (f_X9_fail S4) fun _ S9 =>
some (0, S9)
theorem w_X9_digit {L : Nat} {xs : Nat → Int32} {fm : Bool} {h0 : Nat → va_E} {t : Nat × Nat × Nat} (hn1 : 64 ≤ t.1) (hn2 : t.1 ≤ 1000000) (d : Nat) {h : Nat → va_E} {S : zS} (hE : zE (zDc t.1) h0 S (h, t)) {R : Int32 × zS} (hf : f_X9_digit  S = some R) : zC (ia_P0 L xs fm) (d + 2) 9011 [.ref 1] (h, t) (zQi (zDc t.1) h0 t R) := by
  refine zC_of mt_9011 nn_9011 (Nat.le_of_ble_eq_true rfl) ?_
  refine zW_lv (lv' := [(0, .ref 1)]) rfl ?_
  unfold f_X9_digit at hf
  refine z_aload_n dX9_digit_0 rfl ?_
  obtain ⟨r2, S1, k3, hf⟩ := zb_some hf
  refine z_callVi dX9_digit_1 tM_9_25 mt_9004 (Nat.le_of_ble_eq_true rfl) rfl rfl (z_recv hE dc_1 rfl) rfl (ia_oks_le hn1 rfl) (Nat.le_of_ble_eq_true rfl) (w_X9_sign hn1 hn2 (d + 0) hE k3) (fun h hE => ?_)
  refine z_istore_n (lv' := [(1, .int r2), (0, .ref 1)]) dX9_digit_4 (by decide) rfl ?_
  refine z_iload_n dX9_digit_5 rfl ?_
  obtain ⟨r5, S4, k6, hf⟩ := zb_some hf
  refine z_callSi dX9_digit_6 tM_9_32 (by decide) mt_9007 (Nat.le_of_ble_eq_true rfl) rfl rfl (ia_oks_le hn1 rfl) (Nat.le_of_ble_eq_true rfl) (w_X9_isDigit hn1 hn2 (d + 0) hE k6) (fun h hE => ?_)
  by_cases c7 : ¬ r5 = 0
  · have hf := zif_t hf c7
    refine z_if_ne_t (tgt := 18) dX9_digit_9 (by decide) c7 ?_
    refine z_aload_n dX9_digit_18 rfl ?_
    refine z_dup dX9_digit_19 rfl ?_
    refine z_getI dX9_digit_20 tF_9_22 hE dc_1 rfl rfl ?_
    refine z_iconst (v := 1) dX9_digit_23 (by decide) ?_
    refine z_iadd dX9_digit_24 ?_
    obtain ⟨S8, eS8, hf⟩ := zl_some hf
    refine z_putI dX9_digit_25 tF_9_22 hE dc_1 rfl rfl rfl rfl (fun h hE => ?_)
    rw [← eS8] at hE
    refine z_iload_n dX9_digit_28 rfl ?_
    refine z_bipush (v := 48) dX9_digit_29 (by decide) ?_
    refine z_isub dX9_digit_31 ?_
    have e_ := Option.some.inj hf
    subst e_
    exact z_ireturn dX9_digit_32 rfl ⟨h, rfl, rfl, hE⟩
  · have hf := zif_f hf c7
    refine z_if_ne_f (tgt := 18) dX9_digit_9 (by decide) c7 ?_
    refine z_aload_n dX9_digit_12 rfl ?_
    obtain ⟨r10, S9, k11, hf⟩ := zb_some hf
    refine z_callVv dX9_digit_13 tM_9_29 mt_9005 (Nat.le_of_ble_eq_true rfl) rfl rfl (z_recv hE dc_1 rfl) rfl (ia_oks_le hn1 rfl) (Nat.le_of_ble_eq_true rfl) (w_X9_fail hn1 hn2 (d + 0) hE k11) (fun h hE => ?_)
    refine z_iconst (v := 0) dX9_digit_16 (by decide) ?_
    have e_ := Option.some.inj hf
    subst e_
    exact z_ireturn dX9_digit_17 rfl ⟨h, rfl, rfl, hE⟩
def f_X6_readStep  (S : zS) : Option (Int32 × zS) :=
zb (f_X9_sign S) fun r2 S1 =>
zb (f_J0_indexOf_0f7a4_1000105 ((r2.toUInt32 % 65536).toInt32) S1) fun r5 S4 =>
zl (fun (u9 : Unit) =>
zl (sV S4 1 2 ((S4.1 1 2) + 1)) fun S10 =>
if r5 < 0 then
zb (f_X9_digit S10) fun r13 S12 =>
if ¬ r2 = 100 then
zb (f_X9_digit S12) fun r17 S16 =>
some ((100 + (10 * r13)) + r17, S16)
else
some (10 + r13, S12)
else
some (r5, S10)) fun J8 =>
if 0 ≤ r5 then
J8 ()
else
if r2 = 100 then
J8 ()
else
if r2 = 121 then
J8 ()
else
zb (f_X9_fail S4) fun _ S21 =>
some (0, S21)
theorem w_X6_readStep {L : Nat} {xs : Nat → Int32} {fm : Bool} {h0 : Nat → va_E} {t : Nat × Nat × Nat} (hn1 : 64 ≤ t.1) (hn2 : t.1 ≤ 1000000) (d : Nat) {h : Nat → va_E} {S : zS} (hE : zE (zDc t.1) h0 S (h, t)) {R : Int32 × zS} (hf : f_X6_readStep  S = some R) : zC (ia_P0 L xs fm) (d + 5) 6002 [.ref 9] (h, t) (zQi (zDc t.1) h0 t R) := by
  refine zC_of mt_6002 nn_6002 (Nat.le_of_ble_eq_true rfl) ?_
  refine zW_lv (lv' := [(0, .ref 9)]) rfl ?_
  unfold f_X6_readStep at hf
  refine z_aload_n dX6_readStep_0 rfl ?_
  refine z_getC dX6_readStep_1 tF_6_15 hE dc_9 rfl rfl ?_
  obtain ⟨r2, S1, k3, hf⟩ := zb_some hf
  refine z_callVi dX6_readStep_4 tM_6_42 mt_9004 (Nat.le_of_ble_eq_true rfl) rfl rfl (z_recv hE dc_1 rfl) rfl (ia_oks_le hn1 rfl) (Nat.le_of_ble_eq_true rfl) (w_X9_sign hn1 hn2 (d + 3) hE k3) (fun h hE => ?_)
  refine z_istore_n (lv' := [(1, .int r2), (0, .ref 9)]) dX6_readStep_7 (by decide) rfl ?_
  refine z_ldcS dX6_readStep_8 tK_6_45 ?_
  refine z_iload_n dX6_readStep_10 rfl ?_
  refine z_i2c dX6_readStep_11 ?_
  obtain ⟨r5, S4, k6, hf⟩ := zb_some hf
  refine z_callVi dX6_readStep_12 tM_6_47 mt_900000 (Nat.le_of_ble_eq_true rfl) rfl rfl (z_recvC (hp := (h, t)) (by decide) hn2 hc_1000105) rfl (ia_oks_le hn1 rfl) (Nat.le_of_ble_eq_true rfl) (w_J0_indexOf_0f7a4_1000105 hn1 hn2 (d + 0) hE k6) (fun h hE => ?_)
  refine z_istore_n (lv' := [(2, .int r5), (1, .int r2), (0, .ref 9)]) dX6_readStep_15 (by decide) rfl ?_
  refine z_iload_n dX6_readStep_16 rfl ?_
  obtain ⟨J8, eJ8, hf⟩ := zl_some hf
  have hJ8 : ∀ (u9 : Unit) (h : Nat → va_E), zE (zDc t.1) h0 S4 (h, t) → J8 u9 = some R → zW (ia_P0 L xs fm) ia_nx (d + 4) 6 false cX6_readStep 4 (some .int) 41 [(0, .ref 9), (1, .int r2), (2, .int r5)] [] (h, t) (zQi (zDc t.1) h0 t R) := by
    intro u9 h hE hf
    rw [eJ8] at hf
    refine z_aload_n dX6_readStep_41 rfl ?_
    refine z_getC dX6_readStep_42 tF_6_15 hE dc_9 rfl rfl ?_
    refine z_dup dX6_readStep_45 rfl ?_
    refine z_getI dX6_readStep_46 tF_6_56 hE dc_1 rfl rfl ?_
    refine z_iconst (v := 1) dX6_readStep_49 (by decide) ?_
    refine z_iadd dX6_readStep_50 ?_
    obtain ⟨S10, eS10, hf⟩ := zl_some hf
    refine z_putI dX6_readStep_51 tF_6_56 hE dc_1 rfl rfl rfl rfl (fun h hE => ?_)
    rw [← eS10] at hE
    refine z_iload_n dX6_readStep_54 rfl ?_
    by_cases c11 : r5 < 0
    · have hf := zif_t hf c11
      refine z_if_lt_t (tgt := 60) dX6_readStep_55 (by decide) c11 ?_
      refine z_aload_n dX6_readStep_60 rfl ?_
      refine z_getC dX6_readStep_61 tF_6_15 hE dc_9 rfl rfl ?_
      obtain ⟨r13, S12, k14, hf⟩ := zb_some hf
      refine z_callVi dX6_readStep_64 tM_6_59 mt_9011 (Nat.le_of_ble_eq_true rfl) rfl rfl (z_recv hE dc_1 rfl) rfl (ia_oks_le hn1 rfl) (Nat.le_of_ble_eq_true rfl) (w_X9_digit hn1 hn2 (d + 2) hE k14) (fun h hE => ?_)
      refine z_istore_n (lv' := [(3, .int r13), (0, .ref 9), (1, .int r2), (2, .int r5)]) dX6_readStep_67 (by decide) rfl ?_
      refine z_iload_n dX6_readStep_68 rfl ?_
      refine z_bipush (v := 100) dX6_readStep_69 (by decide) ?_
      by_cases c15 : ¬ r2 = 100
      · have hf := zif_t hf c15
        refine z_icmp_ne_t (tgt := 81) dX6_readStep_71 (by decide) c15 ?_
        refine z_bipush (v := 100) dX6_readStep_81 (by decide) ?_
        refine z_bipush (v := 10) dX6_readStep_83 (by decide) ?_
        refine z_iload_n dX6_readStep_85 rfl ?_
        refine z_imul dX6_readStep_86 ?_
        refine z_iadd dX6_readStep_87 ?_
        refine z_aload_n dX6_readStep_88 rfl ?_
        refine z_getC dX6_readStep_89 tF_6_15 hE dc_9 rfl rfl ?_
        obtain ⟨r17, S16, k18, hf⟩ := zb_some hf
        refine z_callVi dX6_readStep_92 tM_6_59 mt_9011 (Nat.le_of_ble_eq_true rfl) rfl rfl (z_recv hE dc_1 rfl) rfl (ia_oks_le hn1 rfl) (Nat.le_of_ble_eq_true rfl) (w_X9_digit hn1 hn2 (d + 2) hE k18) (fun h hE => ?_)
        refine z_iadd dX6_readStep_95 ?_
        have e_ := Option.some.inj hf
        subst e_
        exact z_ireturn dX6_readStep_96 rfl ⟨h, rfl, rfl, hE⟩
      · have hf := zif_f hf c15
        refine z_icmp_ne_f (tgt := 81) dX6_readStep_71 (by decide) c15 ?_
        refine z_bipush (v := 10) dX6_readStep_74 (by decide) ?_
        refine z_iload_n dX6_readStep_76 rfl ?_
        refine z_iadd dX6_readStep_77 ?_
        refine z_goto (tgt := 96) dX6_readStep_78 (by decide) ?_
        have e_ := Option.some.inj hf
        subst e_
        exact z_ireturn dX6_readStep_96 rfl ⟨h, rfl, rfl, hE⟩
    · have hf := zif_f hf c11
      refine z_if_lt_f (tgt := 60) dX6_readStep_55 (by decide) c11 ?_
      refine z_iload_n dX6_readStep_58 rfl ?_
      have e_ := Option.some.inj hf
      subst e_
      exact z_ireturn dX6_readStep_59 rfl ⟨h, rfl, rfl, hE⟩
  by_cases c7 : 0 ≤ r5
  · have hf := zif_t hf c7
    refine z_if_ge_t (tgt := 41) dX6_readStep_17 (by decide) c7 ?_
    exact zW.sub (hJ8 () _ hE hf) [2, 1, 0] rfl rfl rfl rfl
  · have hf := zif_f hf c7
    refine z_if_ge_f (tgt := 41) dX6_readStep_17 (by decide) c7 ?_
    refine z_iload_n dX6_readStep_20 rfl ?_
    refine z_bipush (v := 100) dX6_readStep_21 (by decide) ?_
    by_cases c19 : r2 = 100
    · have hf := zif_t hf c19
      refine z_icmp_eq_t (tgt := 41) dX6_readStep_23 (by decide) c19 ?_
      exact zW.sub (hJ8 () _ hE hf) [2, 1, 0] rfl rfl rfl rfl
    · have hf := zif_f hf c19
      refine z_icmp_eq_f (tgt := 41) dX6_readStep_23 (by decide) c19 ?_
      refine z_iload_n dX6_readStep_26 rfl ?_
      refine z_bipush (v := 121) dX6_readStep_27 (by decide) ?_
      by_cases c20 : r2 = 121
      · have hf := zif_t hf c20
        refine z_icmp_eq_t (tgt := 41) dX6_readStep_29 (by decide) c20 ?_
        exact zW.sub (hJ8 () _ hE hf) [2, 1, 0] rfl rfl rfl rfl
      · have hf := zif_f hf c20
        refine z_icmp_eq_f (tgt := 41) dX6_readStep_29 (by decide) c20 ?_
        refine z_aload_n dX6_readStep_32 rfl ?_
        refine z_getC dX6_readStep_33 tF_6_15 hE dc_9 rfl rfl ?_
        obtain ⟨r22, S21, k23, hf⟩ := zb_some hf
        refine z_callVv dX6_readStep_36 tM_6_53 mt_9005 (Nat.le_of_ble_eq_true rfl) rfl rfl (z_recv hE dc_1 rfl) rfl (ia_oks_le hn1 rfl) (Nat.le_of_ble_eq_true rfl) (w_X9_fail hn1 hn2 (d + 3) hE k23) (fun h hE => ?_)
        refine z_iconst (v := 0) dX6_readStep_39 (by decide) ?_
        have e_ := Option.some.inj hf
        subst e_
        exact z_ireturn dX6_readStep_40 rfl ⟨h, rfl, rfl, hE⟩
def f_X6_firstWrong_L16 (ex : Int32 → Int32 → zS → Option (Int32 × zS))  : Nat → Int32 → Int32 → zS → Option (Int32 × zS)
  | 0, _, _, _ => none
  | k + 1, x1, x2, S =>
    if x1 = 0 then
    ex x1 x2 S
    else
    if 16 ≤ x2 then
    ex x1 x2 S
    else
    zb (f_X6_readStep S) fun r8 S7 =>
    if ia_in x2 16 = true then
    zl (sV S7 10 (x2.toNatClampNeg) r8) fun S11 =>
    zl (sV S11 9 2 ((S11.1 9 2) + 1)) fun S12 =>
    zl (fun (S15 : zS) =>
    zl (x2 + 1) fun (y16 : Int32) =>
    f_X6_firstWrong_L16 ex k 0 y16 S15) fun J14 =>
    if 16 ≤ (S12.1 9 2) then
    J14 S12
    else
    zb (f_X9_takes 59 S12) fun r18 S17 =>
    if r18 = 0 then
    J14 S17
    else
    zl (x2 + 1) fun (y21 : Int32) =>
    f_X6_firstWrong_L16 ex k 1 y21 S17
    else none
def f_X6_firstWrong  (S : zS) : Option (Int32 × zS) :=
zb (f_X9_rewind S) fun _ S1 =>
zl (sV S1 9 2 0) fun S4 =>
f_X6_firstWrong_L16 (fun (q23 : Int32) (q24 : Int32) (S22 : zS) =>
zb (f_X9_needsEnd S22) fun _ S25 =>
some (S25.1 1 3, S25))  zN 1 0 S4
theorem w_X6_firstWrong_L16 {L : Nat} {xs : Nat → Int32} {fm : Bool} {h0 : Nat → va_E} {t : Nat × Nat × Nat} (hn1 : 64 ≤ t.1) (hn2 : t.1 ≤ 1000000) (d : Nat) {ex : Int32 → Int32 → zS → Option (Int32 × zS)} {R : Int32 × zS} (hex : ∀ (x1 : Int32) (x2 : Int32) (S : zS) (h : Nat → va_E), zE (zDc t.1) h0 S (h, t) → ex x1 x2 S = some R → zW (ia_P0 L xs fm) ia_nx (d + 5) 6 false cX6_firstWrong 3 (some .int) 79 [(0, .ref 9), (1, .int x1), (2, .int x2)] [] (h, t) (zQi (zDc t.1) h0 t R)) : ∀ (k : Nat) (x1 : Int32) (x2 : Int32) (S : zS) (h : Nat → va_E), zE (zDc t.1) h0 S (h, t) → f_X6_firstWrong_L16 ex  k x1 x2 S = some R → zW (ia_P0 L xs fm) ia_nx (d + 5) 6 false cX6_firstWrong 3 (some .int) 16 [(0, .ref 9), (1, .int x1), (2, .int x2)] [] (h, t) (zQi (zDc t.1) h0 t R) := by
  intro k
  induction k with
  | zero => intro x1 x2 S h hE hf; cases hf
  | succ k ih =>
    intro x1 x2 S h hE hf
    unfold f_X6_firstWrong_L16 at hf
    refine z_iload_n dX6_firstWrong_16 rfl ?_
    by_cases c5 : x1 = 0
    · have hf := zif_t hf c5
      refine z_if_eq_t (tgt := 79) dX6_firstWrong_17 (by decide) c5 ?_
      exact zW.sub (hex x1 x2 S _ hE hf) [0, 1, 2] rfl rfl rfl rfl
    · have hf := zif_f hf c5
      refine z_if_eq_f (tgt := 79) dX6_firstWrong_17 (by decide) c5 ?_
      refine z_iload_n dX6_firstWrong_20 rfl ?_
      refine z_bipush (v := 16) dX6_firstWrong_21 (by decide) ?_
      by_cases c6 : 16 ≤ x2
      · have hf := zif_t hf c6
        refine z_icmp_ge_t (tgt := 79) dX6_firstWrong_23 (by decide) c6 ?_
        exact zW.sub (hex x1 x2 S _ hE hf) [0, 1, 2] rfl rfl rfl rfl
      · have hf := zif_f hf c6
        refine z_icmp_ge_f (tgt := 79) dX6_firstWrong_23 (by decide) c6 ?_
        refine z_aload_n dX6_firstWrong_26 rfl ?_
        refine z_getC dX6_firstWrong_27 tF_6_9 hE dc_9 rfl rfl ?_
        refine z_iload_n dX6_firstWrong_30 rfl ?_
        refine z_aload_n dX6_firstWrong_31 rfl ?_
        obtain ⟨r8, S7, k9, hf⟩ := zb_some hf
        refine z_callVi dX6_firstWrong_32 tM_6_28 mt_6002 (Nat.le_of_ble_eq_true rfl) rfl rfl (z_recv hE dc_9 rfl) rfl (ia_oks_le hn1 rfl) (Nat.le_of_ble_eq_true rfl) (w_X6_readStep hn1 hn2 (d + 0) hE k9) (fun h hE => ?_)
        obtain ⟨b10, hf⟩ := zchk hf
        obtain ⟨S11, eS11, hf⟩ := zl_some hf
        refine z_iastoreL (i := x2.toNatClampNeg) dX6_firstWrong_35 hE dc_10 b10 rfl (fun h hE => ?_)
        rw [← eS11] at hE
        refine z_aload_n dX6_firstWrong_36 rfl ?_
        refine z_dup dX6_firstWrong_37 rfl ?_
        refine z_getI dX6_firstWrong_38 tF_6_24 hE dc_9 rfl rfl ?_
        refine z_iconst (v := 1) dX6_firstWrong_41 (by decide) ?_
        refine z_iadd dX6_firstWrong_42 ?_
        obtain ⟨S12, eS12, hf⟩ := zl_some hf
        refine z_putI dX6_firstWrong_43 tF_6_24 hE dc_9 rfl rfl rfl rfl (fun h hE => ?_)
        rw [← eS12] at hE
        refine z_aload_n dX6_firstWrong_46 rfl ?_
        refine z_getI dX6_firstWrong_47 tF_6_24 hE dc_9 rfl rfl ?_
        refine z_bipush (v := 16) dX6_firstWrong_50 (by decide) ?_
        obtain ⟨J14, eJ14, hf⟩ := zl_some hf
        have hJ14 : ∀ (S15 : zS) (h : Nat → va_E), zE (zDc t.1) h0 S15 (h, t) → J14 S15 = some R → zW (ia_P0 L xs fm) ia_nx (d + 5) 6 false cX6_firstWrong 3 (some .int) 71 [(0, .ref 9), (1, .int x1), (2, .int x2)] [] (h, t) (zQi (zDc t.1) h0 t R) := by
          intro S15 h hE hf
          rw [eJ14] at hf
          refine z_iconst (v := 0) dX6_firstWrong_71 (by decide) ?_
          refine z_istore_n (lv' := [(1, .int 0), (0, .ref 9), (2, .int x2)]) dX6_firstWrong_72 (by decide) rfl ?_
          obtain ⟨y16, ey16, hf⟩ := zl_some hf
          refine z_iincY (v := 1) (y := y16) (lv' := [(2, .int y16), (1, .int 0), (0, .ref 9)]) dX6_firstWrong_73 rfl (by decide) (by decide) ey16 rfl ?_
          refine z_goto (tgt := 16) dX6_firstWrong_76 (by decide) ?_
          exact zW.sub (ih 0 y16 S15 _ hE hf) [2, 1, 0] rfl rfl rfl rfl
        by_cases c13 : 16 ≤ (S12.1 9 2)
        · have hf := zif_t hf c13
          refine z_icmp_ge_t (tgt := 71) dX6_firstWrong_52 (by decide) c13 ?_
          exact zW.sub (hJ14 S12 _ hE hf) [0, 1, 2] rfl rfl rfl rfl
        · have hf := zif_f hf c13
          refine z_icmp_ge_f (tgt := 71) dX6_firstWrong_52 (by decide) c13 ?_
          refine z_aload_n dX6_firstWrong_55 rfl ?_
          refine z_getC dX6_firstWrong_56 tF_6_15 hE dc_9 rfl rfl ?_
          refine z_bipush (v := 59) dX6_firstWrong_59 (by decide) ?_
          obtain ⟨r18, S17, k19, hf⟩ := zb_some hf
          refine z_callVi dX6_firstWrong_61 tM_6_32 mt_9008 (Nat.le_of_ble_eq_true rfl) rfl rfl (z_recv hE dc_1 rfl) rfl (ia_oks_le hn1 rfl) (Nat.le_of_ble_eq_true rfl) (w_X9_takes hn1 hn2 (d + 3) hE k19) (fun h hE => ?_)
          by_cases c20 : r18 = 0
          · have hf := zif_t hf c20
            refine z_if_eq_t (tgt := 71) dX6_firstWrong_64 (by decide) c20 ?_
            exact zW.sub (hJ14 S17 _ hE hf) [0, 1, 2] rfl rfl rfl rfl
          · have hf := zif_f hf c20
            refine z_if_eq_f (tgt := 71) dX6_firstWrong_64 (by decide) c20 ?_
            refine z_iconst (v := 1) dX6_firstWrong_67 (by decide) ?_
            refine z_goto (tgt := 72) dX6_firstWrong_68 (by decide) ?_
            refine z_istore_n (lv' := [(1, .int 1), (0, .ref 9), (2, .int x2)]) dX6_firstWrong_72 (by decide) rfl ?_
            obtain ⟨y21, ey21, hf⟩ := zl_some hf
            refine z_iincY (v := 1) (y := y21) (lv' := [(2, .int y21), (1, .int 1), (0, .ref 9)]) dX6_firstWrong_73 rfl (by decide) (by decide) ey21 rfl ?_
            refine z_goto (tgt := 16) dX6_firstWrong_76 (by decide) ?_
            exact zW.sub (ih 1 y21 S17 _ hE hf) [2, 1, 0] rfl rfl rfl rfl
theorem w_X6_firstWrong {L : Nat} {xs : Nat → Int32} {fm : Bool} {h0 : Nat → va_E} {t : Nat × Nat × Nat} (hn1 : 64 ≤ t.1) (hn2 : t.1 ≤ 1000000) (d : Nat) {h : Nat → va_E} {S : zS} (hE : zE (zDc t.1) h0 S (h, t)) {R : Int32 × zS} (hf : f_X6_firstWrong  S = some R) : zC (ia_P0 L xs fm) (d + 6) 6001 [.ref 9] (h, t) (zQi (zDc t.1) h0 t R) := by
  refine zC_of mt_6001 nn_6001 (Nat.le_of_ble_eq_true rfl) ?_
  refine zW_lv (lv' := [(0, .ref 9)]) rfl ?_
  unfold f_X6_firstWrong at hf
  refine z_aload_n dX6_firstWrong_0 rfl ?_
  refine z_getC dX6_firstWrong_1 tF_6_15 hE dc_9 rfl rfl ?_
  obtain ⟨r2, S1, k3, hf⟩ := zb_some hf
  refine z_callVv dX6_firstWrong_4 tM_6_19 mt_9003 (Nat.le_of_ble_eq_true rfl) rfl rfl (z_recv hE dc_1 rfl) rfl (ia_oks_le hn1 rfl) (Nat.le_of_ble_eq_true rfl) (w_X9_rewind hn1 hn2 (d + 4) hE k3) (fun h hE => ?_)
  refine z_aload_n dX6_firstWrong_7 rfl ?_
  refine z_iconst (v := 0) dX6_firstWrong_8 (by decide) ?_
  obtain ⟨S4, eS4, hf⟩ := zl_some hf
  refine z_putI dX6_firstWrong_9 tF_6_24 hE dc_9 rfl rfl rfl rfl (fun h hE => ?_)
  rw [← eS4] at hE
  refine z_iconst (v := 1) dX6_firstWrong_12 (by decide) ?_
  refine z_istore_n (lv' := [(1, .int 1), (0, .ref 9)]) dX6_firstWrong_13 (by decide) rfl ?_
  refine z_iconst (v := 0) dX6_firstWrong_14 (by decide) ?_
  refine z_istore_n (lv' := [(2, .int 0), (1, .int 1), (0, .ref 9)]) dX6_firstWrong_15 (by decide) rfl ?_
  refine zW.sub (w_X6_firstWrong_L16 hn1 hn2 d (fun q23 q24 S22 h hE hf => ?_) zN 1 0 S4 h hE hf) [2, 1, 0] rfl rfl rfl rfl
  try dsimp only at hf
  refine z_aload_n dX6_firstWrong_79 rfl ?_
  refine z_getC dX6_firstWrong_80 tF_6_15 hE dc_9 rfl rfl ?_
  obtain ⟨r26, S25, k27, hf⟩ := zb_some hf
  refine z_callVv dX6_firstWrong_83 tM_6_36 mt_9009 (Nat.le_of_ble_eq_true rfl) rfl rfl (z_recv hE dc_1 rfl) rfl (ia_oks_le hn1 rfl) (Nat.le_of_ble_eq_true rfl) (w_X9_needsEnd hn1 hn2 (d + 3) hE k27) (fun h hE => ?_)
  refine z_aload_n dX6_firstWrong_86 rfl ?_
  refine z_getC dX6_firstWrong_87 tF_6_15 hE dc_9 rfl rfl ?_
  refine z_getI dX6_firstWrong_90 tF_6_39 hE dc_1 rfl rfl ?_
  have e_ := Option.some.inj hf
  subst e_
  exact z_ireturn dX6_firstWrong_93 rfl ⟨h, rfl, rfl, hE⟩
def f_X11_fault (v1 : Int32) (S : zS) : Option (Int32 × zS) :=
if v1.toInt < 0 ∨ 2 < v1.toInt then
some ((-2), S)
else
if v1 = 0 then
zb (f_X4_firstWrong S) fun r3 S2 =>
some (r3, S2)
else if v1 = 1 then
zb (f_X5_firstWrong S) fun r7 S6 =>
some (r7, S6)
else if v1 = 2 then
zb (f_X6_firstWrong S) fun r11 S10 =>
some (r11, S10)
else none
theorem w_X11_fault {L : Nat} {xs : Nat → Int32} {fm : Bool} {h0 : Nat → va_E} {t : Nat × Nat × Nat} (hn1 : 64 ≤ t.1) (hn2 : t.1 ≤ 1000000) (d : Nat) {h : Nat → va_E} {S : zS} (hE : zE (zDc t.1) h0 S (h, t)) {v1 : Int32} {R : Int32 × zS} (hf : f_X11_fault v1 S = some R) : zC (ia_P0 L xs fm) (d + 143) 11003 [.ref 0, .int v1] (h, t) (zQi (zDc t.1) h0 t R) := by
  refine zC_of mt_11003 nn_11003 (Nat.le_of_ble_eq_true rfl) ?_
  refine zW_lv (lv' := [(0, .ref 0), (1, .int v1)]) rfl ?_
  unfold f_X11_fault at hf
  refine z_iload_n dX11_fault_0 rfl ?_
  by_cases c1 : v1.toInt < 0 ∨ 2 < v1.toInt
  · have hf := zif_t hf c1
    refine z_tabO (tgt := 52) dX11_fault_1 c1 (by decide) ?_
    refine z_bipush (v := (-2)) dX11_fault_52 (by decide) ?_
    have e_ := Option.some.inj hf
    subst e_
    exact z_ireturn dX11_fault_54 rfl ⟨h, rfl, rfl, hE⟩
  · have hf := zif_f hf c1
    by_cases c5 : v1 = 0
    · have hf := zif_t hf c5
      refine z_tabI (off := 27) (tgt := 28) dX11_fault_1 c1 (by rw [c5]; rfl) (by decide) ?_
      refine z_aload_n dX11_fault_28 rfl ?_
      refine z_getC dX11_fault_29 tF_11_21 hE dc_0 rfl rfl ?_
      obtain ⟨r3, S2, k4, hf⟩ := zb_some hf
      refine z_callVi dX11_fault_32 tM_11_117 mt_4001 (Nat.le_of_ble_eq_true rfl) rfl rfl (z_recv hE dc_3 rfl) rfl (ia_oks_le hn1 rfl) (Nat.le_of_ble_eq_true rfl) (w_X4_firstWrong hn1 hn2 (d + 135) hE k4) (fun h hE => ?_)
      have e_ := Option.some.inj hf
      subst e_
      exact z_ireturn dX11_fault_35 rfl ⟨h, rfl, rfl, hE⟩
    · have hf := zif_f hf c5
      by_cases c9 : v1 = 1
      · have hf := zif_t hf c9
        refine z_tabI (off := 35) (tgt := 36) dX11_fault_1 c1 (by rw [c9]; rfl) (by decide) ?_
        refine z_aload_n dX11_fault_36 rfl ?_
        refine z_getC dX11_fault_37 tF_11_28 hE dc_0 rfl rfl ?_
        obtain ⟨r7, S6, k8, hf⟩ := zb_some hf
        refine z_callVi dX11_fault_40 tM_11_121 mt_5001 (Nat.le_of_ble_eq_true rfl) rfl rfl (z_recv hE dc_7 rfl) rfl (ia_oks_le hn1 rfl) (Nat.le_of_ble_eq_true rfl) (w_X5_firstWrong hn1 hn2 (d + 0) hE k8) (fun h hE => ?_)
        have e_ := Option.some.inj hf
        subst e_
        exact z_ireturn dX11_fault_43 rfl ⟨h, rfl, rfl, hE⟩
      · have hf := zif_f hf c9
        by_cases c13 : v1 = 2
        · have hf := zif_t hf c13
          refine z_tabI (off := 43) (tgt := 44) dX11_fault_1 c1 (by rw [c13]; rfl) (by decide) ?_
          refine z_aload_n dX11_fault_44 rfl ?_
          refine z_getC dX11_fault_45 tF_11_35 hE dc_0 rfl rfl ?_
          obtain ⟨r11, S10, k12, hf⟩ := zb_some hf
          refine z_callVi dX11_fault_48 tM_11_122 mt_6001 (Nat.le_of_ble_eq_true rfl) rfl rfl (z_recv hE dc_9 rfl) rfl (ia_oks_le hn1 rfl) (Nat.le_of_ble_eq_true rfl) (w_X6_firstWrong hn1 hn2 (d + 136) hE k12) (fun h hE => ?_)
          have e_ := Option.some.inj hf
          subst e_
          exact z_ireturn dX11_fault_51 rfl ⟨h, rfl, rfl, hE⟩
        · have hf := zif_f hf c13
          cases hf
def f_X10_take_4  (S : zS) : Option (Unit × zS) :=
if 0 ≤ (0 : Int32).toInt ∧ 0 ≤ (0 : Int32).toInt ∧ 0 ≤ (3 : Int32).toInt ∧ (0 : Int32).toInt + (3 : Int32).toInt ≤ ((3 : Nat) : Int) ∧ (0 : Int32).toInt + (3 : Int32).toInt ≤ ((3 : Nat) : Int) then
zl (sC S 5 ((0 : Int32).toNatClampNeg) 12 ((0 : Int32).toNatClampNeg) ((3 : Int32).toNatClampNeg)) fun S2 =>
if 0 ≤ (0 : Int32).toInt ∧ 0 ≤ (0 : Int32).toInt ∧ 0 ≤ (62 : Int32).toInt ∧ (0 : Int32).toInt + (62 : Int32).toInt ≤ ((62 : Nat) : Int) ∧ (0 : Int32).toInt + (62 : Int32).toInt ≤ ((62 : Nat) : Int) then
zl (sC S2 6 ((0 : Int32).toNatClampNeg) 13 ((0 : Int32).toNatClampNeg) ((62 : Int32).toNatClampNeg)) fun S4 =>
some ((), S4)
else none
else none
theorem w_X10_take_4 {L : Nat} {xs : Nat → Int32} {fm : Bool} {h0 : Nat → va_E} {t : Nat × Nat × Nat} (hn1 : 64 ≤ t.1) (hn2 : t.1 ≤ 1000000) (d : Nat) {h : Nat → va_E} {S : zS} (hE : zE (zDc t.1) h0 S (h, t)) {R : Unit × zS} (hf : f_X10_take_4  S = some R) : zC (ia_P0 L xs fm) (d + 1) 10003 [.ref 11, .ref 4] (h, t) (zQv (zDc t.1) h0 t R) := by
  refine zC_of mt_10003 nn_10003 (Nat.le_of_ble_eq_true rfl) ?_
  refine zW_lv (lv' := [(0, .ref 11), (1, .ref 4)]) rfl ?_
  unfold f_X10_take_4 at hf
  refine z_aload_n dX10_take_0 rfl ?_
  refine z_getC dX10_take_1 tF_10_9 hE dc_4 rfl rfl ?_
  refine z_iconst (v := 0) dX10_take_4 (by decide) ?_
  refine z_aload_n dX10_take_5 rfl ?_
  refine z_getC dX10_take_6 tF_10_9 hE dc_11 rfl rfl ?_
  refine z_iconst (v := 0) dX10_take_9 (by decide) ?_
  refine z_aload_n dX10_take_10 rfl ?_
  refine z_getC dX10_take_11 tF_10_9 hE dc_11 rfl rfl ?_
  refine z_alen (v := 3) dX10_take_14 hE dc_12 (by decide) (by decide) ?_
  obtain ⟨b1, hf⟩ := zchk hf
  obtain ⟨S2, eS2, hf⟩ := zl_some hf
  refine z_cpy dX10_take_15 tM_10_24 hE dc_5 dc_12 (Nat.le_of_ble_eq_true rfl) b1 (fun h hE => ?_)
  rw [← eS2] at hE
  refine z_aload_n dX10_take_18 rfl ?_
  refine z_getC dX10_take_19 tF_10_15 hE dc_4 rfl rfl ?_
  refine z_iconst (v := 0) dX10_take_22 (by decide) ?_
  refine z_aload_n dX10_take_23 rfl ?_
  refine z_getC dX10_take_24 tF_10_15 hE dc_11 rfl rfl ?_
  refine z_iconst (v := 0) dX10_take_27 (by decide) ?_
  refine z_aload_n dX10_take_28 rfl ?_
  refine z_getC dX10_take_29 tF_10_15 hE dc_11 rfl rfl ?_
  refine z_alen (v := 62) dX10_take_32 hE dc_13 (by decide) (by decide) ?_
  obtain ⟨b3, hf⟩ := zchk hf
  obtain ⟨S4, eS4, hf⟩ := zl_some hf
  refine z_cpy dX10_take_33 tM_10_24 hE dc_6 dc_13 (Nat.le_of_ble_eq_true rfl) b3 (fun h hE => ?_)
  rw [← eS4] at hE
  have e_ := Option.some.inj hf
  subst e_
  exact z_vreturn dX10_take_36 rfl ⟨h, rfl, rfl, hE⟩
def f_X10_item (v1 : Int32) (v2 : Int32) (v3 : Int32) (S : zS) : Option (Int32 × zS) :=
zb (f_X10_cellOf v1 v2 v3 S) fun r2 S1 =>
if ia_in r2 62 = true then
some (S1.1 13 r2.toNatClampNeg, S1)
else none
theorem w_X10_item {L : Nat} {xs : Nat → Int32} {fm : Bool} {h0 : Nat → va_E} {t : Nat × Nat × Nat} (hn1 : 64 ≤ t.1) (hn2 : t.1 ≤ 1000000) (d : Nat) {h : Nat → va_E} {S : zS} (hE : zE (zDc t.1) h0 S (h, t)) {v1 : Int32} {v2 : Int32} {v3 : Int32} {R : Int32 × zS} (hf : f_X10_item v1 v2 v3 S = some R) : zC (ia_P0 L xs fm) (d + 2) 10004 [.ref 11, .int v1, .int v2, .int v3] (h, t) (zQi (zDc t.1) h0 t R) := by
  refine zC_of mt_10004 nn_10004 (Nat.le_of_ble_eq_true rfl) ?_
  refine zW_lv (lv' := [(0, .ref 11), (1, .int v1), (2, .int v2), (3, .int v3)]) rfl ?_
  unfold f_X10_item at hf
  refine z_aload_n dX10_item_0 rfl ?_
  refine z_getC dX10_item_1 tF_10_15 hE dc_11 rfl rfl ?_
  refine z_iload_n dX10_item_4 rfl ?_
  refine z_iload_n dX10_item_5 rfl ?_
  refine z_iload_n dX10_item_6 rfl ?_
  obtain ⟨r2, S1, k3, hf⟩ := zb_some hf
  refine z_callSi dX10_item_7 tM_10_36 (by decide) mt_10002 (Nat.le_of_ble_eq_true rfl) rfl rfl (ia_oks_le hn1 rfl) (Nat.le_of_ble_eq_true rfl) (w_X10_cellOf hn1 hn2 (d + 0) hE k3) (fun h hE => ?_)
  obtain ⟨b4, hf⟩ := zchk hf
  refine z_ialoadL dX10_item_10 hE dc_13 b4 rfl ?_
  have e_ := Option.some.inj hf
  subst e_
  exact z_ireturn dX10_item_11 rfl ⟨h, rfl, rfl, hE⟩
def f_X7_setHand (o : Nat) (v1 : Int32) (v2 : Int32) (v3 : Int32) (S : zS) : Option (Unit × zS) :=
if ia_in ((28 + (v1 * 2)) + v2) 66 = true then
zl (sV S (o + 1) (((28 + (v1 * 2)) + v2).toNatClampNeg) v3) fun S2 =>
some ((), S2)
else none
theorem w_X7_setHand {L : Nat} {xs : Nat → Int32} {fm : Bool} {h0 : Nat → va_E} {t : Nat × Nat × Nat} (hn1 : 64 ≤ t.1) (hn2 : t.1 ≤ 1000000) (d : Nat) {o : Nat} (ho_o : zSc t.1 o) {h : Nat → va_E} {S : zS} (hE : zE (zDc t.1) h0 S (h, t)) {v1 : Int32} {v2 : Int32} {v3 : Int32} {R : Unit × zS} (hf : f_X7_setHand o v1 v2 v3 S = some R) : zC (ia_P0 L xs fm) (d + 1) 7002 [.ref o, .int v1, .int v2, .int v3] (h, t) (zQv (zDc t.1) h0 t R) := by
  refine zC_of mt_7002 nn_7002 (Nat.le_of_ble_eq_true rfl) ?_
  refine zW_lv (lv' := [(0, .ref o), (1, .int v1), (2, .int v2), (3, .int v3)]) rfl ?_
  unfold f_X7_setHand at hf
  refine z_aload_n dX7_setHand_0 rfl ?_
  refine z_getC dX7_setHand_1 tF_7_9 hE ho_o.1 rfl rfl ?_
  refine z_bipush (v := 28) dX7_setHand_4 (by decide) ?_
  refine z_iload_n dX7_setHand_6 rfl ?_
  refine z_iconst (v := 2) dX7_setHand_7 (by decide) ?_
  refine z_imul dX7_setHand_8 ?_
  refine z_iadd dX7_setHand_9 ?_
  refine z_iload_n dX7_setHand_10 rfl ?_
  refine z_iadd dX7_setHand_11 ?_
  refine z_iload_n dX7_setHand_12 rfl ?_
  obtain ⟨b1, hf⟩ := zchk hf
  obtain ⟨S2, eS2, hf⟩ := zl_some hf
  refine z_iastoreL (i := ((28 + (v1 * 2)) + v2).toNatClampNeg) dX7_setHand_13 hE ho_o.2.1 b1 rfl (fun h hE => ?_)
  rw [← eS2] at hE
  have e_ := Option.some.inj hf
  subst e_
  exact z_vreturn dX7_setHand_14 rfl ⟨h, rfl, rfl, hE⟩
def f_X7_restart_L25 (o : Nat) (ex : Int32 → Int32 → zS → Option (Unit × zS))  : Nat → Int32 → Int32 → zS → Option (Unit × zS)
  | 0, _, _, _ => none
  | k + 1, x1, x2, S =>
    if 2 < x2 then
    zl (x1 + 1) fun (y6 : Int32) =>
    if (S.1 12 0) ≤ y6 then
    ex y6 x2 S
    else
    f_X7_restart_L25 o ex k y6 0 S
    else
    zb (f_X10_item 0 x1 x2 S) fun r9 S8 =>
    if ia_in ((x1 * 7) + x2) 66 = true then
    zl (sV S8 (o + 1) (((x1 * 7) + x2).toNatClampNeg) r9) fun S12 =>
    zl (x2 + 1) fun (y13 : Int32) =>
    f_X7_restart_L25 o ex k x1 y13 S12
    else none
def f_X7_restart_L10 (o : Nat) (ex : Int32 → zS → Option (Unit × zS))  : Nat → Int32 → zS → Option (Unit × zS)
  | 0, _, _ => none
  | k + 1, x1, S =>
    if (S.1 12 0) ≤ x1 then
    ex x1 S
    else
    f_X7_restart_L25 o (fun (q15 : Int32) (q16 : Int32) (S14 : zS) =>
    ex q15 S14)  zN x1 0 S
def f_X7_restart_L65 (o : Nat) (ex : Int32 → zS → Option (Unit × zS))  : Nat → Int32 → zS → Option (Unit × zS)
  | 0, _, _ => none
  | k + 1, x1, S =>
    if (S.1 12 1) ≤ x1 then
    ex x1 S
    else
    zb (f_X10_item 1 x1 0 S) fun r21 S20 =>
    zb (f_X7_setHand o x1 0 r21 S20) fun _ S23 =>
    zb (f_X10_item 1 x1 2 S23) fun r27 S26 =>
    zb (f_X7_setHand o x1 1 r27 S26) fun _ S29 =>
    zl (x1 + 1) fun (y32 : Int32) =>
    f_X7_restart_L65 o ex k y32 S29
def f_X7_restart (o : Nat) (S : zS) : Option (Unit × zS) :=
zb (f_J7_fill_53178 (o + 1) 66 0 S) fun _ S1 =>
f_X7_restart_L10 o (fun (q18 : Int32) (S17 : zS) =>
f_X7_restart_L65 o (fun (q34 : Int32) (S33 : zS) =>
some ((), S33))  zN 0 S17)  zN 0 S1
theorem w_X7_restart_L25 {L : Nat} {xs : Nat → Int32} {fm : Bool} {h0 : Nat → va_E} {t : Nat × Nat × Nat} (hn1 : 64 ≤ t.1) (hn2 : t.1 ≤ 1000000) (d : Nat) {o : Nat} (ho_o : zSc t.1 o) {ex : Int32 → Int32 → zS → Option (Unit × zS)} {R : Unit × zS} (hex : ∀ (x1 : Int32) (x2 : Int32) (S : zS) (h : Nat → va_E), zE (zDc t.1) h0 S (h, t) → ex x1 x2 S = some R → zW (ia_P0 L xs fm) ia_nx (d + 2) 7 false cX7_restart 3 (none) 63 [(0, .ref o), (1, .int x1), (2, .int x2)] [] (h, t) (zQv (zDc t.1) h0 t R)) : ∀ (k : Nat) (x1 : Int32) (x2 : Int32) (S : zS) (h : Nat → va_E), zE (zDc t.1) h0 S (h, t) → f_X7_restart_L25 o ex  k x1 x2 S = some R → zW (ia_P0 L xs fm) ia_nx (d + 2) 7 false cX7_restart 3 (none) 25 [(0, .ref o), (1, .int x1), (2, .int x2)] [] (h, t) (zQv (zDc t.1) h0 t R) := by
  intro k
  induction k with
  | zero => intro x1 x2 S h hE hf; cases hf
  | succ k ih =>
    intro x1 x2 S h hE hf
    unfold f_X7_restart_L25 at hf
    refine z_iload_n dX7_restart_25 rfl ?_
    refine z_iconst (v := 2) dX7_restart_26 (by decide) ?_
    by_cases c5 : 2 < x2
    · have hf := zif_t hf c5
      refine z_icmp_gt_t (tgt := 57) dX7_restart_27 (by decide) c5 ?_
      obtain ⟨y6, ey6, hf⟩ := zl_some hf
      refine z_iincY (v := 1) (y := y6) (lv' := [(1, .int y6), (0, .ref o), (2, .int x2)]) dX7_restart_57 rfl (by decide) (by decide) ey6 rfl ?_
      refine z_goto (tgt := 10) dX7_restart_60 (by decide) ?_
      refine z_iload_n dX7_restart_10 rfl ?_
      refine z_aload_n dX7_restart_11 rfl ?_
      refine z_getC dX7_restart_12 tF_7_15 hE ho_o.1 rfl rfl ?_
      refine z_getC dX7_restart_15 tF_7_29 hE dc_11 rfl rfl ?_
      refine z_iconst (v := 0) dX7_restart_18 (by decide) ?_
      refine z_ialoadL (i := 0) dX7_restart_19 hE dc_12 (by decide) (by decide) ?_
      by_cases c7 : (S.1 12 0) ≤ y6
      · have hf := zif_t hf c7
        refine z_icmp_ge_t (tgt := 63) dX7_restart_20 (by decide) c7 ?_
        exact zW.sub (hex y6 x2 S _ hE hf) [1, 0, 2] rfl rfl rfl rfl
      · have hf := zif_f hf c7
        refine z_icmp_ge_f (tgt := 63) dX7_restart_20 (by decide) c7 ?_
        refine z_iconst (v := 0) dX7_restart_23 (by decide) ?_
        refine z_istore_n (lv' := [(2, .int 0), (1, .int y6), (0, .ref o)]) dX7_restart_24 (by decide) rfl ?_
        exact zW.sub (ih y6 0 S _ hE hf) [2, 1, 0] rfl rfl rfl rfl
    · have hf := zif_f hf c5
      refine z_icmp_gt_f (tgt := 57) dX7_restart_27 (by decide) c5 ?_
      refine z_aload_n dX7_restart_30 rfl ?_
      refine z_getC dX7_restart_31 tF_7_9 hE ho_o.1 rfl rfl ?_
      refine z_iload_n dX7_restart_34 rfl ?_
      refine z_bipush (v := 7) dX7_restart_35 (by decide) ?_
      refine z_imul dX7_restart_37 ?_
      refine z_iload_n dX7_restart_38 rfl ?_
      refine z_iadd dX7_restart_39 ?_
      refine z_aload_n dX7_restart_40 rfl ?_
      refine z_getC dX7_restart_41 tF_7_15 hE ho_o.1 rfl rfl ?_
      refine z_iconst (v := 0) dX7_restart_44 (by decide) ?_
      refine z_iload_n dX7_restart_45 rfl ?_
      refine z_iload_n dX7_restart_46 rfl ?_
      obtain ⟨r9, S8, k10, hf⟩ := zb_some hf
      refine z_callVi dX7_restart_47 tM_7_34 mt_10004 (Nat.le_of_ble_eq_true rfl) rfl rfl (z_recv hE dc_11 rfl) rfl (by have q0 : o < t.1 := Nat.lt_of_lt_of_le ho_o.2.2 (Nat.le_trans (by decide) hn1); have q1 : o + 1 < t.1 := Nat.lt_of_lt_of_le (Nat.succ_lt_succ ho_o.2.2) (Nat.le_trans (by decide) hn1); simp [ia_oks, ia_okv, q0, q1]) (Nat.le_of_ble_eq_true rfl) (w_X10_item hn1 hn2 (d + 0) hE k10) (fun h hE => ?_)
      obtain ⟨b11, hf⟩ := zchk hf
      obtain ⟨S12, eS12, hf⟩ := zl_some hf
      refine z_iastoreL (i := ((x1 * 7) + x2).toNatClampNeg) dX7_restart_50 hE ho_o.2.1 b11 rfl (fun h hE => ?_)
      rw [← eS12] at hE
      obtain ⟨y13, ey13, hf⟩ := zl_some hf
      refine z_iincY (v := 1) (y := y13) (lv' := [(2, .int y13), (0, .ref o), (1, .int x1)]) dX7_restart_51 rfl (by decide) (by decide) ey13 rfl ?_
      refine z_goto (tgt := 25) dX7_restart_54 (by decide) ?_
      exact zW.sub (ih x1 y13 S12 _ hE hf) [1, 2, 0] rfl rfl rfl rfl
theorem w_X7_restart_L10 {L : Nat} {xs : Nat → Int32} {fm : Bool} {h0 : Nat → va_E} {t : Nat × Nat × Nat} (hn1 : 64 ≤ t.1) (hn2 : t.1 ≤ 1000000) (d : Nat) {o : Nat} (ho_o : zSc t.1 o) {ex : Int32 → zS → Option (Unit × zS)} {R : Unit × zS} (hex : ∀ (x1 : Int32) (S : zS) (h : Nat → va_E), zE (zDc t.1) h0 S (h, t) → ex x1 S = some R → zW (ia_P0 L xs fm) ia_nx (d + 2) 7 false cX7_restart 3 (none) 63 [(0, .ref o), (1, .int x1)] [] (h, t) (zQv (zDc t.1) h0 t R)) : ∀ (k : Nat) (x1 : Int32) (S : zS) (h : Nat → va_E), zE (zDc t.1) h0 S (h, t) → f_X7_restart_L10 o ex  k x1 S = some R → zW (ia_P0 L xs fm) ia_nx (d + 2) 7 false cX7_restart 3 (none) 10 [(0, .ref o), (1, .int x1)] [] (h, t) (zQv (zDc t.1) h0 t R) := by
  intro k
  induction k with
  | zero => intro x1 S h hE hf; cases hf
  | succ k ih =>
    intro x1 S h hE hf
    unfold f_X7_restart_L10 at hf
    refine z_iload_n dX7_restart_10 rfl ?_
    refine z_aload_n dX7_restart_11 rfl ?_
    refine z_getC dX7_restart_12 tF_7_15 hE ho_o.1 rfl rfl ?_
    refine z_getC dX7_restart_15 tF_7_29 hE dc_11 rfl rfl ?_
    refine z_iconst (v := 0) dX7_restart_18 (by decide) ?_
    refine z_ialoadL (i := 0) dX7_restart_19 hE dc_12 (by decide) (by decide) ?_
    by_cases c4 : (S.1 12 0) ≤ x1
    · have hf := zif_t hf c4
      refine z_icmp_ge_t (tgt := 63) dX7_restart_20 (by decide) c4 ?_
      exact zW.sub (hex x1 S _ hE hf) [0, 1] rfl rfl rfl rfl
    · have hf := zif_f hf c4
      refine z_icmp_ge_f (tgt := 63) dX7_restart_20 (by decide) c4 ?_
      refine z_iconst (v := 0) dX7_restart_23 (by decide) ?_
      refine z_istore_n (lv' := [(2, .int 0), (0, .ref o), (1, .int x1)]) dX7_restart_24 (by decide) rfl ?_
      refine zW.sub (w_X7_restart_L25 hn1 hn2 d ho_o (fun q15 q16 S14 h hE hf => ?_) zN x1 0 S h hE hf) [1, 2, 0] rfl rfl rfl rfl
      try dsimp only at hf
      exact zW.sub (hex q15 S14 _ hE hf) [0, 1] rfl rfl rfl rfl
theorem w_X7_restart_L65 {L : Nat} {xs : Nat → Int32} {fm : Bool} {h0 : Nat → va_E} {t : Nat × Nat × Nat} (hn1 : 64 ≤ t.1) (hn2 : t.1 ≤ 1000000) (d : Nat) {o : Nat} (ho_o : zSc t.1 o) {ex : Int32 → zS → Option (Unit × zS)} {R : Unit × zS} (hex : ∀ (x1 : Int32) (S : zS) (h : Nat → va_E), zE (zDc t.1) h0 S (h, t) → ex x1 S = some R → zW (ia_P0 L xs fm) ia_nx (d + 2) 7 false cX7_restart 3 (none) 116 [(0, .ref o), (1, .int x1)] [] (h, t) (zQv (zDc t.1) h0 t R)) : ∀ (k : Nat) (x1 : Int32) (S : zS) (h : Nat → va_E), zE (zDc t.1) h0 S (h, t) → f_X7_restart_L65 o ex  k x1 S = some R → zW (ia_P0 L xs fm) ia_nx (d + 2) 7 false cX7_restart 3 (none) 65 [(0, .ref o), (1, .int x1)] [] (h, t) (zQv (zDc t.1) h0 t R) := by
  intro k
  induction k with
  | zero => intro x1 S h hE hf; cases hf
  | succ k ih =>
    intro x1 S h hE hf
    unfold f_X7_restart_L65 at hf
    refine z_iload_n dX7_restart_65 rfl ?_
    refine z_aload_n dX7_restart_66 rfl ?_
    refine z_getC dX7_restart_67 tF_7_15 hE ho_o.1 rfl rfl ?_
    refine z_getC dX7_restart_70 tF_7_29 hE dc_11 rfl rfl ?_
    refine z_iconst (v := 1) dX7_restart_73 (by decide) ?_
    refine z_ialoadL (i := 1) dX7_restart_74 hE dc_12 (by decide) (by decide) ?_
    by_cases c19 : (S.1 12 1) ≤ x1
    · have hf := zif_t hf c19
      refine z_icmp_ge_t (tgt := 116) dX7_restart_75 (by decide) c19 ?_
      exact zW.sub (hex x1 S _ hE hf) [0, 1] rfl rfl rfl rfl
    · have hf := zif_f hf c19
      refine z_icmp_ge_f (tgt := 116) dX7_restart_75 (by decide) c19 ?_
      refine z_aload_n dX7_restart_78 rfl ?_
      refine z_iload_n dX7_restart_79 rfl ?_
      refine z_iconst (v := 0) dX7_restart_80 (by decide) ?_
      refine z_aload_n dX7_restart_81 rfl ?_
      refine z_getC dX7_restart_82 tF_7_15 hE ho_o.1 rfl rfl ?_
      refine z_iconst (v := 1) dX7_restart_85 (by decide) ?_
      refine z_iload_n dX7_restart_86 rfl ?_
      refine z_iconst (v := 0) dX7_restart_87 (by decide) ?_
      obtain ⟨r21, S20, k22, hf⟩ := zb_some hf
      refine z_callVi dX7_restart_88 tM_7_34 mt_10004 (Nat.le_of_ble_eq_true rfl) rfl rfl (z_recv hE dc_11 rfl) rfl (by have q0 : o < t.1 := Nat.lt_of_lt_of_le ho_o.2.2 (Nat.le_trans (by decide) hn1); simp [ia_oks, ia_okv, q0]) (Nat.le_of_ble_eq_true rfl) (w_X10_item hn1 hn2 (d + 0) hE k22) (fun h hE => ?_)
      obtain ⟨r24, S23, k25, hf⟩ := zb_some hf
      refine z_callVv dX7_restart_91 tM_7_38 mt_7002 (Nat.le_of_ble_eq_true rfl) rfl rfl (z_recv hE ho_o.1 rfl) rfl (by have q0 : o < t.1 := Nat.lt_of_lt_of_le ho_o.2.2 (Nat.le_trans (by decide) hn1); simp [ia_oks, ia_okv, q0]) (Nat.le_of_ble_eq_true rfl) (w_X7_setHand hn1 hn2 (d + 1) ho_o hE k25) (fun h hE => ?_)
      refine z_aload_n dX7_restart_94 rfl ?_
      refine z_iload_n dX7_restart_95 rfl ?_
      refine z_iconst (v := 1) dX7_restart_96 (by decide) ?_
      refine z_aload_n dX7_restart_97 rfl ?_
      refine z_getC dX7_restart_98 tF_7_15 hE ho_o.1 rfl rfl ?_
      refine z_iconst (v := 1) dX7_restart_101 (by decide) ?_
      refine z_iload_n dX7_restart_102 rfl ?_
      refine z_iconst (v := 2) dX7_restart_103 (by decide) ?_
      obtain ⟨r27, S26, k28, hf⟩ := zb_some hf
      refine z_callVi dX7_restart_104 tM_7_34 mt_10004 (Nat.le_of_ble_eq_true rfl) rfl rfl (z_recv hE dc_11 rfl) rfl (by have q0 : o < t.1 := Nat.lt_of_lt_of_le ho_o.2.2 (Nat.le_trans (by decide) hn1); simp [ia_oks, ia_okv, q0]) (Nat.le_of_ble_eq_true rfl) (w_X10_item hn1 hn2 (d + 0) hE k28) (fun h hE => ?_)
      obtain ⟨r30, S29, k31, hf⟩ := zb_some hf
      refine z_callVv dX7_restart_107 tM_7_38 mt_7002 (Nat.le_of_ble_eq_true rfl) rfl rfl (z_recv hE ho_o.1 rfl) rfl (by have q0 : o < t.1 := Nat.lt_of_lt_of_le ho_o.2.2 (Nat.le_trans (by decide) hn1); simp [ia_oks, ia_okv, q0]) (Nat.le_of_ble_eq_true rfl) (w_X7_setHand hn1 hn2 (d + 1) ho_o hE k31) (fun h hE => ?_)
      obtain ⟨y32, ey32, hf⟩ := zl_some hf
      refine z_iincY (v := 1) (y := y32) (lv' := [(1, .int y32), (0, .ref o)]) dX7_restart_110 rfl (by decide) (by decide) ey32 rfl ?_
      refine z_goto (tgt := 65) dX7_restart_113 (by decide) ?_
      exact zW.sub (ih y32 S29 _ hE hf) [1, 0] rfl rfl rfl rfl
theorem w_X7_restart {L : Nat} {xs : Nat → Int32} {fm : Bool} {h0 : Nat → va_E} {t : Nat × Nat × Nat} (hn1 : 64 ≤ t.1) (hn2 : t.1 ≤ 1000000) (d : Nat) {o : Nat} (ho_o : zSc t.1 o) {h : Nat → va_E} {S : zS} (hE : zE (zDc t.1) h0 S (h, t)) {R : Unit × zS} (hf : f_X7_restart o S = some R) : zC (ia_P0 L xs fm) (d + 3) 7001 [.ref o] (h, t) (zQv (zDc t.1) h0 t R) := by
  refine zC_of mt_7001 nn_7001 (Nat.le_of_ble_eq_true rfl) ?_
  refine zW_lv (lv' := [(0, .ref o)]) rfl ?_
  unfold f_X7_restart at hf
  refine z_aload_n dX7_restart_0 rfl ?_
  refine z_getC dX7_restart_1 tF_7_9 hE ho_o.1 rfl rfl ?_
  refine z_iconst (v := 0) dX7_restart_4 (by decide) ?_
  obtain ⟨r2, S1, k3, hf⟩ := zb_some hf
  refine z_callSv dX7_restart_5 tM_7_23 (by decide) mt_904000 (Nat.le_of_ble_eq_true rfl) rfl rfl (by have q0 : o < t.1 := Nat.lt_of_lt_of_le ho_o.2.2 (Nat.le_trans (by decide) hn1); simp [ia_oks, ia_okv, q0]) (Nat.le_of_ble_eq_true rfl) (w_J7_fill_53178 hn1 hn2 (d + 1) ho_o.2.1 hE k3) (fun h hE => ?_)
  refine z_iconst (v := 0) dX7_restart_8 (by decide) ?_
  refine z_istore_n (lv' := [(1, .int 0), (0, .ref o)]) dX7_restart_9 (by decide) rfl ?_
  refine zW.sub (w_X7_restart_L10 hn1 hn2 d ho_o (fun q18 S17 h hE hf => ?_) zN 0 S1 h hE hf) [1, 0] rfl rfl rfl rfl
  try dsimp only at hf
  refine z_iconst (v := 0) dX7_restart_63 (by decide) ?_
  refine z_istore_n (lv' := [(1, .int 0), (0, .ref o)]) dX7_restart_64 (by decide) rfl ?_
  refine zW.sub (w_X7_restart_L65 hn1 hn2 d ho_o (fun q34 S33 h hE hf => ?_) zN 0 S17 h hE hf) [1, 0] rfl rfl rfl rfl
  try dsimp only at hf
  have e_ := Option.some.inj hf
  subst e_
  exact z_vreturn dX7_restart_116 rfl ⟨h, rfl, rfl, hE⟩
def f_X1_clear  (S : zS) : Option (Unit × zS) :=
zl (sV S 21 6 0) fun S1 =>
zl (sV S1 21 8 0) fun S2 =>
zl (sV S2 21 4 0) fun S3 =>
some ((), S3)
theorem w_X1_clear {L : Nat} {xs : Nat → Int32} {fm : Bool} {h0 : Nat → va_E} {t : Nat × Nat × Nat} (hn1 : 64 ≤ t.1) (hn2 : t.1 ≤ 1000000) (d : Nat) {h : Nat → va_E} {S : zS} (hE : zE (zDc t.1) h0 S (h, t)) {R : Unit × zS} (hf : f_X1_clear  S = some R) : zC (ia_P0 L xs fm) (d + 1) 1001 [.ref 21] (h, t) (zQv (zDc t.1) h0 t R) := by
  refine zC_of mt_1001 nn_1001 (Nat.le_of_ble_eq_true rfl) ?_
  refine zW_lv (lv' := [(0, .ref 21)]) rfl ?_
  unfold f_X1_clear at hf
  refine z_aload_n dX1_clear_0 rfl ?_
  refine z_iconst (v := 0) dX1_clear_1 (by decide) ?_
  obtain ⟨S1, eS1, hf⟩ := zl_some hf
  refine z_putI dX1_clear_2 tF_1_24 hE dc_21 rfl rfl rfl rfl (fun h hE => ?_)
  rw [← eS1] at hE
  refine z_aload_n dX1_clear_5 rfl ?_
  refine z_iconst (v := 0) dX1_clear_6 (by decide) ?_
  obtain ⟨S2, eS2, hf⟩ := zl_some hf
  refine z_putI dX1_clear_7 tF_1_28 hE dc_21 rfl rfl rfl rfl (fun h hE => ?_)
  rw [← eS2] at hE
  refine z_aload_n dX1_clear_10 rfl ?_
  refine z_iconst (v := 0) dX1_clear_11 (by decide) ?_
  obtain ⟨S3, eS3, hf⟩ := zl_some hf
  refine z_putI dX1_clear_12 tF_1_31 hE dc_21 rfl rfl (show ia_fit .boolean (.int 0) = true from by decide) rfl (fun h hE => ?_)
  rw [← eS3] at hE
  have e_ := Option.some.inj hf
  subst e_
  exact z_vreturn dX1_clear_15 rfl ⟨h, rfl, rfl, hE⟩
def f_X3_clear  (S : zS) : Option (Unit × zS) :=
zl (sV S 37 1 0) fun S1 =>
zl (sV S1 37 2 0) fun S2 =>
some ((), S2)
theorem w_X3_clear {L : Nat} {xs : Nat → Int32} {fm : Bool} {h0 : Nat → va_E} {t : Nat × Nat × Nat} (hn1 : 64 ≤ t.1) (hn2 : t.1 ≤ 1000000) (d : Nat) {h : Nat → va_E} {S : zS} (hE : zE (zDc t.1) h0 S (h, t)) {R : Unit × zS} (hf : f_X3_clear  S = some R) : zC (ia_P0 L xs fm) (d + 1) 3001 [.ref 37] (h, t) (zQv (zDc t.1) h0 t R) := by
  refine zC_of mt_3001 nn_3001 (Nat.le_of_ble_eq_true rfl) ?_
  refine zW_lv (lv' := [(0, .ref 37)]) rfl ?_
  unfold f_X3_clear at hf
  refine z_aload_n dX3_clear_0 rfl ?_
  refine z_iconst (v := 0) dX3_clear_1 (by decide) ?_
  obtain ⟨S1, eS1, hf⟩ := zl_some hf
  refine z_putI dX3_clear_2 tF_3_15 hE dc_37 rfl rfl rfl rfl (fun h hE => ?_)
  rw [← eS1] at hE
  refine z_aload_n dX3_clear_5 rfl ?_
  refine z_iconst (v := 0) dX3_clear_6 (by decide) ?_
  obtain ⟨S2, eS2, hf⟩ := zl_some hf
  refine z_putI dX3_clear_7 tF_3_19 hE dc_37 rfl rfl (show ia_fit .boolean (.int 0) = true from by decide) rfl (fun h hE => ?_)
  rw [← eS2] at hE
  have e_ := Option.some.inj hf
  subst e_
  exact z_vreturn dX3_clear_10 rfl ⟨h, rfl, rfl, hE⟩
def f_X11_keepKitchen  (S : zS) : Option (Int32 × zS) :=
zb (f_X10_take_4 S) fun _ S1 =>
zl (sV S1 1 1 0) fun S4 =>
zl (sK S4 14 2 (.null)) fun S5 =>
zl (sV S5 0 16 (-1)) fun S6 =>
zb (f_X7_restart 17 S6) fun _ S7 =>
zb (f_X1_clear S7) fun _ S10 =>
zb (f_X3_clear S10) fun _ S13 =>
zl (sV S13 0 17 1) fun S16 =>
some (S16.1 12 0, S16)
theorem w_X11_keepKitchen {L : Nat} {xs : Nat → Int32} {fm : Bool} {h0 : Nat → va_E} {t : Nat × Nat × Nat} (hn1 : 64 ≤ t.1) (hn2 : t.1 ≤ 1000000) (d : Nat) {h : Nat → va_E} {S : zS} (hE : zE (zDc t.1) h0 S (h, t)) {R : Int32 × zS} (hf : f_X11_keepKitchen  S = some R) : zC (ia_P0 L xs fm) (d + 4) 11005 [.ref 0] (h, t) (zQi (zDc t.1) h0 t R) := by
  refine zC_of mt_11005 nn_11005 (Nat.le_of_ble_eq_true rfl) ?_
  refine zW_lv (lv' := [(0, .ref 0)]) rfl ?_
  unfold f_X11_keepKitchen at hf
  refine z_aload_n dX11_keepKitchen_0 rfl ?_
  refine z_getC dX11_keepKitchen_1 tF_11_42 hE dc_0 rfl rfl ?_
  refine z_aload_n dX11_keepKitchen_4 rfl ?_
  refine z_getC dX11_keepKitchen_5 tF_11_21 hE dc_0 rfl rfl ?_
  refine z_getC dX11_keepKitchen_8 tF_11_132 hE dc_3 rfl rfl ?_
  obtain ⟨r2, S1, k3, hf⟩ := zb_some hf
  refine z_callVv dX11_keepKitchen_11 tM_11_135 mt_10003 (Nat.le_of_ble_eq_true rfl) rfl rfl (z_recv hE dc_11 rfl) rfl (ia_oks_le hn1 rfl) (Nat.le_of_ble_eq_true rfl) (w_X10_take_4 hn1 hn2 (d + 2) hE k3) (fun h hE => ?_)
  refine z_aload_n dX11_keepKitchen_14 rfl ?_
  refine z_getC dX11_keepKitchen_15 tF_11_10 hE dc_0 rfl rfl ?_
  refine z_iconst (v := 0) dX11_keepKitchen_18 (by decide) ?_
  obtain ⟨S4, eS4, hf⟩ := zl_some hf
  refine z_putI dX11_keepKitchen_19 tF_11_110 hE dc_1 rfl rfl rfl rfl (fun h hE => ?_)
  rw [← eS4] at hE
  refine z_aload_n dX11_keepKitchen_22 rfl ?_
  refine z_getC dX11_keepKitchen_23 tF_11_49 hE dc_0 rfl rfl ?_
  refine z_null dX11_keepKitchen_26 ?_
  obtain ⟨S5, eS5, hf⟩ := zl_some hf
  refine z_putK dX11_keepKitchen_27 tF_11_139 hE dc_14 rfl rfl rfl rfl (fun h hE => ?_)
  rw [← eS5] at hE
  refine z_aload_n dX11_keepKitchen_30 rfl ?_
  refine z_iconst (v := (-1)) dX11_keepKitchen_31 (by decide) ?_
  obtain ⟨S6, eS6, hf⟩ := zl_some hf
  refine z_putI dX11_keepKitchen_32 tF_11_102 hE dc_0 rfl rfl rfl rfl (fun h hE => ?_)
  rw [← eS6] at hE
  refine z_aload_n dX11_keepKitchen_35 rfl ?_
  refine z_getC dX11_keepKitchen_36 tF_11_58 hE dc_0 rfl rfl ?_
  obtain ⟨r8, S7, k9, hf⟩ := zb_some hf
  refine z_callVv dX11_keepKitchen_39 tM_11_142 mt_7001 (Nat.le_of_ble_eq_true rfl) rfl rfl (z_recv hE dc_17 rfl) rfl (ia_oks_le hn1 rfl) (Nat.le_of_ble_eq_true rfl) (w_X7_restart hn1 hn2 (d + 0) sc_17 hE k9) (fun h hE => ?_)
  refine z_aload_n dX11_keepKitchen_42 rfl ?_
  refine z_getC dX11_keepKitchen_43 tF_11_68 hE dc_0 rfl rfl ?_
  obtain ⟨r11, S10, k12, hf⟩ := zb_some hf
  refine z_callVv dX11_keepKitchen_46 tM_11_145 mt_1001 (Nat.le_of_ble_eq_true rfl) rfl rfl (z_recv hE dc_21 rfl) rfl (ia_oks_le hn1 rfl) (Nat.le_of_ble_eq_true rfl) (w_X1_clear hn1 hn2 (d + 2) hE k12) (fun h hE => ?_)
  refine z_aload_n dX11_keepKitchen_49 rfl ?_
  refine z_getC dX11_keepKitchen_50 tF_11_89 hE dc_0 rfl rfl ?_
  obtain ⟨r14, S13, k15, hf⟩ := zb_some hf
  refine z_callVv dX11_keepKitchen_53 tM_11_148 mt_3001 (Nat.le_of_ble_eq_true rfl) rfl rfl (z_recv hE dc_37 rfl) rfl (ia_oks_le hn1 rfl) (Nat.le_of_ble_eq_true rfl) (w_X3_clear hn1 hn2 (d + 2) hE k15) (fun h hE => ?_)
  refine z_aload_n dX11_keepKitchen_56 rfl ?_
  refine z_iconst (v := 1) dX11_keepKitchen_57 (by decide) ?_
  obtain ⟨S16, eS16, hf⟩ := zl_some hf
  refine z_putI dX11_keepKitchen_58 tF_11_149 hE dc_0 rfl rfl (show ia_fit .boolean (.int 1) = true from by decide) rfl (fun h hE => ?_)
  rw [← eS16] at hE
  refine z_aload_n dX11_keepKitchen_61 rfl ?_
  refine z_getC dX11_keepKitchen_62 tF_11_42 hE dc_0 rfl rfl ?_
  refine z_getC dX11_keepKitchen_65 tF_11_153 hE dc_11 rfl rfl ?_
  refine z_iconst (v := 0) dX11_keepKitchen_68 (by decide) ?_
  refine z_ialoadL (i := 0) dX11_keepKitchen_69 hE dc_12 (by decide) (by decide) ?_
  have e_ := Option.some.inj hf
  subst e_
  exact z_ireturn dX11_keepKitchen_70 rfl ⟨h, rfl, rfl, hE⟩
def f_X11_isJar (v1 : Int32) (S : zS) : Option (Int32 × zS) :=
if v1 < 0 then
some (0, S)
else
if (S.1 12 0) ≤ v1 then
some (0, S)
else
some (1, S)
theorem w_X11_isJar {L : Nat} {xs : Nat → Int32} {fm : Bool} {h0 : Nat → va_E} {t : Nat × Nat × Nat} (hn1 : 64 ≤ t.1) (hn2 : t.1 ≤ 1000000) (d : Nat) {h : Nat → va_E} {S : zS} (hE : zE (zDc t.1) h0 S (h, t)) {v1 : Int32} {R : Int32 × zS} (hf : f_X11_isJar v1 S = some R) : zC (ia_P0 L xs fm) (d + 1) 11016 [.ref 0, .int v1] (h, t) (zQi (zDc t.1) h0 t R) := by
  refine zC_of mt_11016 nn_11016 (Nat.le_of_ble_eq_true rfl) ?_
  refine zW_lv (lv' := [(0, .ref 0), (1, .int v1)]) rfl ?_
  unfold f_X11_isJar at hf
  refine z_iload_n dX11_isJar_0 rfl ?_
  by_cases c1 : v1 < 0
  · have hf := zif_t hf c1
    refine z_if_lt_t (tgt := 21) dX11_isJar_1 (by decide) c1 ?_
    refine z_iconst (v := 0) dX11_isJar_21 (by decide) ?_
    have e_ := Option.some.inj hf
    subst e_
    exact z_zreturn dX11_isJar_22 rfl (by decide) ⟨h, rfl, rfl, hE⟩
  · have hf := zif_f hf c1
    refine z_if_lt_f (tgt := 21) dX11_isJar_1 (by decide) c1 ?_
    refine z_iload_n dX11_isJar_4 rfl ?_
    refine z_aload_n dX11_isJar_5 rfl ?_
    refine z_getC dX11_isJar_6 tF_11_42 hE dc_0 rfl rfl ?_
    refine z_getC dX11_isJar_9 tF_11_153 hE dc_11 rfl rfl ?_
    refine z_iconst (v := 0) dX11_isJar_12 (by decide) ?_
    refine z_ialoadL (i := 0) dX11_isJar_13 hE dc_12 (by decide) (by decide) ?_
    by_cases c2 : (S.1 12 0) ≤ v1
    · have hf := zif_t hf c2
      refine z_icmp_ge_t (tgt := 21) dX11_isJar_14 (by decide) c2 ?_
      refine z_iconst (v := 0) dX11_isJar_21 (by decide) ?_
      have e_ := Option.some.inj hf
      subst e_
      exact z_zreturn dX11_isJar_22 rfl (by decide) ⟨h, rfl, rfl, hE⟩
    · have hf := zif_f hf c2
      refine z_icmp_ge_f (tgt := 21) dX11_isJar_14 (by decide) c2 ?_
      refine z_iconst (v := 1) dX11_isJar_17 (by decide) ?_
      refine z_goto (tgt := 22) dX11_isJar_18 (by decide) ?_
      have e_ := Option.some.inj hf
      subst e_
      exact z_zreturn dX11_isJar_22 rfl (by decide) ⟨h, rfl, rfl, hE⟩
def f_X7_jarCell (o : Nat) (v1 : Int32) (v2 : Int32) (S : zS) : Option (Int32 × zS) :=
if ia_in ((v1 * 7) + v2) 66 = true then
some (S.1 (o + 1) ((v1 * 7) + v2).toNatClampNeg, S)
else none
theorem w_X7_jarCell {L : Nat} {xs : Nat → Int32} {fm : Bool} {h0 : Nat → va_E} {t : Nat × Nat × Nat} (hn1 : 64 ≤ t.1) (hn2 : t.1 ≤ 1000000) (d : Nat) {o : Nat} (ho_o : zSc t.1 o) {h : Nat → va_E} {S : zS} (hE : zE (zDc t.1) h0 S (h, t)) {v1 : Int32} {v2 : Int32} {R : Int32 × zS} (hf : f_X7_jarCell o v1 v2 S = some R) : zC (ia_P0 L xs fm) (d + 1) 7007 [.ref o, .int v1, .int v2] (h, t) (zQi (zDc t.1) h0 t R) := by
  refine zC_of mt_7007 nn_7007 (Nat.le_of_ble_eq_true rfl) ?_
  refine zW_lv (lv' := [(0, .ref o), (1, .int v1), (2, .int v2)]) rfl ?_
  unfold f_X7_jarCell at hf
  refine z_aload_n dX7_jarCell_0 rfl ?_
  refine z_getC dX7_jarCell_1 tF_7_9 hE ho_o.1 rfl rfl ?_
  refine z_iload_n dX7_jarCell_4 rfl ?_
  refine z_bipush (v := 7) dX7_jarCell_5 (by decide) ?_
  refine z_imul dX7_jarCell_7 ?_
  refine z_iload_n dX7_jarCell_8 rfl ?_
  refine z_iadd dX7_jarCell_9 ?_
  obtain ⟨b1, hf⟩ := zchk hf
  refine z_ialoadL dX7_jarCell_10 hE ho_o.2.1 b1 rfl ?_
  have e_ := Option.some.inj hf
  subst e_
  exact z_ireturn dX7_jarCell_11 rfl ⟨h, rfl, rfl, hE⟩
def f_X7_hold (o : Nat) (v1 : Int32) (S : zS) : Option (Int32 × zS) :=
zb (f_X7_jarCell o v1 0 S) fun r2 S1 =>
zb (f_X7_jarCell o v1 1 S1) fun r5 S4 =>
zb (f_X7_jarCell o v1 2 S4) fun r8 S7 =>
some ((r2 + r5) + (2 * r8), S7)
theorem w_X7_hold {L : Nat} {xs : Nat → Int32} {fm : Bool} {h0 : Nat → va_E} {t : Nat × Nat × Nat} (hn1 : 64 ≤ t.1) (hn2 : t.1 ≤ 1000000) (d : Nat) {o : Nat} (ho_o : zSc t.1 o) {h : Nat → va_E} {S : zS} (hE : zE (zDc t.1) h0 S (h, t)) {v1 : Int32} {R : Int32 × zS} (hf : f_X7_hold o v1 S = some R) : zC (ia_P0 L xs fm) (d + 2) 7009 [.ref o, .int v1] (h, t) (zQi (zDc t.1) h0 t R) := by
  refine zC_of mt_7009 nn_7009 (Nat.le_of_ble_eq_true rfl) ?_
  refine zW_lv (lv' := [(0, .ref o), (1, .int v1)]) rfl ?_
  unfold f_X7_hold at hf
  refine z_aload_n dX7_hold_0 rfl ?_
  refine z_iload_n dX7_hold_1 rfl ?_
  refine z_iconst (v := 0) dX7_hold_2 (by decide) ?_
  obtain ⟨r2, S1, k3, hf⟩ := zb_some hf
  refine z_callVi dX7_hold_3 tM_7_68 mt_7007 (Nat.le_of_ble_eq_true rfl) rfl rfl (z_recv hE ho_o.1 rfl) rfl (by have q0 : o < t.1 := Nat.lt_of_lt_of_le ho_o.2.2 (Nat.le_trans (by decide) hn1); simp [ia_oks, ia_okv, q0]) (Nat.le_of_ble_eq_true rfl) (w_X7_jarCell hn1 hn2 (d + 0) ho_o hE k3) (fun h hE => ?_)
  refine z_aload_n dX7_hold_6 rfl ?_
  refine z_iload_n dX7_hold_7 rfl ?_
  refine z_iconst (v := 1) dX7_hold_8 (by decide) ?_
  obtain ⟨r5, S4, k6, hf⟩ := zb_some hf
  refine z_callVi dX7_hold_9 tM_7_68 mt_7007 (Nat.le_of_ble_eq_true rfl) rfl rfl (z_recv hE ho_o.1 rfl) rfl (by have q0 : o < t.1 := Nat.lt_of_lt_of_le ho_o.2.2 (Nat.le_trans (by decide) hn1); simp [ia_oks, ia_okv, q0]) (Nat.le_of_ble_eq_true rfl) (w_X7_jarCell hn1 hn2 (d + 0) ho_o hE k6) (fun h hE => ?_)
  refine z_iadd dX7_hold_12 ?_
  refine z_iconst (v := 2) dX7_hold_13 (by decide) ?_
  refine z_aload_n dX7_hold_14 rfl ?_
  refine z_iload_n dX7_hold_15 rfl ?_
  refine z_iconst (v := 2) dX7_hold_16 (by decide) ?_
  obtain ⟨r8, S7, k9, hf⟩ := zb_some hf
  refine z_callVi dX7_hold_17 tM_7_68 mt_7007 (Nat.le_of_ble_eq_true rfl) rfl rfl (z_recv hE ho_o.1 rfl) rfl (by have q0 : o < t.1 := Nat.lt_of_lt_of_le ho_o.2.2 (Nat.le_trans (by decide) hn1); simp [ia_oks, ia_okv, q0]) (Nat.le_of_ble_eq_true rfl) (w_X7_jarCell hn1 hn2 (d + 0) ho_o hE k9) (fun h hE => ?_)
  refine z_imul dX7_hold_20 ?_
  refine z_iadd dX7_hold_21 ?_
  have e_ := Option.some.inj hf
  subst e_
  exact z_ireturn dX7_hold_22 rfl ⟨h, rfl, rfl, hE⟩
def f_X11_jar (v1 : Int32) (v2 : Int32) (S : zS) : Option (Int32 × zS) :=
zb (f_X11_isJar v1 S) fun r2 S1 =>
zl (fun (u6 : Unit) =>
none) fun J5 =>
if r2 = 0 then
J5 ()
else
if v2 < 0 then
J5 ()
else
if v2 ≤ 10 then
if ¬ v2 = 10 then
if 2 < v2 then
if 5 < v2 then
zb (f_X7_jarCell 17 v1 (v2 - 3) S1) fun r13 S12 =>
some (r13, S12)
else
zb (f_X10_item 0 v1 v2 S1) fun r16 S15 =>
some (r16, S15)
else
zb (f_X7_jarCell 17 v1 v2 S1) fun r19 S18 =>
some (r19, S18)
else
zb (f_X7_hold 17 v1 S1) fun r22 S21 =>
some (r22, S21)
else
J5 ()
theorem w_X11_jar {L : Nat} {xs : Nat → Int32} {fm : Bool} {h0 : Nat → va_E} {t : Nat × Nat × Nat} (hn1 : 64 ≤ t.1) (hn2 : t.1 ≤ 1000000) (d : Nat) {h : Nat → va_E} {S : zS} (hE : zE (zDc t.1) h0 S (h, t)) {v1 : Int32} {v2 : Int32} {R : Int32 × zS} (hf : f_X11_jar v1 v2 S = some R) : zC (ia_P0 L xs fm) (d + 3) 11058 [.ref 0, .int v1, .int v2] (h, t) (zQi (zDc t.1) h0 t R) := by
  refine zC_of mt_11058 nn_11058 (Nat.le_of_ble_eq_true rfl) ?_
  refine zW_lv (lv' := [(0, .ref 0), (1, .int v1), (2, .int v2)]) rfl ?_
  unfold f_X11_jar at hf
  refine z_aload_n dX11_jar_0 rfl ?_
  refine z_iload_n dX11_jar_1 rfl ?_
  obtain ⟨r2, S1, k3, hf⟩ := zb_some hf
  refine z_callVi dX11_jar_2 tM_11_178 mt_11016 (Nat.le_of_ble_eq_true rfl) rfl rfl (z_recv hE dc_0 rfl) rfl (ia_oks_le hn1 rfl) (Nat.le_of_ble_eq_true rfl) (w_X11_isJar hn1 hn2 (d + 1) hE k3) (fun h hE => ?_)
  obtain ⟨J5, eJ5, hf⟩ := zl_some hf
  have hJ5 : ∀ (u6 : Unit) (h : Nat → va_E), zE (zDc t.1) h0 S1 (h, t) → J5 u6 = some R → zW (ia_P0 L xs fm) ia_nx (d + 2) 11 false cX11_jar 3 (some .int) 18 [(0, .ref 0), (1, .int v1), (2, .int v2)] [] (h, t) (zQi (zDc t.1) h0 t R) := by
    intro u6 h hE hf
    rw [eJ5] at hf
    cases hf
  by_cases c4 : r2 = 0
  · have hf := zif_t hf c4
    refine z_if_eq_t (tgt := 18) dX11_jar_5 (by decide) c4 ?_
    exact zW.sub (hJ5 () _ hE hf) [0, 1, 2] rfl rfl rfl rfl
  · have hf := zif_f hf c4
    refine z_if_eq_f (tgt := 18) dX11_jar_5 (by decide) c4 ?_
    refine z_iload_n dX11_jar_8 rfl ?_
    by_cases c7 : v2 < 0
    · have hf := zif_t hf c7
      refine z_if_lt_t (tgt := 18) dX11_jar_9 (by decide) c7 ?_
      exact zW.sub (hJ5 () _ hE hf) [0, 1, 2] rfl rfl rfl rfl
    · have hf := zif_f hf c7
      refine z_if_lt_f (tgt := 18) dX11_jar_9 (by decide) c7 ?_
      refine z_iload_n dX11_jar_12 rfl ?_
      refine z_bipush (v := 10) dX11_jar_13 (by decide) ?_
      by_cases c8 : v2 ≤ 10
      · have hf := zif_t hf c8
        refine z_icmp_le_t (tgt := 26) dX11_jar_15 (by decide) c8 ?_
        refine z_iload_n dX11_jar_26 rfl ?_
        refine z_bipush (v := 10) dX11_jar_27 (by decide) ?_
        by_cases c9 : ¬ v2 = 10
        · have hf := zif_t hf c9
          refine z_icmp_ne_t (tgt := 41) dX11_jar_29 (by decide) c9 ?_
          refine z_iload_n dX11_jar_41 rfl ?_
          refine z_iconst (v := 2) dX11_jar_42 (by decide) ?_
          by_cases c10 : 2 < v2
          · have hf := zif_t hf c10
            refine z_icmp_gt_t (tgt := 56) dX11_jar_43 (by decide) c10 ?_
            refine z_iload_n dX11_jar_56 rfl ?_
            refine z_iconst (v := 5) dX11_jar_57 (by decide) ?_
            by_cases c11 : 5 < v2
            · have hf := zif_t hf c11
              refine z_icmp_gt_t (tgt := 74) dX11_jar_58 (by decide) c11 ?_
              refine z_aload_n dX11_jar_74 rfl ?_
              refine z_getC dX11_jar_75 tF_11_58 hE dc_0 rfl rfl ?_
              refine z_iload_n dX11_jar_78 rfl ?_
              refine z_iload_n dX11_jar_79 rfl ?_
              refine z_iconst (v := 3) dX11_jar_80 (by decide) ?_
              refine z_isub dX11_jar_81 ?_
              obtain ⟨r13, S12, k14, hf⟩ := zb_some hf
              refine z_callVi dX11_jar_82 tM_11_188 mt_7007 (Nat.le_of_ble_eq_true rfl) rfl rfl (z_recv hE dc_17 rfl) rfl (ia_oks_le hn1 rfl) (Nat.le_of_ble_eq_true rfl) (w_X7_jarCell hn1 hn2 (d + 1) sc_17 hE k14) (fun h hE => ?_)
              have e_ := Option.some.inj hf
              subst e_
              exact z_ireturn dX11_jar_85 rfl ⟨h, rfl, rfl, hE⟩
            · have hf := zif_f hf c11
              refine z_icmp_gt_f (tgt := 74) dX11_jar_58 (by decide) c11 ?_
              refine z_aload_n dX11_jar_61 rfl ?_
              refine z_getC dX11_jar_62 tF_11_42 hE dc_0 rfl rfl ?_
              refine z_iconst (v := 0) dX11_jar_65 (by decide) ?_
              refine z_iload_n dX11_jar_66 rfl ?_
              refine z_iload_n dX11_jar_67 rfl ?_
              obtain ⟨r16, S15, k17, hf⟩ := zb_some hf
              refine z_callVi dX11_jar_68 tM_11_192 mt_10004 (Nat.le_of_ble_eq_true rfl) rfl rfl (z_recv hE dc_11 rfl) rfl (ia_oks_le hn1 rfl) (Nat.le_of_ble_eq_true rfl) (w_X10_item hn1 hn2 (d + 0) hE k17) (fun h hE => ?_)
              refine z_goto (tgt := 85) dX11_jar_71 (by decide) ?_
              have e_ := Option.some.inj hf
              subst e_
              exact z_ireturn dX11_jar_85 rfl ⟨h, rfl, rfl, hE⟩
          · have hf := zif_f hf c10
            refine z_icmp_gt_f (tgt := 56) dX11_jar_43 (by decide) c10 ?_
            refine z_aload_n dX11_jar_46 rfl ?_
            refine z_getC dX11_jar_47 tF_11_58 hE dc_0 rfl rfl ?_
            refine z_iload_n dX11_jar_50 rfl ?_
            refine z_iload_n dX11_jar_51 rfl ?_
            obtain ⟨r19, S18, k20, hf⟩ := zb_some hf
            refine z_callVi dX11_jar_52 tM_11_188 mt_7007 (Nat.le_of_ble_eq_true rfl) rfl rfl (z_recv hE dc_17 rfl) rfl (ia_oks_le hn1 rfl) (Nat.le_of_ble_eq_true rfl) (w_X7_jarCell hn1 hn2 (d + 1) sc_17 hE k20) (fun h hE => ?_)
            have e_ := Option.some.inj hf
            subst e_
            exact z_ireturn dX11_jar_55 rfl ⟨h, rfl, rfl, hE⟩
        · have hf := zif_f hf c9
          refine z_icmp_ne_f (tgt := 41) dX11_jar_29 (by decide) c9 ?_
          refine z_aload_n dX11_jar_32 rfl ?_
          refine z_getC dX11_jar_33 tF_11_58 hE dc_0 rfl rfl ?_
          refine z_iload_n dX11_jar_36 rfl ?_
          obtain ⟨r22, S21, k23, hf⟩ := zb_some hf
          refine z_callVi dX11_jar_37 tM_11_185 mt_7009 (Nat.le_of_ble_eq_true rfl) rfl rfl (z_recv hE dc_17 rfl) rfl (ia_oks_le hn1 rfl) (Nat.le_of_ble_eq_true rfl) (w_X7_hold hn1 hn2 (d + 0) sc_17 hE k23) (fun h hE => ?_)
          have e_ := Option.some.inj hf
          subst e_
          exact z_ireturn dX11_jar_40 rfl ⟨h, rfl, rfl, hE⟩
      · have hf := zif_f hf c8
        refine z_icmp_le_f (tgt := 26) dX11_jar_15 (by decide) c8 ?_
        exact zW.sub (hJ5 () _ hE hf) [0, 1, 2] rfl rfl rfl rfl
def f_X11_isHand (v1 : Int32) (S : zS) : Option (Int32 × zS) :=
if v1 < 0 then
some (0, S)
else
if (S.1 12 1) ≤ v1 then
some (0, S)
else
some (1, S)
theorem w_X11_isHand {L : Nat} {xs : Nat → Int32} {fm : Bool} {h0 : Nat → va_E} {t : Nat × Nat × Nat} (hn1 : 64 ≤ t.1) (hn2 : t.1 ≤ 1000000) (d : Nat) {h : Nat → va_E} {S : zS} (hE : zE (zDc t.1) h0 S (h, t)) {v1 : Int32} {R : Int32 × zS} (hf : f_X11_isHand v1 S = some R) : zC (ia_P0 L xs fm) (d + 1) 11009 [.ref 0, .int v1] (h, t) (zQi (zDc t.1) h0 t R) := by
  refine zC_of mt_11009 nn_11009 (Nat.le_of_ble_eq_true rfl) ?_
  refine zW_lv (lv' := [(0, .ref 0), (1, .int v1)]) rfl ?_
  unfold f_X11_isHand at hf
  refine z_iload_n dX11_isHand_0 rfl ?_
  by_cases c1 : v1 < 0
  · have hf := zif_t hf c1
    refine z_if_lt_t (tgt := 21) dX11_isHand_1 (by decide) c1 ?_
    refine z_iconst (v := 0) dX11_isHand_21 (by decide) ?_
    have e_ := Option.some.inj hf
    subst e_
    exact z_zreturn dX11_isHand_22 rfl (by decide) ⟨h, rfl, rfl, hE⟩
  · have hf := zif_f hf c1
    refine z_if_lt_f (tgt := 21) dX11_isHand_1 (by decide) c1 ?_
    refine z_iload_n dX11_isHand_4 rfl ?_
    refine z_aload_n dX11_isHand_5 rfl ?_
    refine z_getC dX11_isHand_6 tF_11_42 hE dc_0 rfl rfl ?_
    refine z_getC dX11_isHand_9 tF_11_153 hE dc_11 rfl rfl ?_
    refine z_iconst (v := 1) dX11_isHand_12 (by decide) ?_
    refine z_ialoadL (i := 1) dX11_isHand_13 hE dc_12 (by decide) (by decide) ?_
    by_cases c2 : (S.1 12 1) ≤ v1
    · have hf := zif_t hf c2
      refine z_icmp_ge_t (tgt := 21) dX11_isHand_14 (by decide) c2 ?_
      refine z_iconst (v := 0) dX11_isHand_21 (by decide) ?_
      have e_ := Option.some.inj hf
      subst e_
      exact z_zreturn dX11_isHand_22 rfl (by decide) ⟨h, rfl, rfl, hE⟩
    · have hf := zif_f hf c2
      refine z_icmp_ge_f (tgt := 21) dX11_isHand_14 (by decide) c2 ?_
      refine z_iconst (v := 1) dX11_isHand_17 (by decide) ?_
      refine z_goto (tgt := 22) dX11_isHand_18 (by decide) ?_
      have e_ := Option.some.inj hf
      subst e_
      exact z_zreturn dX11_isHand_22 rfl (by decide) ⟨h, rfl, rfl, hE⟩
def f_X7_handCell (o : Nat) (v1 : Int32) (v2 : Int32) (S : zS) : Option (Int32 × zS) :=
if ia_in ((28 + (v1 * 2)) + v2) 66 = true then
some (S.1 (o + 1) ((28 + (v1 * 2)) + v2).toNatClampNeg, S)
else none
theorem w_X7_handCell {L : Nat} {xs : Nat → Int32} {fm : Bool} {h0 : Nat → va_E} {t : Nat × Nat × Nat} (hn1 : 64 ≤ t.1) (hn2 : t.1 ≤ 1000000) (d : Nat) {o : Nat} (ho_o : zSc t.1 o) {h : Nat → va_E} {S : zS} (hE : zE (zDc t.1) h0 S (h, t)) {v1 : Int32} {v2 : Int32} {R : Int32 × zS} (hf : f_X7_handCell o v1 v2 S = some R) : zC (ia_P0 L xs fm) (d + 1) 7003 [.ref o, .int v1, .int v2] (h, t) (zQi (zDc t.1) h0 t R) := by
  refine zC_of mt_7003 nn_7003 (Nat.le_of_ble_eq_true rfl) ?_
  refine zW_lv (lv' := [(0, .ref o), (1, .int v1), (2, .int v2)]) rfl ?_
  unfold f_X7_handCell at hf
  refine z_aload_n dX7_handCell_0 rfl ?_
  refine z_getC dX7_handCell_1 tF_7_9 hE ho_o.1 rfl rfl ?_
  refine z_bipush (v := 28) dX7_handCell_4 (by decide) ?_
  refine z_iload_n dX7_handCell_6 rfl ?_
  refine z_iconst (v := 2) dX7_handCell_7 (by decide) ?_
  refine z_imul dX7_handCell_8 ?_
  refine z_iadd dX7_handCell_9 ?_
  refine z_iload_n dX7_handCell_10 rfl ?_
  refine z_iadd dX7_handCell_11 ?_
  obtain ⟨b1, hf⟩ := zchk hf
  refine z_ialoadL dX7_handCell_12 hE ho_o.2.1 b1 rfl ?_
  have e_ := Option.some.inj hf
  subst e_
  exact z_ireturn dX7_handCell_13 rfl ⟨h, rfl, rfl, hE⟩
def f_X7_loosenedCell (o : Nat) (v1 : Int32) (S : zS) : Option (Int32 × zS) :=
some ((40 + ((S.1 (o + 1) 64) * (zc_1000001 (1 : Int32).toNatClampNeg))) + v1, S)
theorem w_X7_loosenedCell {L : Nat} {xs : Nat → Int32} {fm : Bool} {h0 : Nat → va_E} {t : Nat × Nat × Nat} (hn1 : 64 ≤ t.1) (hn2 : t.1 ≤ 1000000) (d : Nat) {o : Nat} (ho_o : zSc t.1 o) {h : Nat → va_E} {S : zS} (hE : zE (zDc t.1) h0 S (h, t)) {v1 : Int32} {R : Int32 × zS} (hf : f_X7_loosenedCell o v1 S = some R) : zC (ia_P0 L xs fm) (d + 1) 7005 [.ref o, .int v1] (h, t) (zQi (zDc t.1) h0 t R) := by
  refine zC_of mt_7005 nn_7005 (Nat.le_of_ble_eq_true rfl) ?_
  refine zW_lv (lv' := [(0, .ref o), (1, .int v1)]) rfl ?_
  unfold f_X7_loosenedCell at hf
  refine z_bipush (v := 40) dX7_loosenedCell_0 (by decide) ?_
  refine z_aload_n dX7_loosenedCell_2 rfl ?_
  refine z_getC dX7_loosenedCell_3 tF_7_9 hE ho_o.1 rfl rfl ?_
  refine z_bipush (v := 64) dX7_loosenedCell_6 (by decide) ?_
  refine z_ialoadL (i := 64) dX7_loosenedCell_8 hE ho_o.2.1 (by decide) (by decide) ?_
  refine z_getstatic dX7_loosenedCell_9 tS_7_62 ?_
  refine z_iconst (v := 1) dX7_loosenedCell_12 (by decide) ?_
  refine z_ialoadC dX7_loosenedCell_13 (by decide) hn2 hc_1000001 (by decide) ?_
  refine z_imul dX7_loosenedCell_14 ?_
  refine z_iadd dX7_loosenedCell_15 ?_
  refine z_iload_n dX7_loosenedCell_16 rfl ?_
  refine z_iadd dX7_loosenedCell_17 ?_
  have e_ := Option.some.inj hf
  subst e_
  exact z_ireturn dX7_loosenedCell_18 rfl ⟨h, rfl, rfl, hE⟩
def f_X7_loosened (o : Nat) (v1 : Int32) (S : zS) : Option (Int32 × zS) :=
zb (f_X7_loosenedCell o v1 S) fun r2 S1 =>
if ia_in r2 66 = true then
some (S1.1 (o + 1) r2.toNatClampNeg, S1)
else none
theorem w_X7_loosened {L : Nat} {xs : Nat → Int32} {fm : Bool} {h0 : Nat → va_E} {t : Nat × Nat × Nat} (hn1 : 64 ≤ t.1) (hn2 : t.1 ≤ 1000000) (d : Nat) {o : Nat} (ho_o : zSc t.1 o) {h : Nat → va_E} {S : zS} (hE : zE (zDc t.1) h0 S (h, t)) {v1 : Int32} {R : Int32 × zS} (hf : f_X7_loosened o v1 S = some R) : zC (ia_P0 L xs fm) (d + 2) 7004 [.ref o, .int v1] (h, t) (zQi (zDc t.1) h0 t R) := by
  refine zC_of mt_7004 nn_7004 (Nat.le_of_ble_eq_true rfl) ?_
  refine zW_lv (lv' := [(0, .ref o), (1, .int v1)]) rfl ?_
  unfold f_X7_loosened at hf
  refine z_aload_n dX7_loosened_0 rfl ?_
  refine z_getC dX7_loosened_1 tF_7_9 hE ho_o.1 rfl rfl ?_
  refine z_aload_n dX7_loosened_4 rfl ?_
  refine z_iload_n dX7_loosened_5 rfl ?_
  obtain ⟨r2, S1, k3, hf⟩ := zb_some hf
  refine z_callVi dX7_loosened_6 tM_7_65 mt_7005 (Nat.le_of_ble_eq_true rfl) rfl rfl (z_recv hE ho_o.1 rfl) rfl (by have q0 : o < t.1 := Nat.lt_of_lt_of_le ho_o.2.2 (Nat.le_trans (by decide) hn1); have q1 : o + 1 < t.1 := Nat.lt_of_lt_of_le (Nat.succ_lt_succ ho_o.2.2) (Nat.le_trans (by decide) hn1); simp [ia_oks, ia_okv, q0, q1]) (Nat.le_of_ble_eq_true rfl) (w_X7_loosenedCell hn1 hn2 (d + 0) ho_o hE k3) (fun h hE => ?_)
  obtain ⟨b4, hf⟩ := zchk hf
  refine z_ialoadL dX7_loosened_9 hE ho_o.2.1 b4 rfl ?_
  have e_ := Option.some.inj hf
  subst e_
  exact z_ireturn dX7_loosened_10 rfl ⟨h, rfl, rfl, hE⟩
def f_X11_hand (v1 : Int32) (v2 : Int32) (S : zS) : Option (Int32 × zS) :=
zb (f_X11_isHand v1 S) fun r2 S1 =>
if ¬ r2 = 0 then
if v2.toInt < 0 ∨ 6 < v2.toInt then
some ((-1), S1)
else
if v2 = 0 then
zb (f_X7_handCell 17 v1 0 S1) fun r7 S6 =>
some (r7, S6)
else if v2 = 1 then
zb (f_X10_item 1 v1 v2 S1) fun r11 S10 =>
some (r11, S10)
else if v2 = 2 then
zb (f_X7_handCell 17 v1 1 S1) fun r15 S14 =>
some (r15, S14)
else if v2 = 3 then
zb (f_X10_item 1 v1 v2 S1) fun r19 S18 =>
some (r19, S18)
else if v2 = 4 then
zb (f_X10_item 1 v1 v2 S1) fun r23 S22 =>
some (r23, S22)
else if v2 = 5 then
zb (f_X10_item 1 v1 0 S1) fun r27 S26 =>
some (r27, S26)
else if v2 = 6 then
zb (f_X7_loosened 17 v1 S1) fun r31 S30 =>
some (r31, S30)
else none
else
some ((-1), S1)
theorem w_X11_hand {L : Nat} {xs : Nat → Int32} {fm : Bool} {h0 : Nat → va_E} {t : Nat × Nat × Nat} (hn1 : 64 ≤ t.1) (hn2 : t.1 ≤ 1000000) (d : Nat) {h : Nat → va_E} {S : zS} (hE : zE (zDc t.1) h0 S (h, t)) {v1 : Int32} {v2 : Int32} {R : Int32 × zS} (hf : f_X11_hand v1 v2 S = some R) : zC (ia_P0 L xs fm) (d + 3) 11008 [.ref 0, .int v1, .int v2] (h, t) (zQi (zDc t.1) h0 t R) := by
  refine zC_of mt_11008 nn_11008 (Nat.le_of_ble_eq_true rfl) ?_
  refine zW_lv (lv' := [(0, .ref 0), (1, .int v1), (2, .int v2)]) rfl ?_
  unfold f_X11_hand at hf
  refine z_aload_n dX11_hand_0 rfl ?_
  refine z_iload_n dX11_hand_1 rfl ?_
  obtain ⟨r2, S1, k3, hf⟩ := zb_some hf
  refine z_callVi dX11_hand_2 tM_11_196 mt_11009 (Nat.le_of_ble_eq_true rfl) rfl rfl (z_recv hE dc_0 rfl) rfl (ia_oks_le hn1 rfl) (Nat.le_of_ble_eq_true rfl) (w_X11_isHand hn1 hn2 (d + 1) hE k3) (fun h hE => ?_)
  by_cases c4 : ¬ r2 = 0
  · have hf := zif_t hf c4
    refine z_if_ne_t (tgt := 10) dX11_hand_5 (by decide) c4 ?_
    refine z_iload_n dX11_hand_10 rfl ?_
    by_cases c5 : v2.toInt < 0 ∨ 6 < v2.toInt
    · have hf := zif_t hf c5
      refine z_tabO (tgt := 103) dX11_hand_11 c5 (by decide) ?_
      refine z_iconst (v := (-1)) dX11_hand_103 (by decide) ?_
      have e_ := Option.some.inj hf
      subst e_
      exact z_ireturn dX11_hand_104 rfl ⟨h, rfl, rfl, hE⟩
    · have hf := zif_f hf c5
      by_cases c9 : v2 = 0
      · have hf := zif_t hf c9
        refine z_tabI (off := 41) (tgt := 52) dX11_hand_11 c5 (by rw [c9]; rfl) (by decide) ?_
        refine z_aload_n dX11_hand_52 rfl ?_
        refine z_getC dX11_hand_53 tF_11_58 hE dc_0 rfl rfl ?_
        refine z_iload_n dX11_hand_56 rfl ?_
        refine z_iconst (v := 0) dX11_hand_57 (by decide) ?_
        obtain ⟨r7, S6, k8, hf⟩ := zb_some hf
        refine z_callVi dX11_hand_58 tM_11_199 mt_7003 (Nat.le_of_ble_eq_true rfl) rfl rfl (z_recv hE dc_17 rfl) rfl (ia_oks_le hn1 rfl) (Nat.le_of_ble_eq_true rfl) (w_X7_handCell hn1 hn2 (d + 1) sc_17 hE k8) (fun h hE => ?_)
        have e_ := Option.some.inj hf
        subst e_
        exact z_ireturn dX11_hand_61 rfl ⟨h, rfl, rfl, hE⟩
      · have hf := zif_f hf c9
        by_cases c13 : v2 = 1
        · have hf := zif_t hf c13
          refine z_tabI (off := 61) (tgt := 72) dX11_hand_11 c5 (by rw [c13]; rfl) (by decide) ?_
          refine z_aload_n dX11_hand_72 rfl ?_
          refine z_getC dX11_hand_73 tF_11_42 hE dc_0 rfl rfl ?_
          refine z_iconst (v := 1) dX11_hand_76 (by decide) ?_
          refine z_iload_n dX11_hand_77 rfl ?_
          refine z_iload_n dX11_hand_78 rfl ?_
          obtain ⟨r11, S10, k12, hf⟩ := zb_some hf
          refine z_callVi dX11_hand_79 tM_11_192 mt_10004 (Nat.le_of_ble_eq_true rfl) rfl rfl (z_recv hE dc_11 rfl) rfl (ia_oks_le hn1 rfl) (Nat.le_of_ble_eq_true rfl) (w_X10_item hn1 hn2 (d + 0) hE k12) (fun h hE => ?_)
          have e_ := Option.some.inj hf
          subst e_
          exact z_ireturn dX11_hand_82 rfl ⟨h, rfl, rfl, hE⟩
        · have hf := zif_f hf c13
          by_cases c17 : v2 = 2
          · have hf := zif_t hf c17
            refine z_tabI (off := 51) (tgt := 62) dX11_hand_11 c5 (by rw [c17]; rfl) (by decide) ?_
            refine z_aload_n dX11_hand_62 rfl ?_
            refine z_getC dX11_hand_63 tF_11_58 hE dc_0 rfl rfl ?_
            refine z_iload_n dX11_hand_66 rfl ?_
            refine z_iconst (v := 1) dX11_hand_67 (by decide) ?_
            obtain ⟨r15, S14, k16, hf⟩ := zb_some hf
            refine z_callVi dX11_hand_68 tM_11_199 mt_7003 (Nat.le_of_ble_eq_true rfl) rfl rfl (z_recv hE dc_17 rfl) rfl (ia_oks_le hn1 rfl) (Nat.le_of_ble_eq_true rfl) (w_X7_handCell hn1 hn2 (d + 1) sc_17 hE k16) (fun h hE => ?_)
            have e_ := Option.some.inj hf
            subst e_
            exact z_ireturn dX11_hand_71 rfl ⟨h, rfl, rfl, hE⟩
          · have hf := zif_f hf c17
            by_cases c21 : v2 = 3
            · have hf := zif_t hf c21
              refine z_tabI (off := 61) (tgt := 72) dX11_hand_11 c5 (by rw [c21]; rfl) (by decide) ?_
              refine z_aload_n dX11_hand_72 rfl ?_
              refine z_getC dX11_hand_73 tF_11_42 hE dc_0 rfl rfl ?_
              refine z_iconst (v := 1) dX11_hand_76 (by decide) ?_
              refine z_iload_n dX11_hand_77 rfl ?_
              refine z_iload_n dX11_hand_78 rfl ?_
              obtain ⟨r19, S18, k20, hf⟩ := zb_some hf
              refine z_callVi dX11_hand_79 tM_11_192 mt_10004 (Nat.le_of_ble_eq_true rfl) rfl rfl (z_recv hE dc_11 rfl) rfl (ia_oks_le hn1 rfl) (Nat.le_of_ble_eq_true rfl) (w_X10_item hn1 hn2 (d + 0) hE k20) (fun h hE => ?_)
              have e_ := Option.some.inj hf
              subst e_
              exact z_ireturn dX11_hand_82 rfl ⟨h, rfl, rfl, hE⟩
            · have hf := zif_f hf c21
              by_cases c25 : v2 = 4
              · have hf := zif_t hf c25
                refine z_tabI (off := 61) (tgt := 72) dX11_hand_11 c5 (by rw [c25]; rfl) (by decide) ?_
                refine z_aload_n dX11_hand_72 rfl ?_
                refine z_getC dX11_hand_73 tF_11_42 hE dc_0 rfl rfl ?_
                refine z_iconst (v := 1) dX11_hand_76 (by decide) ?_
                refine z_iload_n dX11_hand_77 rfl ?_
                refine z_iload_n dX11_hand_78 rfl ?_
                obtain ⟨r23, S22, k24, hf⟩ := zb_some hf
                refine z_callVi dX11_hand_79 tM_11_192 mt_10004 (Nat.le_of_ble_eq_true rfl) rfl rfl (z_recv hE dc_11 rfl) rfl (ia_oks_le hn1 rfl) (Nat.le_of_ble_eq_true rfl) (w_X10_item hn1 hn2 (d + 0) hE k24) (fun h hE => ?_)
                have e_ := Option.some.inj hf
                subst e_
                exact z_ireturn dX11_hand_82 rfl ⟨h, rfl, rfl, hE⟩
              · have hf := zif_f hf c25
                by_cases c29 : v2 = 5
                · have hf := zif_t hf c29
                  refine z_tabI (off := 72) (tgt := 83) dX11_hand_11 c5 (by rw [c29]; rfl) (by decide) ?_
                  refine z_aload_n dX11_hand_83 rfl ?_
                  refine z_getC dX11_hand_84 tF_11_42 hE dc_0 rfl rfl ?_
                  refine z_iconst (v := 1) dX11_hand_87 (by decide) ?_
                  refine z_iload_n dX11_hand_88 rfl ?_
                  refine z_iconst (v := 0) dX11_hand_89 (by decide) ?_
                  obtain ⟨r27, S26, k28, hf⟩ := zb_some hf
                  refine z_callVi dX11_hand_90 tM_11_192 mt_10004 (Nat.le_of_ble_eq_true rfl) rfl rfl (z_recv hE dc_11 rfl) rfl (ia_oks_le hn1 rfl) (Nat.le_of_ble_eq_true rfl) (w_X10_item hn1 hn2 (d + 0) hE k28) (fun h hE => ?_)
                  have e_ := Option.some.inj hf
                  subst e_
                  exact z_ireturn dX11_hand_93 rfl ⟨h, rfl, rfl, hE⟩
                · have hf := zif_f hf c29
                  by_cases c33 : v2 = 6
                  · have hf := zif_t hf c33
                    refine z_tabI (off := 83) (tgt := 94) dX11_hand_11 c5 (by rw [c33]; rfl) (by decide) ?_
                    refine z_aload_n dX11_hand_94 rfl ?_
                    refine z_getC dX11_hand_95 tF_11_58 hE dc_0 rfl rfl ?_
                    refine z_iload_n dX11_hand_98 rfl ?_
                    obtain ⟨r31, S30, k32, hf⟩ := zb_some hf
                    refine z_callVi dX11_hand_99 tM_11_202 mt_7004 (Nat.le_of_ble_eq_true rfl) rfl rfl (z_recv hE dc_17 rfl) rfl (ia_oks_le hn1 rfl) (Nat.le_of_ble_eq_true rfl) (w_X7_loosened hn1 hn2 (d + 0) sc_17 hE k32) (fun h hE => ?_)
                    have e_ := Option.some.inj hf
                    subst e_
                    exact z_ireturn dX11_hand_102 rfl ⟨h, rfl, rfl, hE⟩
                  · have hf := zif_f hf c33
                    cases hf
  · have hf := zif_f hf c4
    refine z_if_ne_f (tgt := 10) dX11_hand_5 (by decide) c4 ?_
    refine z_iconst (v := (-1)) dX11_hand_8 (by decide) ?_
    have e_ := Option.some.inj hf
    subst e_
    exact z_ireturn dX11_hand_9 rfl ⟨h, rfl, rfl, hE⟩
def f_X11_isTool (v1 : Int32) (S : zS) : Option (Int32 × zS) :=
if v1 < (-1) then
some (0, S)
else
if (S.1 12 2) ≤ v1 then
some (0, S)
else
some (1, S)
theorem w_X11_isTool {L : Nat} {xs : Nat → Int32} {fm : Bool} {h0 : Nat → va_E} {t : Nat × Nat × Nat} (hn1 : 64 ≤ t.1) (hn2 : t.1 ≤ 1000000) (d : Nat) {h : Nat → va_E} {S : zS} (hE : zE (zDc t.1) h0 S (h, t)) {v1 : Int32} {R : Int32 × zS} (hf : f_X11_isTool v1 S = some R) : zC (ia_P0 L xs fm) (d + 1) 11011 [.ref 0, .int v1] (h, t) (zQi (zDc t.1) h0 t R) := by
  refine zC_of mt_11011 nn_11011 (Nat.le_of_ble_eq_true rfl) ?_
  refine zW_lv (lv' := [(0, .ref 0), (1, .int v1)]) rfl ?_
  unfold f_X11_isTool at hf
  refine z_iload_n dX11_isTool_0 rfl ?_
  refine z_iconst (v := (-1)) dX11_isTool_1 (by decide) ?_
  by_cases c1 : v1 < (-1)
  · have hf := zif_t hf c1
    refine z_icmp_lt_t (tgt := 22) dX11_isTool_2 (by decide) c1 ?_
    refine z_iconst (v := 0) dX11_isTool_22 (by decide) ?_
    have e_ := Option.some.inj hf
    subst e_
    exact z_zreturn dX11_isTool_23 rfl (by decide) ⟨h, rfl, rfl, hE⟩
  · have hf := zif_f hf c1
    refine z_icmp_lt_f (tgt := 22) dX11_isTool_2 (by decide) c1 ?_
    refine z_iload_n dX11_isTool_5 rfl ?_
    refine z_aload_n dX11_isTool_6 rfl ?_
    refine z_getC dX11_isTool_7 tF_11_42 hE dc_0 rfl rfl ?_
    refine z_getC dX11_isTool_10 tF_11_153 hE dc_11 rfl rfl ?_
    refine z_iconst (v := 2) dX11_isTool_13 (by decide) ?_
    refine z_ialoadL (i := 2) dX11_isTool_14 hE dc_12 (by decide) (by decide) ?_
    by_cases c2 : (S.1 12 2) ≤ v1
    · have hf := zif_t hf c2
      refine z_icmp_ge_t (tgt := 22) dX11_isTool_15 (by decide) c2 ?_
      refine z_iconst (v := 0) dX11_isTool_22 (by decide) ?_
      have e_ := Option.some.inj hf
      subst e_
      exact z_zreturn dX11_isTool_23 rfl (by decide) ⟨h, rfl, rfl, hE⟩
    · have hf := zif_f hf c2
      refine z_icmp_ge_f (tgt := 22) dX11_isTool_15 (by decide) c2 ?_
      refine z_iconst (v := 1) dX11_isTool_18 (by decide) ?_
      refine z_goto (tgt := 23) dX11_isTool_19 (by decide) ?_
      have e_ := Option.some.inj hf
      subst e_
      exact z_zreturn dX11_isTool_23 rfl (by decide) ⟨h, rfl, rfl, hE⟩
def f_X11_tool (v1 : Int32) (v2 : Int32) (S : zS) : Option (Int32 × zS) :=
if v1 = (-1) then
some ((-1), S)
else
zb (f_X11_isTool v1 S) fun r3 S2 =>
if r3 = 0 then
some ((-1), S2)
else
if v2 < 0 then
some ((-1), S2)
else
if v2 ≤ 1 then
zb (f_X10_item 2 v1 v2 S2) fun r9 S8 =>
some (r9, S8)
else
some ((-1), S2)
theorem w_X11_tool {L : Nat} {xs : Nat → Int32} {fm : Bool} {h0 : Nat → va_E} {t : Nat × Nat × Nat} (hn1 : 64 ≤ t.1) (hn2 : t.1 ≤ 1000000) (d : Nat) {h : Nat → va_E} {S : zS} (hE : zE (zDc t.1) h0 S (h, t)) {v1 : Int32} {v2 : Int32} {R : Int32 × zS} (hf : f_X11_tool v1 v2 S = some R) : zC (ia_P0 L xs fm) (d + 3) 11010 [.ref 0, .int v1, .int v2] (h, t) (zQi (zDc t.1) h0 t R) := by
  refine zC_of mt_11010 nn_11010 (Nat.le_of_ble_eq_true rfl) ?_
  refine zW_lv (lv' := [(0, .ref 0), (1, .int v1), (2, .int v2)]) rfl ?_
  unfold f_X11_tool at hf
  refine z_iload_n dX11_tool_0 rfl ?_
  refine z_iconst (v := (-1)) dX11_tool_1 (by decide) ?_
  by_cases c1 : v1 = (-1)
  · have hf := zif_t hf c1
    refine z_icmp_eq_t (tgt := 22) dX11_tool_2 (by decide) c1 ?_
    refine z_iconst (v := (-1)) dX11_tool_22 (by decide) ?_
    have e_ := Option.some.inj hf
    subst e_
    exact z_ireturn dX11_tool_23 rfl ⟨h, rfl, rfl, hE⟩
  · have hf := zif_f hf c1
    refine z_icmp_eq_f (tgt := 22) dX11_tool_2 (by decide) c1 ?_
    refine z_aload_n dX11_tool_5 rfl ?_
    refine z_iload_n dX11_tool_6 rfl ?_
    obtain ⟨r3, S2, k4, hf⟩ := zb_some hf
    refine z_callVi dX11_tool_7 tM_11_205 mt_11011 (Nat.le_of_ble_eq_true rfl) rfl rfl (z_recv hE dc_0 rfl) rfl (ia_oks_le hn1 rfl) (Nat.le_of_ble_eq_true rfl) (w_X11_isTool hn1 hn2 (d + 1) hE k4) (fun h hE => ?_)
    by_cases c5 : r3 = 0
    · have hf := zif_t hf c5
      refine z_if_eq_t (tgt := 22) dX11_tool_10 (by decide) c5 ?_
      refine z_iconst (v := (-1)) dX11_tool_22 (by decide) ?_
      have e_ := Option.some.inj hf
      subst e_
      exact z_ireturn dX11_tool_23 rfl ⟨h, rfl, rfl, hE⟩
    · have hf := zif_f hf c5
      refine z_if_eq_f (tgt := 22) dX11_tool_10 (by decide) c5 ?_
      refine z_iload_n dX11_tool_13 rfl ?_
      by_cases c6 : v2 < 0
      · have hf := zif_t hf c6
        refine z_if_lt_t (tgt := 22) dX11_tool_14 (by decide) c6 ?_
        refine z_iconst (v := (-1)) dX11_tool_22 (by decide) ?_
        have e_ := Option.some.inj hf
        subst e_
        exact z_ireturn dX11_tool_23 rfl ⟨h, rfl, rfl, hE⟩
      · have hf := zif_f hf c6
        refine z_if_lt_f (tgt := 22) dX11_tool_14 (by decide) c6 ?_
        refine z_iload_n dX11_tool_17 rfl ?_
        refine z_iconst (v := 1) dX11_tool_18 (by decide) ?_
        by_cases c7 : v2 ≤ 1
        · have hf := zif_t hf c7
          refine z_icmp_le_t (tgt := 24) dX11_tool_19 (by decide) c7 ?_
          refine z_aload_n dX11_tool_24 rfl ?_
          refine z_getC dX11_tool_25 tF_11_42 hE dc_0 rfl rfl ?_
          refine z_iconst (v := 2) dX11_tool_28 (by decide) ?_
          refine z_iload_n dX11_tool_29 rfl ?_
          refine z_iload_n dX11_tool_30 rfl ?_
          obtain ⟨r9, S8, k10, hf⟩ := zb_some hf
          refine z_callVi dX11_tool_31 tM_11_192 mt_10004 (Nat.le_of_ble_eq_true rfl) rfl rfl (z_recv hE dc_11 rfl) rfl (ia_oks_le hn1 rfl) (Nat.le_of_ble_eq_true rfl) (w_X10_item hn1 hn2 (d + 0) hE k10) (fun h hE => ?_)
          have e_ := Option.some.inj hf
          subst e_
          exact z_ireturn dX11_tool_34 rfl ⟨h, rfl, rfl, hE⟩
        · have hf := zif_f hf c7
          refine z_icmp_le_f (tgt := 24) dX11_tool_19 (by decide) c7 ?_
          refine z_iconst (v := (-1)) dX11_tool_22 (by decide) ?_
          have e_ := Option.some.inj hf
          subst e_
          exact z_ireturn dX11_tool_23 rfl ⟨h, rfl, rfl, hE⟩
def f_X11_law (v1 : Int32) (S : zS) : Option (Int32 × zS) :=
if (S.1 0 17) = 0 then
some (0, S)
else
if v1 < (-1) then
some (0, S)
else
if v1 < (S.1 0 14) then
zl (sV S 0 16 v1) fun S4 =>
if ¬ v1 = (-1) then
if ia_in v1 4 = true then
zkr (S4.2.1 39 v1.toNatClampNeg) (
zl (sK S4 14 2 (.null)) fun S8 =>
some (1, S8)) fun a7 =>
if 64 ≤ a7 ∧ a7 < S4.2.2.2 then
zl (sK S4 14 2 (.ref a7)) fun S9 =>
some (1, S9)
else none
else none
else
zl (sK S4 14 2 (.null)) fun S10 =>
some (1, S10)
else
some (0, S)
theorem w_X11_law {L : Nat} {xs : Nat → Int32} {fm : Bool} {h0 : Nat → va_E} {t : Nat × Nat × Nat} (hn1 : 64 ≤ t.1) (hn2 : t.1 ≤ 1000000) (d : Nat) {h : Nat → va_E} {S : zS} (hE : zE (zDc t.1) h0 S (h, t)) {v1 : Int32} {R : Int32 × zS} (hf : f_X11_law v1 S = some R) : zC (ia_P0 L xs fm) (d + 1) 11012 [.ref 0, .int v1] (h, t) (zQi (zDc t.1) h0 t R) := by
  refine zC_of mt_11012 nn_11012 (Nat.le_of_ble_eq_true rfl) ?_
  refine zW_lv (lv' := [(0, .ref 0), (1, .int v1)]) rfl ?_
  unfold f_X11_law at hf
  refine z_aload_n dX11_law_0 rfl ?_
  refine z_getI dX11_law_1 tF_11_149 hE dc_0 rfl rfl ?_
  by_cases c1 : (S.1 0 17) = 0
  · have hf := zif_t hf c1
    refine z_if_eq_t (tgt := 20) dX11_law_4 (by decide) c1 ?_
    refine z_iconst (v := 0) dX11_law_20 (by decide) ?_
    have e_ := Option.some.inj hf
    subst e_
    exact z_zreturn dX11_law_21 rfl (by decide) ⟨h, rfl, rfl, hE⟩
  · have hf := zif_f hf c1
    refine z_if_eq_f (tgt := 20) dX11_law_4 (by decide) c1 ?_
    refine z_iload_n dX11_law_7 rfl ?_
    refine z_iconst (v := (-1)) dX11_law_8 (by decide) ?_
    by_cases c2 : v1 < (-1)
    · have hf := zif_t hf c2
      refine z_icmp_lt_t (tgt := 20) dX11_law_9 (by decide) c2 ?_
      refine z_iconst (v := 0) dX11_law_20 (by decide) ?_
      have e_ := Option.some.inj hf
      subst e_
      exact z_zreturn dX11_law_21 rfl (by decide) ⟨h, rfl, rfl, hE⟩
    · have hf := zif_f hf c2
      refine z_icmp_lt_f (tgt := 20) dX11_law_9 (by decide) c2 ?_
      refine z_iload_n dX11_law_12 rfl ?_
      refine z_aload_n dX11_law_13 rfl ?_
      refine z_getI dX11_law_14 tF_11_156 hE dc_0 rfl rfl ?_
      by_cases c3 : v1 < (S.1 0 14)
      · have hf := zif_t hf c3
        refine z_icmp_lt_t (tgt := 22) dX11_law_17 (by decide) c3 ?_
        refine z_aload_n dX11_law_22 rfl ?_
        refine z_iload_n dX11_law_23 rfl ?_
        obtain ⟨S4, eS4, hf⟩ := zl_some hf
        refine z_putI dX11_law_24 tF_11_102 hE dc_0 rfl rfl rfl rfl (fun h hE => ?_)
        rw [← eS4] at hE
        refine z_aload_n dX11_law_27 rfl ?_
        refine z_getC dX11_law_28 tF_11_49 hE dc_0 rfl rfl ?_
        refine z_iload_n dX11_law_31 rfl ?_
        refine z_iconst (v := (-1)) dX11_law_32 (by decide) ?_
        by_cases c5 : ¬ v1 = (-1)
        · have hf := zif_t hf c5
          refine z_icmp_ne_t (tgt := 40) dX11_law_33 (by decide) c5 ?_
          refine z_aload_n dX11_law_40 rfl ?_
          refine z_getC dX11_law_41 tF_11_95 hE dc_0 rfl rfl ?_
          refine z_iload_n dX11_law_44 rfl ?_
          obtain ⟨b6, hf⟩ := zchk hf
          rcases zkr_some hf with ⟨ea7, hf⟩ | ⟨a7, ea7, hf⟩
          · refine z_aaload dX11_law_45 hE dc_39 b6 ea7 rfl ?_
            obtain ⟨S8, eS8, hf⟩ := zl_some hf
            refine z_putK dX11_law_46 tF_11_139 hE dc_14 rfl rfl rfl rfl (fun h hE => ?_)
            rw [← eS8] at hE
            refine z_iconst (v := 1) dX11_law_49 (by decide) ?_
            have e_ := Option.some.inj hf
            subst e_
            exact z_zreturn dX11_law_50 rfl (by decide) ⟨h, rfl, rfl, hE⟩
          · obtain ⟨hda7, hf⟩ := zchk hf
            rw [hE.1] at hda7
            refine z_aaload dX11_law_45 hE dc_39 b6 ea7 rfl ?_
            obtain ⟨S9, eS9, hf⟩ := zl_some hf
            refine z_putK dX11_law_46 tF_11_139 hE dc_14 rfl rfl rfl rfl (fun h hE => ?_)
            rw [← eS9] at hE
            refine z_iconst (v := 1) dX11_law_49 (by decide) ?_
            have e_ := Option.some.inj hf
            subst e_
            exact z_zreturn dX11_law_50 rfl (by decide) ⟨h, rfl, rfl, hE⟩
        · have hf := zif_f hf c5
          refine z_icmp_ne_f (tgt := 40) dX11_law_33 (by decide) c5 ?_
          refine z_null dX11_law_36 ?_
          refine z_goto (tgt := 46) dX11_law_37 (by decide) ?_
          obtain ⟨S10, eS10, hf⟩ := zl_some hf
          refine z_putK dX11_law_46 tF_11_139 hE dc_14 rfl rfl rfl rfl (fun h hE => ?_)
          rw [← eS10] at hE
          refine z_iconst (v := 1) dX11_law_49 (by decide) ?_
          have e_ := Option.some.inj hf
          subst e_
          exact z_zreturn dX11_law_50 rfl (by decide) ⟨h, rfl, rfl, hE⟩
      · have hf := zif_f hf c3
        refine z_icmp_lt_f (tgt := 22) dX11_law_17 (by decide) c3 ?_
        refine z_iconst (v := 0) dX11_law_20 (by decide) ?_
        have e_ := Option.some.inj hf
        subst e_
        exact z_zreturn dX11_law_21 rfl (by decide) ⟨h, rfl, rfl, hE⟩
def f_X11_stepsOf (v1 : Int32) (S : zS) : Option (Value × zS) :=
if v1 < 0 then
some (.null, S)
else
if (S.1 0 15) ≤ v1 then
some (.null, S)
else
if ia_in v1 4 = true then
zkr (S.2.1 40 v1.toNatClampNeg) (
some (.null, S)) fun a4 =>
if 64 ≤ a4 ∧ a4 < S.2.2.2 then
some (.ref a4, S)
else none
else none
theorem w_X11_stepsOf {L : Nat} {xs : Nat → Int32} {fm : Bool} {h0 : Nat → va_E} {t : Nat × Nat × Nat} (hn1 : 64 ≤ t.1) (hn2 : t.1 ≤ 1000000) (d : Nat) {h : Nat → va_E} {S : zS} (hE : zE (zDc t.1) h0 S (h, t)) {v1 : Int32} {R : Value × zS} (hf : f_X11_stepsOf v1 S = some R) : zC (ia_P0 L xs fm) (d + 1) 11014 [.ref 0, .int v1] (h, t) (zQr (zDc t.1) h0 t R) := by
  refine zC_of mt_11014 nn_11014 (Nat.le_of_ble_eq_true rfl) ?_
  refine zW_lv (lv' := [(0, .ref 0), (1, .int v1)]) rfl ?_
  unfold f_X11_stepsOf at hf
  refine z_iload_n dX11_stepsOf_0 rfl ?_
  by_cases c1 : v1 < 0
  · have hf := zif_t hf c1
    refine z_if_lt_t (tgt := 21) dX11_stepsOf_1 (by decide) c1 ?_
    refine z_null dX11_stepsOf_21 ?_
    have e_ := Option.some.inj hf
    subst e_
    exact z_areturnN dX11_stepsOf_22 rfl ⟨h, rfl, rfl, hE⟩
  · have hf := zif_f hf c1
    refine z_if_lt_f (tgt := 21) dX11_stepsOf_1 (by decide) c1 ?_
    refine z_iload_n dX11_stepsOf_4 rfl ?_
    refine z_aload_n dX11_stepsOf_5 rfl ?_
    refine z_getI dX11_stepsOf_6 tF_11_169 hE dc_0 rfl rfl ?_
    by_cases c2 : (S.1 0 15) ≤ v1
    · have hf := zif_t hf c2
      refine z_icmp_ge_t (tgt := 21) dX11_stepsOf_9 (by decide) c2 ?_
      refine z_null dX11_stepsOf_21 ?_
      have e_ := Option.some.inj hf
      subst e_
      exact z_areturnN dX11_stepsOf_22 rfl ⟨h, rfl, rfl, hE⟩
    · have hf := zif_f hf c2
      refine z_icmp_ge_f (tgt := 21) dX11_stepsOf_9 (by decide) c2 ?_
      refine z_aload_n dX11_stepsOf_12 rfl ?_
      refine z_getC dX11_stepsOf_13 tF_11_99 hE dc_0 rfl rfl ?_
      refine z_iload_n dX11_stepsOf_16 rfl ?_
      obtain ⟨b3, hf⟩ := zchk hf
      rcases zkr_some hf with ⟨ea4, hf⟩ | ⟨a4, ea4, hf⟩
      · refine z_aaload dX11_stepsOf_17 hE dc_40 b3 ea4 rfl ?_
        refine z_goto (tgt := 22) dX11_stepsOf_18 (by decide) ?_
        have e_ := Option.some.inj hf
        subst e_
        exact z_areturnN dX11_stepsOf_22 rfl ⟨h, rfl, rfl, hE⟩
      · obtain ⟨hda4, hf⟩ := zchk hf
        rw [hE.1] at hda4
        refine z_aaload dX11_stepsOf_17 hE dc_40 b3 ea4 rfl ?_
        refine z_goto (tgt := 22) dX11_stepsOf_18 (by decide) ?_
        have e_ := Option.some.inj hf
        subst e_
        exact z_areturn dX11_stepsOf_22 rfl ⟨h, rfl, rfl, hE⟩
def f_X11_step (v1 : Int32) (v2 : Int32) (S : zS) : Option (Int32 × zS) :=
zb (f_X11_stepsOf v1 S) fun r2 S1 =>
zkr r2 (
some ((-1), S1)) fun a4 =>
if 64 ≤ a4 ∧ a4 < S1.2.2.2 then
if v2 < 0 then
some ((-1), S1)
else
if v2 < (Int32.ofNat (S1.2.2.1 a4)) then
if ia_in v2 (S1.2.2.1 a4) = true then
some (S1.1 a4 v2.toNatClampNeg, S1)
else none
else
some ((-1), S1)
else none
theorem w_X11_step {L : Nat} {xs : Nat → Int32} {fm : Bool} {h0 : Nat → va_E} {t : Nat × Nat × Nat} (hn1 : 64 ≤ t.1) (hn2 : t.1 ≤ 1000000) (d : Nat) {h : Nat → va_E} {S : zS} (hE : zE (zDc t.1) h0 S (h, t)) {v1 : Int32} {v2 : Int32} {R : Int32 × zS} (hf : f_X11_step v1 v2 S = some R) : zC (ia_P0 L xs fm) (d + 2) 11013 [.ref 0, .int v1, .int v2] (h, t) (zQi (zDc t.1) h0 t R) := by
  refine zC_of mt_11013 nn_11013 (Nat.le_of_ble_eq_true rfl) ?_
  refine zW_lv (lv' := [(0, .ref 0), (1, .int v1), (2, .int v2)]) rfl ?_
  unfold f_X11_step at hf
  refine z_aload_n dX11_step_0 rfl ?_
  refine z_iload_n dX11_step_1 rfl ?_
  obtain ⟨r2, S1, k3, hf⟩ := zb_some hf
  refine z_callVr dX11_step_2 tM_11_208 mt_11014 (Nat.le_of_ble_eq_true rfl) rfl rfl (z_recv hE dc_0 rfl) rfl (ia_oks_le hn1 rfl) (Nat.le_of_ble_eq_true rfl) (w_X11_stepsOf hn1 hn2 (d + 0) hE k3) (fun h hE => ?_)
  rcases zkr_some hf with ⟨ea4, hf⟩ | ⟨a4, ea4, hf⟩
  · refine z_topv ea4 ?_
    refine z_astore_nN (lv' := [(3, .null), (0, .ref 0), (1, .int v1), (2, .int v2)]) dX11_step_5 (by decide) rfl ?_
    refine z_aload_nN dX11_step_6 rfl ?_
    refine z_ifnullN (tgt := 20) dX11_step_7 (by decide) ?_
    refine z_iconst (v := (-1)) dX11_step_20 (by decide) ?_
    have e_ := Option.some.inj hf
    subst e_
    exact z_ireturn dX11_step_21 rfl ⟨h, rfl, rfl, hE⟩
  · obtain ⟨hda4, hf⟩ := zchk hf
    rw [hE.1] at hda4
    refine z_topv ea4 ?_
    refine z_astore_n (lv' := [(3, .ref a4), (0, .ref 0), (1, .int v1), (2, .int v2)]) dX11_step_5 (by decide) rfl ?_
    refine z_aload_n dX11_step_6 rfl ?_
    refine z_ifnull dX11_step_7 ?_
    refine z_iload_n dX11_step_10 rfl ?_
    by_cases c5 : v2 < 0
    · have hf := zif_t hf c5
      refine z_if_lt_t (tgt := 20) dX11_step_11 (by decide) c5 ?_
      refine z_iconst (v := (-1)) dX11_step_20 (by decide) ?_
      have e_ := Option.some.inj hf
      subst e_
      exact z_ireturn dX11_step_21 rfl ⟨h, rfl, rfl, hE⟩
    · have hf := zif_f hf c5
      refine z_if_lt_f (tgt := 20) dX11_step_11 (by decide) c5 ?_
      refine z_iload_n dX11_step_14 rfl ?_
      refine z_aload_n dX11_step_15 rfl ?_
      refine z_alenD dX11_step_16 hE (dc_dyn hda4) ?_
      by_cases c6 : v2 < (Int32.ofNat (S1.2.2.1 a4))
      · have hf := zif_t hf c6
        refine z_icmp_lt_t (tgt := 22) dX11_step_17 (by decide) c6 ?_
        refine z_aload_n dX11_step_22 rfl ?_
        refine z_iload_n dX11_step_23 rfl ?_
        obtain ⟨b7, hf⟩ := zchk hf
        refine z_ialoadD dX11_step_24 hE (dc_dyn hda4) b7 ?_
        have e_ := Option.some.inj hf
        subst e_
        exact z_ireturn dX11_step_25 rfl ⟨h, rfl, rfl, hE⟩
      · have hf := zif_f hf c6
        refine z_icmp_lt_f (tgt := 22) dX11_step_17 (by decide) c6 ?_
        refine z_iconst (v := (-1)) dX11_step_20 (by decide) ?_
        have e_ := Option.some.inj hf
        subst e_
        exact z_ireturn dX11_step_21 rfl ⟨h, rfl, rfl, hE⟩
def f_X2_plainWorth  (S : zS) : Option (Int32 × zS) :=
zl (fun (q3 : Int32) =>
some (((((S.1 15 0) + (S.1 15 5)) - (4 * (S.1 15 2))) - (3 * q3)) - (S.1 15 4), S)) fun J2 =>
if (S.1 15 3) ≤ (S.1 15 1) then
J2 0
else
J2 ((S.1 15 3) - (S.1 15 1))
theorem w_X2_plainWorth {L : Nat} {xs : Nat → Int32} {fm : Bool} {h0 : Nat → va_E} {t : Nat × Nat × Nat} (hn1 : 64 ≤ t.1) (hn2 : t.1 ≤ 1000000) (d : Nat) {h : Nat → va_E} {S : zS} (hE : zE (zDc t.1) h0 S (h, t)) {R : Int32 × zS} (hf : f_X2_plainWorth  S = some R) : zC (ia_P0 L xs fm) (d + 1) 2001 [.ref 14] (h, t) (zQi (zDc t.1) h0 t R) := by
  refine zC_of mt_2001 nn_2001 (Nat.le_of_ble_eq_true rfl) ?_
  refine zW_lv (lv' := [(0, .ref 14)]) rfl ?_
  unfold f_X2_plainWorth at hf
  refine z_aload_n dX2_plainWorth_0 rfl ?_
  refine z_getC dX2_plainWorth_1 tF_2_9 hE dc_14 rfl rfl ?_
  refine z_iconst (v := 3) dX2_plainWorth_4 (by decide) ?_
  refine z_ialoadL (i := 3) dX2_plainWorth_5 hE dc_15 (by decide) (by decide) ?_
  refine z_aload_n dX2_plainWorth_6 rfl ?_
  refine z_getC dX2_plainWorth_7 tF_2_9 hE dc_14 rfl rfl ?_
  refine z_iconst (v := 1) dX2_plainWorth_10 (by decide) ?_
  refine z_ialoadL (i := 1) dX2_plainWorth_11 hE dc_15 (by decide) (by decide) ?_
  obtain ⟨J2, eJ2, hf⟩ := zl_some hf
  have hJ2 : ∀ (q3 : Int32) (h : Nat → va_E), zE (zDc t.1) h0 S (h, t) → J2 q3 = some R → zW (ia_P0 L xs fm) ia_nx (d + 0) 2 false cX2_plainWorth 2 (some .int) 32 [(0, .ref 14)] [.int q3] (h, t) (zQi (zDc t.1) h0 t R) := by
    intro q3 h hE hf
    rw [eJ2] at hf
    refine z_istore_n (lv' := [(1, .int q3), (0, .ref 14)]) dX2_plainWorth_32 (by decide) rfl ?_
    refine z_aload_n dX2_plainWorth_33 rfl ?_
    refine z_getC dX2_plainWorth_34 tF_2_9 hE dc_14 rfl rfl ?_
    refine z_iconst (v := 0) dX2_plainWorth_37 (by decide) ?_
    refine z_ialoadL (i := 0) dX2_plainWorth_38 hE dc_15 (by decide) (by decide) ?_
    refine z_aload_n dX2_plainWorth_39 rfl ?_
    refine z_getC dX2_plainWorth_40 tF_2_9 hE dc_14 rfl rfl ?_
    refine z_iconst (v := 5) dX2_plainWorth_43 (by decide) ?_
    refine z_ialoadL (i := 5) dX2_plainWorth_44 hE dc_15 (by decide) (by decide) ?_
    refine z_iadd dX2_plainWorth_45 ?_
    refine z_iconst (v := 4) dX2_plainWorth_46 (by decide) ?_
    refine z_aload_n dX2_plainWorth_47 rfl ?_
    refine z_getC dX2_plainWorth_48 tF_2_9 hE dc_14 rfl rfl ?_
    refine z_iconst (v := 2) dX2_plainWorth_51 (by decide) ?_
    refine z_ialoadL (i := 2) dX2_plainWorth_52 hE dc_15 (by decide) (by decide) ?_
    refine z_imul dX2_plainWorth_53 ?_
    refine z_isub dX2_plainWorth_54 ?_
    refine z_iconst (v := 3) dX2_plainWorth_55 (by decide) ?_
    refine z_iload_n dX2_plainWorth_56 rfl ?_
    refine z_imul dX2_plainWorth_57 ?_
    refine z_isub dX2_plainWorth_58 ?_
    refine z_aload_n dX2_plainWorth_59 rfl ?_
    refine z_getC dX2_plainWorth_60 tF_2_9 hE dc_14 rfl rfl ?_
    refine z_iconst (v := 4) dX2_plainWorth_63 (by decide) ?_
    refine z_ialoadL (i := 4) dX2_plainWorth_64 hE dc_15 (by decide) (by decide) ?_
    refine z_isub dX2_plainWorth_65 ?_
    have e_ := Option.some.inj hf
    subst e_
    exact z_ireturn dX2_plainWorth_66 rfl ⟨h, rfl, rfl, hE⟩
  by_cases c1 : (S.1 15 3) ≤ (S.1 15 1)
  · have hf := zif_t hf c1
    refine z_icmp_le_t (tgt := 31) dX2_plainWorth_12 (by decide) c1 ?_
    refine z_iconst (v := 0) dX2_plainWorth_31 (by decide) ?_
    exact zW.sub (hJ2 0 _ hE hf) [0] rfl rfl rfl rfl
  · have hf := zif_f hf c1
    refine z_icmp_le_f (tgt := 31) dX2_plainWorth_12 (by decide) c1 ?_
    refine z_aload_n dX2_plainWorth_15 rfl ?_
    refine z_getC dX2_plainWorth_16 tF_2_9 hE dc_14 rfl rfl ?_
    refine z_iconst (v := 3) dX2_plainWorth_19 (by decide) ?_
    refine z_ialoadL (i := 3) dX2_plainWorth_20 hE dc_15 (by decide) (by decide) ?_
    refine z_aload_n dX2_plainWorth_21 rfl ?_
    refine z_getC dX2_plainWorth_22 tF_2_9 hE dc_14 rfl rfl ?_
    refine z_iconst (v := 1) dX2_plainWorth_25 (by decide) ?_
    refine z_ialoadL (i := 1) dX2_plainWorth_26 hE dc_15 (by decide) (by decide) ?_
    refine z_isub dX2_plainWorth_27 ?_
    refine z_goto (tgt := 32) dX2_plainWorth_28 (by decide) ?_
    exact zW.sub (hJ2 ((S.1 15 3) - (S.1 15 1)) _ hE hf) [0] rfl rfl rfl rfl
def f_X2_joined (v0 : Int32) (v1 : Int32) (v2 : Int32) (S : zS) : Option (Int32 × zS) :=
if v0.toInt < 38 ∨ 62 < v0.toInt then
some (v1 ||| v2, S)
else
if v0 = 38 then
some (v1 &&& v2, S)
else if v0 = 39 then
some (v1 ||| v2, S)
else if v0 = 40 then
some (v1 ||| v2, S)
else if v0 = 41 then
some (v1 ||| v2, S)
else if v0 = 42 then
if (lg_cmp ((v1.toInt64) * (v2.toInt64)) 1000000) ≤ 0 then
if 0 ≤ (lg_cmp ((v1.toInt64) * (v2.toInt64)) (-1000000)) then
some (((v1.toInt64) * (v2.toInt64)).toInt32, S)
else
some ((-1000000), S)
else
some (1000000, S)
else if v0 = 43 then
if (lg_cmp ((v1.toInt64) + (v2.toInt64)) 1000000) ≤ 0 then
if 0 ≤ (lg_cmp ((v1.toInt64) + (v2.toInt64)) (-1000000)) then
some (((v1.toInt64) + (v2.toInt64)).toInt32, S)
else
some ((-1000000), S)
else
some (1000000, S)
else if v0 = 44 then
some (v1 ||| v2, S)
else if v0 = 45 then
if (lg_cmp ((v1.toInt64) - (v2.toInt64)) 1000000) ≤ 0 then
if 0 ≤ (lg_cmp ((v1.toInt64) - (v2.toInt64)) (-1000000)) then
some (((v1.toInt64) - (v2.toInt64)).toInt32, S)
else
some ((-1000000), S)
else
some (1000000, S)
else if v0 = 46 then
some (v1 ||| v2, S)
else if v0 = 47 then
if ¬ v2 = 0 then
if v2 = 0 then none else
if (lg_cmp ((v1 / v2).toInt64) 1000000) ≤ 0 then
if 0 ≤ (lg_cmp ((v1 / v2).toInt64) (-1000000)) then
some (((v1 / v2).toInt64).toInt32, S)
else
some ((-1000000), S)
else
some (1000000, S)
else
if (lg_cmp 0 1000000) ≤ 0 then
if 0 ≤ (lg_cmp 0 (-1000000)) then
some ((0 : Int64).toInt32, S)
else
some ((-1000000), S)
else
some (1000000, S)
else if v0 = 48 then
some (v1 ||| v2, S)
else if v0 = 49 then
some (v1 ||| v2, S)
else if v0 = 50 then
some (v1 ||| v2, S)
else if v0 = 51 then
some (v1 ||| v2, S)
else if v0 = 52 then
some (v1 ||| v2, S)
else if v0 = 53 then
some (v1 ||| v2, S)
else if v0 = 54 then
some (v1 ||| v2, S)
else if v0 = 55 then
some (v1 ||| v2, S)
else if v0 = 56 then
some (v1 ||| v2, S)
else if v0 = 57 then
some (v1 ||| v2, S)
else if v0 = 58 then
some (v1 ||| v2, S)
else if v0 = 59 then
some (v1 ||| v2, S)
else if v0 = 60 then
if v2 ≤ v1 then
some (0, S)
else
some (1, S)
else if v0 = 61 then
if ¬ v1 = v2 then
some (0, S)
else
some (1, S)
else if v0 = 62 then
if v1 ≤ v2 then
some (0, S)
else
some (1, S)
else none
theorem w_X2_joined {L : Nat} {xs : Nat → Int32} {fm : Bool} {h0 : Nat → va_E} {t : Nat × Nat × Nat} (hn1 : 64 ≤ t.1) (hn2 : t.1 ≤ 1000000) (d : Nat) {h : Nat → va_E} {S : zS} (hE : zE (zDc t.1) h0 S (h, t)) {v0 : Int32} {v1 : Int32} {v2 : Int32} {R : Int32 × zS} (hf : f_X2_joined v0 v1 v2 S = some R) : zC (ia_P0 L xs fm) (d + 1) 2004 [.int v0, .int v1, .int v2] (h, t) (zQi (zDc t.1) h0 t R) := by
  refine zC_of mt_2004 nn_2004 (Nat.le_of_ble_eq_true rfl) ?_
  refine zW_lv (lv' := [(0, .int v0), (1, .int v1), (2, .int v2)]) rfl ?_
  unfold f_X2_joined at hf
  refine z_iload_n dX2_joined_0 rfl ?_
  by_cases c1 : v0.toInt < 38 ∨ 62 < v0.toInt
  · have hf := zif_t hf c1
    refine z_tabO (tgt := 196) dX2_joined_1 c1 (by decide) ?_
    refine z_iload_n dX2_joined_196 rfl ?_
    refine z_iload_n dX2_joined_197 rfl ?_
    refine z_ior dX2_joined_198 ?_
    have e_ := Option.some.inj hf
    subst e_
    exact z_ireturn dX2_joined_199 rfl ⟨h, rfl, rfl, hE⟩
  · have hf := zif_f hf c1
    by_cases c2 : v0 = 38
    · have hf := zif_t hf c2
      refine z_tabI (off := 191) (tgt := 192) dX2_joined_1 c1 (by rw [c2]; rfl) (by decide) ?_
      refine z_iload_n dX2_joined_192 rfl ?_
      refine z_iload_n dX2_joined_193 rfl ?_
      refine z_iand dX2_joined_194 ?_
      have e_ := Option.some.inj hf
      subst e_
      exact z_ireturn dX2_joined_195 rfl ⟨h, rfl, rfl, hE⟩
    · have hf := zif_f hf c2
      by_cases c3 : v0 = 39
      · have hf := zif_t hf c3
        refine z_tabI (off := 195) (tgt := 196) dX2_joined_1 c1 (by rw [c3]; rfl) (by decide) ?_
        refine z_iload_n dX2_joined_196 rfl ?_
        refine z_iload_n dX2_joined_197 rfl ?_
        refine z_ior dX2_joined_198 ?_
        have e_ := Option.some.inj hf
        subst e_
        exact z_ireturn dX2_joined_199 rfl ⟨h, rfl, rfl, hE⟩
      · have hf := zif_f hf c3
        by_cases c4 : v0 = 40
        · have hf := zif_t hf c4
          refine z_tabI (off := 195) (tgt := 196) dX2_joined_1 c1 (by rw [c4]; rfl) (by decide) ?_
          refine z_iload_n dX2_joined_196 rfl ?_
          refine z_iload_n dX2_joined_197 rfl ?_
          refine z_ior dX2_joined_198 ?_
          have e_ := Option.some.inj hf
          subst e_
          exact z_ireturn dX2_joined_199 rfl ⟨h, rfl, rfl, hE⟩
        · have hf := zif_f hf c4
          by_cases c5 : v0 = 41
          · have hf := zif_t hf c5
            refine z_tabI (off := 195) (tgt := 196) dX2_joined_1 c1 (by rw [c5]; rfl) (by decide) ?_
            refine z_iload_n dX2_joined_196 rfl ?_
            refine z_iload_n dX2_joined_197 rfl ?_
            refine z_ior dX2_joined_198 ?_
            have e_ := Option.some.inj hf
            subst e_
            exact z_ireturn dX2_joined_199 rfl ⟨h, rfl, rfl, hE⟩
          · have hf := zif_f hf c5
            by_cases c8 : v0 = 42
            · have hf := zif_t hf c8
              refine z_tabI (off := 133) (tgt := 134) dX2_joined_1 c1 (by rw [c8]; rfl) (by decide) ?_
              refine z_iload_n dX2_joined_134 rfl ?_
              refine z_i2l dX2_joined_135 ?_
              refine z_iload_n dX2_joined_136 rfl ?_
              refine z_i2l dX2_joined_137 ?_
              refine z_lmul dX2_joined_138 ?_
              refine z_lstore_n (lv' := [(3, .long ((v1.toInt64) * (v2.toInt64))), (0, .int v0), (1, .int v1), (2, .int v2)]) dX2_joined_139 (by decide) rfl ?_
              refine z_goto (tgt := 200) dX2_joined_140 (by decide) ?_
              refine z_lload_n dX2_joined_200 rfl ?_
              refine z_ldc2 dX2_joined_201 tK_2_26 ?_
              refine z_lcmp dX2_joined_204 ?_
              by_cases c6 : (lg_cmp ((v1.toInt64) * (v2.toInt64)) 1000000) ≤ 0
              · have hf := zif_t hf c6
                refine z_if_le_t (tgt := 213) dX2_joined_205 (by decide) c6 ?_
                refine z_lload_n dX2_joined_213 rfl ?_
                refine z_ldc2 dX2_joined_214 tK_2_29 ?_
                refine z_lcmp dX2_joined_217 ?_
                by_cases c7 : 0 ≤ (lg_cmp ((v1.toInt64) * (v2.toInt64)) (-1000000))
                · have hf := zif_t hf c7
                  refine z_if_ge_t (tgt := 226) dX2_joined_218 (by decide) c7 ?_
                  refine z_lload_n dX2_joined_226 rfl ?_
                  refine z_l2i dX2_joined_227 ?_
                  have e_ := Option.some.inj hf
                  subst e_
                  exact z_ireturn dX2_joined_228 rfl ⟨h, rfl, rfl, hE⟩
                · have hf := zif_f hf c7
                  refine z_if_ge_f (tgt := 226) dX2_joined_218 (by decide) c7 ?_
                  refine z_ldc dX2_joined_221 tK_2_31 ?_
                  refine z_goto (tgt := 228) dX2_joined_223 (by decide) ?_
                  have e_ := Option.some.inj hf
                  subst e_
                  exact z_ireturn dX2_joined_228 rfl ⟨h, rfl, rfl, hE⟩
              · have hf := zif_f hf c6
                refine z_if_le_f (tgt := 213) dX2_joined_205 (by decide) c6 ?_
                refine z_ldc dX2_joined_208 tK_2_28 ?_
                refine z_goto (tgt := 228) dX2_joined_210 (by decide) ?_
                have e_ := Option.some.inj hf
                subst e_
                exact z_ireturn dX2_joined_228 rfl ⟨h, rfl, rfl, hE⟩
            · have hf := zif_f hf c8
              by_cases c11 : v0 = 43
              · have hf := zif_t hf c11
                refine z_tabI (off := 115) (tgt := 116) dX2_joined_1 c1 (by rw [c11]; rfl) (by decide) ?_
                refine z_iload_n dX2_joined_116 rfl ?_
                refine z_i2l dX2_joined_117 ?_
                refine z_iload_n dX2_joined_118 rfl ?_
                refine z_i2l dX2_joined_119 ?_
                refine z_ladd dX2_joined_120 ?_
                refine z_lstore_n (lv' := [(3, .long ((v1.toInt64) + (v2.toInt64))), (0, .int v0), (1, .int v1), (2, .int v2)]) dX2_joined_121 (by decide) rfl ?_
                refine z_goto (tgt := 200) dX2_joined_122 (by decide) ?_
                refine z_lload_n dX2_joined_200 rfl ?_
                refine z_ldc2 dX2_joined_201 tK_2_26 ?_
                refine z_lcmp dX2_joined_204 ?_
                by_cases c9 : (lg_cmp ((v1.toInt64) + (v2.toInt64)) 1000000) ≤ 0
                · have hf := zif_t hf c9
                  refine z_if_le_t (tgt := 213) dX2_joined_205 (by decide) c9 ?_
                  refine z_lload_n dX2_joined_213 rfl ?_
                  refine z_ldc2 dX2_joined_214 tK_2_29 ?_
                  refine z_lcmp dX2_joined_217 ?_
                  by_cases c10 : 0 ≤ (lg_cmp ((v1.toInt64) + (v2.toInt64)) (-1000000))
                  · have hf := zif_t hf c10
                    refine z_if_ge_t (tgt := 226) dX2_joined_218 (by decide) c10 ?_
                    refine z_lload_n dX2_joined_226 rfl ?_
                    refine z_l2i dX2_joined_227 ?_
                    have e_ := Option.some.inj hf
                    subst e_
                    exact z_ireturn dX2_joined_228 rfl ⟨h, rfl, rfl, hE⟩
                  · have hf := zif_f hf c10
                    refine z_if_ge_f (tgt := 226) dX2_joined_218 (by decide) c10 ?_
                    refine z_ldc dX2_joined_221 tK_2_31 ?_
                    refine z_goto (tgt := 228) dX2_joined_223 (by decide) ?_
                    have e_ := Option.some.inj hf
                    subst e_
                    exact z_ireturn dX2_joined_228 rfl ⟨h, rfl, rfl, hE⟩
                · have hf := zif_f hf c9
                  refine z_if_le_f (tgt := 213) dX2_joined_205 (by decide) c9 ?_
                  refine z_ldc dX2_joined_208 tK_2_28 ?_
                  refine z_goto (tgt := 228) dX2_joined_210 (by decide) ?_
                  have e_ := Option.some.inj hf
                  subst e_
                  exact z_ireturn dX2_joined_228 rfl ⟨h, rfl, rfl, hE⟩
              · have hf := zif_f hf c11
                by_cases c12 : v0 = 44
                · have hf := zif_t hf c12
                  refine z_tabI (off := 195) (tgt := 196) dX2_joined_1 c1 (by rw [c12]; rfl) (by decide) ?_
                  refine z_iload_n dX2_joined_196 rfl ?_
                  refine z_iload_n dX2_joined_197 rfl ?_
                  refine z_ior dX2_joined_198 ?_
                  have e_ := Option.some.inj hf
                  subst e_
                  exact z_ireturn dX2_joined_199 rfl ⟨h, rfl, rfl, hE⟩
                · have hf := zif_f hf c12
                  by_cases c15 : v0 = 45
                  · have hf := zif_t hf c15
                    refine z_tabI (off := 124) (tgt := 125) dX2_joined_1 c1 (by rw [c15]; rfl) (by decide) ?_
                    refine z_iload_n dX2_joined_125 rfl ?_
                    refine z_i2l dX2_joined_126 ?_
                    refine z_iload_n dX2_joined_127 rfl ?_
                    refine z_i2l dX2_joined_128 ?_
                    refine z_lsub dX2_joined_129 ?_
                    refine z_lstore_n (lv' := [(3, .long ((v1.toInt64) - (v2.toInt64))), (0, .int v0), (1, .int v1), (2, .int v2)]) dX2_joined_130 (by decide) rfl ?_
                    refine z_goto (tgt := 200) dX2_joined_131 (by decide) ?_
                    refine z_lload_n dX2_joined_200 rfl ?_
                    refine z_ldc2 dX2_joined_201 tK_2_26 ?_
                    refine z_lcmp dX2_joined_204 ?_
                    by_cases c13 : (lg_cmp ((v1.toInt64) - (v2.toInt64)) 1000000) ≤ 0
                    · have hf := zif_t hf c13
                      refine z_if_le_t (tgt := 213) dX2_joined_205 (by decide) c13 ?_
                      refine z_lload_n dX2_joined_213 rfl ?_
                      refine z_ldc2 dX2_joined_214 tK_2_29 ?_
                      refine z_lcmp dX2_joined_217 ?_
                      by_cases c14 : 0 ≤ (lg_cmp ((v1.toInt64) - (v2.toInt64)) (-1000000))
                      · have hf := zif_t hf c14
                        refine z_if_ge_t (tgt := 226) dX2_joined_218 (by decide) c14 ?_
                        refine z_lload_n dX2_joined_226 rfl ?_
                        refine z_l2i dX2_joined_227 ?_
                        have e_ := Option.some.inj hf
                        subst e_
                        exact z_ireturn dX2_joined_228 rfl ⟨h, rfl, rfl, hE⟩
                      · have hf := zif_f hf c14
                        refine z_if_ge_f (tgt := 226) dX2_joined_218 (by decide) c14 ?_
                        refine z_ldc dX2_joined_221 tK_2_31 ?_
                        refine z_goto (tgt := 228) dX2_joined_223 (by decide) ?_
                        have e_ := Option.some.inj hf
                        subst e_
                        exact z_ireturn dX2_joined_228 rfl ⟨h, rfl, rfl, hE⟩
                    · have hf := zif_f hf c13
                      refine z_if_le_f (tgt := 213) dX2_joined_205 (by decide) c13 ?_
                      refine z_ldc dX2_joined_208 tK_2_28 ?_
                      refine z_goto (tgt := 228) dX2_joined_210 (by decide) ?_
                      have e_ := Option.some.inj hf
                      subst e_
                      exact z_ireturn dX2_joined_228 rfl ⟨h, rfl, rfl, hE⟩
                  · have hf := zif_f hf c15
                    by_cases c16 : v0 = 46
                    · have hf := zif_t hf c16
                      refine z_tabI (off := 195) (tgt := 196) dX2_joined_1 c1 (by rw [c16]; rfl) (by decide) ?_
                      refine z_iload_n dX2_joined_196 rfl ?_
                      refine z_iload_n dX2_joined_197 rfl ?_
                      refine z_ior dX2_joined_198 ?_
                      have e_ := Option.some.inj hf
                      subst e_
                      exact z_ireturn dX2_joined_199 rfl ⟨h, rfl, rfl, hE⟩
                    · have hf := zif_f hf c16
                      by_cases c23 : v0 = 47
                      · have hf := zif_t hf c23
                        refine z_tabI (off := 142) (tgt := 143) dX2_joined_1 c1 (by rw [c23]; rfl) (by decide) ?_
                        refine z_iload_n dX2_joined_143 rfl ?_
                        by_cases c17 : ¬ v2 = 0
                        · have hf := zif_t hf c17
                          refine z_if_ne_t (tgt := 151) dX2_joined_144 (by decide) c17 ?_
                          refine z_iload_n dX2_joined_151 rfl ?_
                          refine z_iload_n dX2_joined_152 rfl ?_
                          obtain ⟨b20, hf⟩ := zchkn hf
                          refine z_idiv dX2_joined_153 b20 ?_
                          refine z_i2l dX2_joined_154 ?_
                          refine z_lstore_n (lv' := [(3, .long ((v1 / v2).toInt64)), (0, .int v0), (1, .int v1), (2, .int v2)]) dX2_joined_155 (by decide) rfl ?_
                          refine z_goto (tgt := 200) dX2_joined_156 (by decide) ?_
                          refine z_lload_n dX2_joined_200 rfl ?_
                          refine z_ldc2 dX2_joined_201 tK_2_26 ?_
                          refine z_lcmp dX2_joined_204 ?_
                          by_cases c18 : (lg_cmp ((v1 / v2).toInt64) 1000000) ≤ 0
                          · have hf := zif_t hf c18
                            refine z_if_le_t (tgt := 213) dX2_joined_205 (by decide) c18 ?_
                            refine z_lload_n dX2_joined_213 rfl ?_
                            refine z_ldc2 dX2_joined_214 tK_2_29 ?_
                            refine z_lcmp dX2_joined_217 ?_
                            by_cases c19 : 0 ≤ (lg_cmp ((v1 / v2).toInt64) (-1000000))
                            · have hf := zif_t hf c19
                              refine z_if_ge_t (tgt := 226) dX2_joined_218 (by decide) c19 ?_
                              refine z_lload_n dX2_joined_226 rfl ?_
                              refine z_l2i dX2_joined_227 ?_
                              have e_ := Option.some.inj hf
                              subst e_
                              exact z_ireturn dX2_joined_228 rfl ⟨h, rfl, rfl, hE⟩
                            · have hf := zif_f hf c19
                              refine z_if_ge_f (tgt := 226) dX2_joined_218 (by decide) c19 ?_
                              refine z_ldc dX2_joined_221 tK_2_31 ?_
                              refine z_goto (tgt := 228) dX2_joined_223 (by decide) ?_
                              have e_ := Option.some.inj hf
                              subst e_
                              exact z_ireturn dX2_joined_228 rfl ⟨h, rfl, rfl, hE⟩
                          · have hf := zif_f hf c18
                            refine z_if_le_f (tgt := 213) dX2_joined_205 (by decide) c18 ?_
                            refine z_ldc dX2_joined_208 tK_2_28 ?_
                            refine z_goto (tgt := 228) dX2_joined_210 (by decide) ?_
                            have e_ := Option.some.inj hf
                            subst e_
                            exact z_ireturn dX2_joined_228 rfl ⟨h, rfl, rfl, hE⟩
                        · have hf := zif_f hf c17
                          refine z_if_ne_f (tgt := 151) dX2_joined_144 (by decide) c17 ?_
                          refine z_lconst (v := 0) dX2_joined_147 (by decide) ?_
                          refine z_goto (tgt := 155) dX2_joined_148 (by decide) ?_
                          refine z_lstore_n (lv' := [(3, .long 0), (0, .int v0), (1, .int v1), (2, .int v2)]) dX2_joined_155 (by decide) rfl ?_
                          refine z_goto (tgt := 200) dX2_joined_156 (by decide) ?_
                          refine z_lload_n dX2_joined_200 rfl ?_
                          refine z_ldc2 dX2_joined_201 tK_2_26 ?_
                          refine z_lcmp dX2_joined_204 ?_
                          by_cases c21 : (lg_cmp 0 1000000) ≤ 0
                          · have hf := zif_t hf c21
                            refine z_if_le_t (tgt := 213) dX2_joined_205 (by decide) c21 ?_
                            refine z_lload_n dX2_joined_213 rfl ?_
                            refine z_ldc2 dX2_joined_214 tK_2_29 ?_
                            refine z_lcmp dX2_joined_217 ?_
                            by_cases c22 : 0 ≤ (lg_cmp 0 (-1000000))
                            · have hf := zif_t hf c22
                              refine z_if_ge_t (tgt := 226) dX2_joined_218 (by decide) c22 ?_
                              refine z_lload_n dX2_joined_226 rfl ?_
                              refine z_l2i dX2_joined_227 ?_
                              have e_ := Option.some.inj hf
                              subst e_
                              exact z_ireturn dX2_joined_228 rfl ⟨h, rfl, rfl, hE⟩
                            · have hf := zif_f hf c22
                              refine z_if_ge_f (tgt := 226) dX2_joined_218 (by decide) c22 ?_
                              refine z_ldc dX2_joined_221 tK_2_31 ?_
                              refine z_goto (tgt := 228) dX2_joined_223 (by decide) ?_
                              have e_ := Option.some.inj hf
                              subst e_
                              exact z_ireturn dX2_joined_228 rfl ⟨h, rfl, rfl, hE⟩
                          · have hf := zif_f hf c21
                            refine z_if_le_f (tgt := 213) dX2_joined_205 (by decide) c21 ?_
                            refine z_ldc dX2_joined_208 tK_2_28 ?_
                            refine z_goto (tgt := 228) dX2_joined_210 (by decide) ?_
                            have e_ := Option.some.inj hf
                            subst e_
                            exact z_ireturn dX2_joined_228 rfl ⟨h, rfl, rfl, hE⟩
                      · have hf := zif_f hf c23
                        by_cases c24 : v0 = 48
                        · have hf := zif_t hf c24
                          refine z_tabI (off := 195) (tgt := 196) dX2_joined_1 c1 (by rw [c24]; rfl) (by decide) ?_
                          refine z_iload_n dX2_joined_196 rfl ?_
                          refine z_iload_n dX2_joined_197 rfl ?_
                          refine z_ior dX2_joined_198 ?_
                          have e_ := Option.some.inj hf
                          subst e_
                          exact z_ireturn dX2_joined_199 rfl ⟨h, rfl, rfl, hE⟩
                        · have hf := zif_f hf c24
                          by_cases c25 : v0 = 49
                          · have hf := zif_t hf c25
                            refine z_tabI (off := 195) (tgt := 196) dX2_joined_1 c1 (by rw [c25]; rfl) (by decide) ?_
                            refine z_iload_n dX2_joined_196 rfl ?_
                            refine z_iload_n dX2_joined_197 rfl ?_
                            refine z_ior dX2_joined_198 ?_
                            have e_ := Option.some.inj hf
                            subst e_
                            exact z_ireturn dX2_joined_199 rfl ⟨h, rfl, rfl, hE⟩
                          · have hf := zif_f hf c25
                            by_cases c26 : v0 = 50
                            · have hf := zif_t hf c26
                              refine z_tabI (off := 195) (tgt := 196) dX2_joined_1 c1 (by rw [c26]; rfl) (by decide) ?_
                              refine z_iload_n dX2_joined_196 rfl ?_
                              refine z_iload_n dX2_joined_197 rfl ?_
                              refine z_ior dX2_joined_198 ?_
                              have e_ := Option.some.inj hf
                              subst e_
                              exact z_ireturn dX2_joined_199 rfl ⟨h, rfl, rfl, hE⟩
                            · have hf := zif_f hf c26
                              by_cases c27 : v0 = 51
                              · have hf := zif_t hf c27
                                refine z_tabI (off := 195) (tgt := 196) dX2_joined_1 c1 (by rw [c27]; rfl) (by decide) ?_
                                refine z_iload_n dX2_joined_196 rfl ?_
                                refine z_iload_n dX2_joined_197 rfl ?_
                                refine z_ior dX2_joined_198 ?_
                                have e_ := Option.some.inj hf
                                subst e_
                                exact z_ireturn dX2_joined_199 rfl ⟨h, rfl, rfl, hE⟩
                              · have hf := zif_f hf c27
                                by_cases c28 : v0 = 52
                                · have hf := zif_t hf c28
                                  refine z_tabI (off := 195) (tgt := 196) dX2_joined_1 c1 (by rw [c28]; rfl) (by decide) ?_
                                  refine z_iload_n dX2_joined_196 rfl ?_
                                  refine z_iload_n dX2_joined_197 rfl ?_
                                  refine z_ior dX2_joined_198 ?_
                                  have e_ := Option.some.inj hf
                                  subst e_
                                  exact z_ireturn dX2_joined_199 rfl ⟨h, rfl, rfl, hE⟩
                                · have hf := zif_f hf c28
                                  by_cases c29 : v0 = 53
                                  · have hf := zif_t hf c29
                                    refine z_tabI (off := 195) (tgt := 196) dX2_joined_1 c1 (by rw [c29]; rfl) (by decide) ?_
                                    refine z_iload_n dX2_joined_196 rfl ?_
                                    refine z_iload_n dX2_joined_197 rfl ?_
                                    refine z_ior dX2_joined_198 ?_
                                    have e_ := Option.some.inj hf
                                    subst e_
                                    exact z_ireturn dX2_joined_199 rfl ⟨h, rfl, rfl, hE⟩
                                  · have hf := zif_f hf c29
                                    by_cases c30 : v0 = 54
                                    · have hf := zif_t hf c30
                                      refine z_tabI (off := 195) (tgt := 196) dX2_joined_1 c1 (by rw [c30]; rfl) (by decide) ?_
                                      refine z_iload_n dX2_joined_196 rfl ?_
                                      refine z_iload_n dX2_joined_197 rfl ?_
                                      refine z_ior dX2_joined_198 ?_
                                      have e_ := Option.some.inj hf
                                      subst e_
                                      exact z_ireturn dX2_joined_199 rfl ⟨h, rfl, rfl, hE⟩
                                    · have hf := zif_f hf c30
                                      by_cases c31 : v0 = 55
                                      · have hf := zif_t hf c31
                                        refine z_tabI (off := 195) (tgt := 196) dX2_joined_1 c1 (by rw [c31]; rfl) (by decide) ?_
                                        refine z_iload_n dX2_joined_196 rfl ?_
                                        refine z_iload_n dX2_joined_197 rfl ?_
                                        refine z_ior dX2_joined_198 ?_
                                        have e_ := Option.some.inj hf
                                        subst e_
                                        exact z_ireturn dX2_joined_199 rfl ⟨h, rfl, rfl, hE⟩
                                      · have hf := zif_f hf c31
                                        by_cases c32 : v0 = 56
                                        · have hf := zif_t hf c32
                                          refine z_tabI (off := 195) (tgt := 196) dX2_joined_1 c1 (by rw [c32]; rfl) (by decide) ?_
                                          refine z_iload_n dX2_joined_196 rfl ?_
                                          refine z_iload_n dX2_joined_197 rfl ?_
                                          refine z_ior dX2_joined_198 ?_
                                          have e_ := Option.some.inj hf
                                          subst e_
                                          exact z_ireturn dX2_joined_199 rfl ⟨h, rfl, rfl, hE⟩
                                        · have hf := zif_f hf c32
                                          by_cases c33 : v0 = 57
                                          · have hf := zif_t hf c33
                                            refine z_tabI (off := 195) (tgt := 196) dX2_joined_1 c1 (by rw [c33]; rfl) (by decide) ?_
                                            refine z_iload_n dX2_joined_196 rfl ?_
                                            refine z_iload_n dX2_joined_197 rfl ?_
                                            refine z_ior dX2_joined_198 ?_
                                            have e_ := Option.some.inj hf
                                            subst e_
                                            exact z_ireturn dX2_joined_199 rfl ⟨h, rfl, rfl, hE⟩
                                          · have hf := zif_f hf c33
                                            by_cases c34 : v0 = 58
                                            · have hf := zif_t hf c34
                                              refine z_tabI (off := 195) (tgt := 196) dX2_joined_1 c1 (by rw [c34]; rfl) (by decide) ?_
                                              refine z_iload_n dX2_joined_196 rfl ?_
                                              refine z_iload_n dX2_joined_197 rfl ?_
                                              refine z_ior dX2_joined_198 ?_
                                              have e_ := Option.some.inj hf
                                              subst e_
                                              exact z_ireturn dX2_joined_199 rfl ⟨h, rfl, rfl, hE⟩
                                            · have hf := zif_f hf c34
                                              by_cases c35 : v0 = 59
                                              · have hf := zif_t hf c35
                                                refine z_tabI (off := 195) (tgt := 196) dX2_joined_1 c1 (by rw [c35]; rfl) (by decide) ?_
                                                refine z_iload_n dX2_joined_196 rfl ?_
                                                refine z_iload_n dX2_joined_197 rfl ?_
                                                refine z_ior dX2_joined_198 ?_
                                                have e_ := Option.some.inj hf
                                                subst e_
                                                exact z_ireturn dX2_joined_199 rfl ⟨h, rfl, rfl, hE⟩
                                              · have hf := zif_f hf c35
                                                by_cases c37 : v0 = 60
                                                · have hf := zif_t hf c37
                                                  refine z_tabI (off := 169) (tgt := 170) dX2_joined_1 c1 (by rw [c37]; rfl) (by decide) ?_
                                                  refine z_iload_n dX2_joined_170 rfl ?_
                                                  refine z_iload_n dX2_joined_171 rfl ?_
                                                  by_cases c36 : v2 ≤ v1
                                                  · have hf := zif_t hf c36
                                                    refine z_icmp_ge_t (tgt := 179) dX2_joined_172 (by decide) c36 ?_
                                                    refine z_iconst (v := 0) dX2_joined_179 (by decide) ?_
                                                    have e_ := Option.some.inj hf
                                                    subst e_
                                                    exact z_ireturn dX2_joined_180 rfl ⟨h, rfl, rfl, hE⟩
                                                  · have hf := zif_f hf c36
                                                    refine z_icmp_ge_f (tgt := 179) dX2_joined_172 (by decide) c36 ?_
                                                    refine z_iconst (v := 1) dX2_joined_175 (by decide) ?_
                                                    refine z_goto (tgt := 180) dX2_joined_176 (by decide) ?_
                                                    have e_ := Option.some.inj hf
                                                    subst e_
                                                    exact z_ireturn dX2_joined_180 rfl ⟨h, rfl, rfl, hE⟩
                                                · have hf := zif_f hf c37
                                                  by_cases c39 : v0 = 61
                                                  · have hf := zif_t hf c39
                                                    refine z_tabI (off := 158) (tgt := 159) dX2_joined_1 c1 (by rw [c39]; rfl) (by decide) ?_
                                                    refine z_iload_n dX2_joined_159 rfl ?_
                                                    refine z_iload_n dX2_joined_160 rfl ?_
                                                    by_cases c38 : ¬ v1 = v2
                                                    · have hf := zif_t hf c38
                                                      refine z_icmp_ne_t (tgt := 168) dX2_joined_161 (by decide) c38 ?_
                                                      refine z_iconst (v := 0) dX2_joined_168 (by decide) ?_
                                                      have e_ := Option.some.inj hf
                                                      subst e_
                                                      exact z_ireturn dX2_joined_169 rfl ⟨h, rfl, rfl, hE⟩
                                                    · have hf := zif_f hf c38
                                                      refine z_icmp_ne_f (tgt := 168) dX2_joined_161 (by decide) c38 ?_
                                                      refine z_iconst (v := 1) dX2_joined_164 (by decide) ?_
                                                      refine z_goto (tgt := 169) dX2_joined_165 (by decide) ?_
                                                      have e_ := Option.some.inj hf
                                                      subst e_
                                                      exact z_ireturn dX2_joined_169 rfl ⟨h, rfl, rfl, hE⟩
                                                  · have hf := zif_f hf c39
                                                    by_cases c41 : v0 = 62
                                                    · have hf := zif_t hf c41
                                                      refine z_tabI (off := 180) (tgt := 181) dX2_joined_1 c1 (by rw [c41]; rfl) (by decide) ?_
                                                      refine z_iload_n dX2_joined_181 rfl ?_
                                                      refine z_iload_n dX2_joined_182 rfl ?_
                                                      by_cases c40 : v1 ≤ v2
                                                      · have hf := zif_t hf c40
                                                        refine z_icmp_le_t (tgt := 190) dX2_joined_183 (by decide) c40 ?_
                                                        refine z_iconst (v := 0) dX2_joined_190 (by decide) ?_
                                                        have e_ := Option.some.inj hf
                                                        subst e_
                                                        exact z_ireturn dX2_joined_191 rfl ⟨h, rfl, rfl, hE⟩
                                                      · have hf := zif_f hf c40
                                                        refine z_icmp_le_f (tgt := 190) dX2_joined_183 (by decide) c40 ?_
                                                        refine z_iconst (v := 1) dX2_joined_186 (by decide) ?_
                                                        refine z_goto (tgt := 191) dX2_joined_187 (by decide) ?_
                                                        have e_ := Option.some.inj hf
                                                        subst e_
                                                        exact z_ireturn dX2_joined_191 rfl ⟨h, rfl, rfl, hE⟩
                                                    · have hf := zif_f hf c41
                                                      cases hf
def f_X2_valueOf (v1 : Int32) (S : zS) : Option (Int32 × zS) :=
if v1 < 2000 then
zl (v1 - 1000) fun (y2 : Int32) =>
if y2 < 0 then
some (0, S)
else
if 6 ≤ y2 then
some (0, S)
else
if ia_in y2 6 = true then
some (S.1 15 y2.toNatClampNeg, S)
else none
else
some (v1 - 2000, S)
theorem w_X2_valueOf {L : Nat} {xs : Nat → Int32} {fm : Bool} {h0 : Nat → va_E} {t : Nat × Nat × Nat} (hn1 : 64 ≤ t.1) (hn2 : t.1 ≤ 1000000) (d : Nat) {h : Nat → va_E} {S : zS} (hE : zE (zDc t.1) h0 S (h, t)) {v1 : Int32} {R : Int32 × zS} (hf : f_X2_valueOf v1 S = some R) : zC (ia_P0 L xs fm) (d + 1) 2003 [.ref 14, .int v1] (h, t) (zQi (zDc t.1) h0 t R) := by
  refine zC_of mt_2003 nn_2003 (Nat.le_of_ble_eq_true rfl) ?_
  refine zW_lv (lv' := [(0, .ref 14), (1, .int v1)]) rfl ?_
  unfold f_X2_valueOf at hf
  refine z_iload_n dX2_valueOf_0 rfl ?_
  refine z_sipush (v := 2000) dX2_valueOf_1 (by decide) ?_
  by_cases c1 : v1 < 2000
  · have hf := zif_t hf c1
    refine z_icmp_lt_t (tgt := 13) dX2_valueOf_4 (by decide) c1 ?_
    refine z_iload_n dX2_valueOf_13 rfl ?_
    refine z_sipush (v := 1000) dX2_valueOf_14 (by decide) ?_
    refine z_isub dX2_valueOf_17 ?_
    obtain ⟨y2, ey2, hf⟩ := zl_some hf
    refine z_topi ey2 ?_
    refine z_istore_n (lv' := [(2, .int y2), (0, .ref 14), (1, .int v1)]) dX2_valueOf_18 (by decide) rfl ?_
    refine z_iload_n dX2_valueOf_19 rfl ?_
    by_cases c3 : y2 < 0
    · have hf := zif_t hf c3
      refine z_if_lt_t (tgt := 41) dX2_valueOf_20 (by decide) c3 ?_
      refine z_iconst (v := 0) dX2_valueOf_41 (by decide) ?_
      have e_ := Option.some.inj hf
      subst e_
      exact z_ireturn dX2_valueOf_42 rfl ⟨h, rfl, rfl, hE⟩
    · have hf := zif_f hf c3
      refine z_if_lt_f (tgt := 41) dX2_valueOf_20 (by decide) c3 ?_
      refine z_iload_n dX2_valueOf_23 rfl ?_
      refine z_aload_n dX2_valueOf_24 rfl ?_
      refine z_getC dX2_valueOf_25 tF_2_9 hE dc_14 rfl rfl ?_
      refine z_alen (v := 6) dX2_valueOf_28 hE dc_15 (by decide) (by decide) ?_
      by_cases c4 : 6 ≤ y2
      · have hf := zif_t hf c4
        refine z_icmp_ge_t (tgt := 41) dX2_valueOf_29 (by decide) c4 ?_
        refine z_iconst (v := 0) dX2_valueOf_41 (by decide) ?_
        have e_ := Option.some.inj hf
        subst e_
        exact z_ireturn dX2_valueOf_42 rfl ⟨h, rfl, rfl, hE⟩
      · have hf := zif_f hf c4
        refine z_icmp_ge_f (tgt := 41) dX2_valueOf_29 (by decide) c4 ?_
        refine z_aload_n dX2_valueOf_32 rfl ?_
        refine z_getC dX2_valueOf_33 tF_2_9 hE dc_14 rfl rfl ?_
        refine z_iload_n dX2_valueOf_36 rfl ?_
        obtain ⟨b5, hf⟩ := zchk hf
        refine z_ialoadL dX2_valueOf_37 hE dc_15 b5 rfl ?_
        refine z_goto (tgt := 42) dX2_valueOf_38 (by decide) ?_
        have e_ := Option.some.inj hf
        subst e_
        exact z_ireturn dX2_valueOf_42 rfl ⟨h, rfl, rfl, hE⟩
  · have hf := zif_f hf c1
    refine z_icmp_lt_f (tgt := 13) dX2_valueOf_4 (by decide) c1 ?_
    refine z_iload_n dX2_valueOf_7 rfl ?_
    refine z_sipush (v := 2000) dX2_valueOf_8 (by decide) ?_
    refine z_isub dX2_valueOf_11 ?_
    have e_ := Option.some.inj hf
    subst e_
    exact z_ireturn dX2_valueOf_12 rfl ⟨h, rfl, rfl, hE⟩
end ZX
