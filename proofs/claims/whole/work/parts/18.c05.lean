section ZX
def f_X11_perform_L24 (a4 : Nat) (ex : Int32 → Int32 → zS → Option (Int32 × zS)) (i1 : Int32) : Nat → Int32 → Int32 → zS → Option (Int32 × zS)
  | 0, _, _, _ => none
  | k + 1, x3, x4, S =>
    if (Int32.ofNat (S.2.2.1 a4)) ≤ x4 then
    ex x3 x4 S
    else
    zb (f_X11_lidIsShut S) fun r11 S10 =>
    if r11 = 0 then
    ex x3 x4 S10
    else
    if ia_in x4 (S10.2.2.1 a4) = true then
    zb (f_X7_can 17 (S10.1 a4 x4.toNatClampNeg) S10) fun r16 S15 =>
    zl (fun (q21 : Int32) (S20 : zS) =>
    zl (x4 + 1) fun (y22 : Int32) =>
    f_X11_perform_L24 a4 ex i1 k q21 y22 S20) fun J19 =>
    if r16 = 0 then
    J19 x3 S15
    else
    zb (f_X1_keep_17 S15) fun _ S23 =>
    if ia_in x4 (S23.2.2.1 a4) = true then
    zb (f_X7_act 17 (S23.1 a4 x4.toNatClampNeg) S23) fun _ S27 =>
    if ia_in x4 (S27.2.2.1 a4) = true then
    zb (f_X7_minute 17 S27) fun r32 S31 =>
    zb (f_X1_note (S27.1 a4 x4.toNatClampNeg) r32 S31) fun _ S34 =>
    zl (x3 + 1) fun (y37 : Int32) =>
    J19 y37 S34
    else none
    else none
    else none
def f_X11_perform (v1 : Int32) (S : zS) : Option (Int32 × zS) :=
zb (f_X11_stepsOf v1 S) fun r2 S1 =>
zkr r2 (
some ((-1), S1)) fun a4 =>
if 64 ≤ a4 ∧ a4 < S1.2.2.2 then
zb (f_X11_lidIsShut S1) fun r6 S5 =>
if ¬ r6 = 0 then
f_X11_perform_L24 a4 (fun (q39 : Int32) (q40 : Int32) (S38 : zS) =>
some (q39, S38)) v1 zN 0 0 S5
else
some ((-1), S5)
else none
theorem w_X11_perform_L24 {L : Nat} {xs : Nat → Int32} {fm : Bool} {h0 : Nat → va_E} {t : Nat × Nat × Nat} (hn1 : 64 ≤ t.1) (hn2 : t.1 ≤ 1000000) (d : Nat) {a4 : Nat} (hda4 : 64 ≤ a4 ∧ a4 < t.1) {ex : Int32 → Int32 → zS → Option (Int32 × zS)} {i1 : Int32} {R : Int32 × zS} (hex : ∀ (x3 : Int32) (x4 : Int32) (S : zS) (h : Nat → va_E), zE (zDc t.1) h0 S (h, t) → ex x3 x4 S = some R → zW (ia_P0 L xs fm) ia_nx (d + 5) 11 false cX11_perform 5 (some .int) 101 [(0, .ref 0), (1, .int i1), (2, .ref a4), (3, .int x3), (4, .int x4)] [] (h, t) (zQi (zDc t.1) h0 t R)) : ∀ (k : Nat) (x3 : Int32) (x4 : Int32) (S : zS) (h : Nat → va_E), zE (zDc t.1) h0 S (h, t) → f_X11_perform_L24 a4 ex i1 k x3 x4 S = some R → zW (ia_P0 L xs fm) ia_nx (d + 5) 11 false cX11_perform 5 (some .int) 24 [(0, .ref 0), (1, .int i1), (2, .ref a4), (3, .int x3), (4, .int x4)] [] (h, t) (zQi (zDc t.1) h0 t R) := by
  intro k
  induction k with
  | zero => intro x3 x4 S h hE hf; cases hf
  | succ k ih =>
    intro x3 x4 S h hE hf
    unfold f_X11_perform_L24 at hf
    refine z_iload dX11_perform_24 rfl ?_
    refine z_aload_n dX11_perform_26 rfl ?_
    refine z_alenD dX11_perform_27 hE (dc_dyn hda4) ?_
    by_cases c9 : (Int32.ofNat (S.2.2.1 a4)) ≤ x4
    · have hf := zif_t hf c9
      refine z_icmp_ge_t (tgt := 101) dX11_perform_28 (by decide) c9 ?_
      exact zW.sub (hex x3 x4 S _ hE hf) [0, 1, 2, 3, 4] rfl rfl rfl rfl
    · have hf := zif_f hf c9
      refine z_icmp_ge_f (tgt := 101) dX11_perform_28 (by decide) c9 ?_
      refine z_aload_n dX11_perform_31 rfl ?_
      obtain ⟨r11, S10, k12, hf⟩ := zb_some hf
      refine z_callVi dX11_perform_32 tM_11_223 mt_11019 (Nat.le_of_ble_eq_true rfl) rfl rfl (z_recv hE dc_0 rfl) rfl (by have q0 : a4 < t.1 := hda4.2; have q1 : 0 < t.1 := Nat.lt_of_lt_of_le (by decide) hn1; simp [ia_oks, ia_okv, q0, q1]) (Nat.le_of_ble_eq_true rfl) (w_X11_lidIsShut hn1 hn2 (d + 2) hE k12) (fun h hE => ?_)
      by_cases c13 : r11 = 0
      · have hf := zif_t hf c13
        refine z_if_eq_t (tgt := 101) dX11_perform_35 (by decide) c13 ?_
        exact zW.sub (hex x3 x4 S10 _ hE hf) [0, 1, 2, 3, 4] rfl rfl rfl rfl
      · have hf := zif_f hf c13
        refine z_if_eq_f (tgt := 101) dX11_perform_35 (by decide) c13 ?_
        refine z_aload_n dX11_perform_38 rfl ?_
        refine z_getC dX11_perform_39 tF_11_58 hE dc_0 rfl rfl ?_
        refine z_aload_n dX11_perform_42 rfl ?_
        refine z_iload dX11_perform_43 rfl ?_
        obtain ⟨b14, hf⟩ := zchk hf
        refine z_ialoadD dX11_perform_45 hE (dc_dyn hda4) b14 ?_
        obtain ⟨r16, S15, k17, hf⟩ := zb_some hf
        refine z_callVi dX11_perform_46 tM_11_352 mt_7025 (Nat.le_of_ble_eq_true rfl) rfl rfl (z_recv hE dc_17 rfl) rfl (by have q0 : a4 < t.1 := hda4.2; have q1 : 0 < t.1 := Nat.lt_of_lt_of_le (by decide) hn1; simp [ia_oks, ia_okv, q0, q1]) (Nat.le_of_ble_eq_true rfl) (w_X7_can hn1 hn2 (d + 4) sc_17 hE k17) (fun h hE => ?_)
        obtain ⟨J19, eJ19, hf⟩ := zl_some hf
        have hJ19 : ∀ (q21 : Int32) (S20 : zS) (h : Nat → va_E), zE (zDc t.1) h0 S20 (h, t) → J19 q21 S20 = some R → zW (ia_P0 L xs fm) ia_nx (d + 5) 11 false cX11_perform 5 (some .int) 95 [(0, .ref 0), (1, .int i1), (2, .ref a4), (3, .int q21), (4, .int x4)] [] (h, t) (zQi (zDc t.1) h0 t R) := by
          intro q21 S20 h hE hf
          rw [eJ19] at hf
          obtain ⟨y22, ey22, hf⟩ := zl_some hf
          refine z_iincY (v := 1) (y := y22) (lv' := [(4, .int y22), (0, .ref 0), (1, .int i1), (2, .ref a4), (3, .int q21)]) dX11_perform_95 rfl (by decide) (by decide) ey22 rfl ?_
          refine z_goto (tgt := 24) dX11_perform_98 (by decide) ?_
          exact zW.sub (ih q21 y22 S20 _ hE hf) [1, 2, 3, 4, 0] rfl rfl rfl rfl
        by_cases c18 : r16 = 0
        · have hf := zif_t hf c18
          refine z_if_eq_t (tgt := 95) dX11_perform_49 (by decide) c18 ?_
          exact zW.sub (hJ19 x3 S15 _ hE hf) [0, 1, 2, 3, 4] rfl rfl rfl rfl
        · have hf := zif_f hf c18
          refine z_if_eq_f (tgt := 95) dX11_perform_49 (by decide) c18 ?_
          refine z_aload_n dX11_perform_52 rfl ?_
          refine z_getC dX11_perform_53 tF_11_68 hE dc_0 rfl rfl ?_
          refine z_aload_n dX11_perform_56 rfl ?_
          refine z_getC dX11_perform_57 tF_11_58 hE dc_0 rfl rfl ?_
          obtain ⟨r24, S23, k25, hf⟩ := zb_some hf
          refine z_callVv dX11_perform_60 tM_11_230 mt_1002 (Nat.le_of_ble_eq_true rfl) rfl rfl (z_recv hE dc_21 rfl) rfl (by have q0 : a4 < t.1 := hda4.2; have q1 : 0 < t.1 := Nat.lt_of_lt_of_le (by decide) hn1; simp [ia_oks, ia_okv, q0, q1]) (Nat.le_of_ble_eq_true rfl) (w_X1_keep_17 hn1 hn2 (d + 4) hE k25) (fun h hE => ?_)
          refine z_aload_n dX11_perform_63 rfl ?_
          refine z_getC dX11_perform_64 tF_11_58 hE dc_0 rfl rfl ?_
          refine z_aload_n dX11_perform_67 rfl ?_
          refine z_iload dX11_perform_68 rfl ?_
          obtain ⟨b26, hf⟩ := zchk hf
          refine z_ialoadD dX11_perform_70 hE (dc_dyn hda4) b26 ?_
          obtain ⟨r28, S27, k29, hf⟩ := zb_some hf
          refine z_callVv dX11_perform_71 tM_11_259 mt_7020 (Nat.le_of_ble_eq_true rfl) rfl rfl (z_recv hE dc_17 rfl) rfl (by have q0 : a4 < t.1 := hda4.2; have q1 : 0 < t.1 := Nat.lt_of_lt_of_le (by decide) hn1; simp [ia_oks, ia_okv, q0, q1]) (Nat.le_of_ble_eq_true rfl) (w_X7_act hn1 hn2 (d + 0) sc_17 hE k29) (fun h hE => ?_)
          refine z_aload_n dX11_perform_74 rfl ?_
          refine z_getC dX11_perform_75 tF_11_68 hE dc_0 rfl rfl ?_
          refine z_aload_n dX11_perform_78 rfl ?_
          refine z_iload dX11_perform_79 rfl ?_
          obtain ⟨b30, hf⟩ := zchk hf
          refine z_ialoadD dX11_perform_81 hE (dc_dyn hda4) b30 ?_
          refine z_aload_n dX11_perform_82 rfl ?_
          refine z_getC dX11_perform_83 tF_11_58 hE dc_0 rfl rfl ?_
          obtain ⟨r32, S31, k33, hf⟩ := zb_some hf
          refine z_callVi dX11_perform_86 tM_11_244 mt_7017 (Nat.le_of_ble_eq_true rfl) rfl rfl (z_recv hE dc_17 rfl) rfl (by have q0 : a4 < t.1 := hda4.2; have q1 : 0 < t.1 := Nat.lt_of_lt_of_le (by decide) hn1; have q2 : 21 < t.1 := Nat.lt_of_lt_of_le (by decide) hn1; simp [ia_oks, ia_okv, q0, q1, q2]) (Nat.le_of_ble_eq_true rfl) (w_X7_minute hn1 hn2 (d + 4) sc_17 hE k33) (fun h hE => ?_)
          obtain ⟨r35, S34, k36, hf⟩ := zb_some hf
          refine z_callVv dX11_perform_89 tM_11_247 mt_1003 (Nat.le_of_ble_eq_true rfl) rfl rfl (z_recv hE dc_21 rfl) rfl (by have q0 : a4 < t.1 := hda4.2; have q1 : 0 < t.1 := Nat.lt_of_lt_of_le (by decide) hn1; simp [ia_oks, ia_okv, q0, q1]) (Nat.le_of_ble_eq_true rfl) (w_X1_note hn1 hn2 (d + 4) hE k36) (fun h hE => ?_)
          obtain ⟨y37, ey37, hf⟩ := zl_some hf
          refine z_iincY (v := 1) (y := y37) (lv' := [(3, .int y37), (0, .ref 0), (1, .int i1), (2, .ref a4), (4, .int x4)]) dX11_perform_92 rfl (by decide) (by decide) ey37 rfl ?_
          exact zW.sub (hJ19 y37 S34 _ hE hf) [1, 2, 3, 0, 4] rfl rfl rfl rfl
theorem w_X11_perform {L : Nat} {xs : Nat → Int32} {fm : Bool} {h0 : Nat → va_E} {t : Nat × Nat × Nat} (hn1 : 64 ≤ t.1) (hn2 : t.1 ≤ 1000000) (d : Nat) {h : Nat → va_E} {S : zS} (hE : zE (zDc t.1) h0 S (h, t)) {v1 : Int32} {R : Int32 × zS} (hf : f_X11_perform v1 S = some R) : zC (ia_P0 L xs fm) (d + 6) 11053 [.ref 0, .int v1] (h, t) (zQi (zDc t.1) h0 t R) := by
  refine zC_of mt_11053 nn_11053 (Nat.le_of_ble_eq_true rfl) ?_
  refine zW_lv (lv' := [(0, .ref 0), (1, .int v1)]) rfl ?_
  unfold f_X11_perform at hf
  refine z_aload_n dX11_perform_0 rfl ?_
  refine z_iload_n dX11_perform_1 rfl ?_
  obtain ⟨r2, S1, k3, hf⟩ := zb_some hf
  refine z_callVr dX11_perform_2 tM_11_208 mt_11014 (Nat.le_of_ble_eq_true rfl) rfl rfl (z_recv hE dc_0 rfl) rfl (ia_oks_le hn1 rfl) (Nat.le_of_ble_eq_true rfl) (w_X11_stepsOf hn1 hn2 (d + 4) hE k3) (fun h hE => ?_)
  rcases zkr_some hf with ⟨ea4, hf⟩ | ⟨a4, ea4, hf⟩
  · refine z_topv ea4 ?_
    refine z_astore_nN (lv' := [(2, .null), (0, .ref 0), (1, .int v1)]) dX11_perform_5 (by decide) rfl ?_
    refine z_aload_nN dX11_perform_6 rfl ?_
    refine z_ifnullN (tgt := 17) dX11_perform_7 (by decide) ?_
    refine z_iconst (v := (-1)) dX11_perform_17 (by decide) ?_
    have e_ := Option.some.inj hf
    subst e_
    exact z_ireturn dX11_perform_18 rfl ⟨h, rfl, rfl, hE⟩
  · obtain ⟨hda4, hf⟩ := zchk hf
    rw [hE.1] at hda4
    refine z_topv ea4 ?_
    refine z_astore_n (lv' := [(2, .ref a4), (0, .ref 0), (1, .int v1)]) dX11_perform_5 (by decide) rfl ?_
    refine z_aload_n dX11_perform_6 rfl ?_
    refine z_ifnull dX11_perform_7 ?_
    refine z_aload_n dX11_perform_10 rfl ?_
    obtain ⟨r6, S5, k7, hf⟩ := zb_some hf
    refine z_callVi dX11_perform_11 tM_11_223 mt_11019 (Nat.le_of_ble_eq_true rfl) rfl rfl (z_recv hE dc_0 rfl) rfl (by have q0 : a4 < t.1 := hda4.2; have q1 : 0 < t.1 := Nat.lt_of_lt_of_le (by decide) hn1; simp [ia_oks, ia_okv, q0, q1]) (Nat.le_of_ble_eq_true rfl) (w_X11_lidIsShut hn1 hn2 (d + 2) hE k7) (fun h hE => ?_)
    by_cases c8 : ¬ r6 = 0
    · have hf := zif_t hf c8
      refine z_if_ne_t (tgt := 19) dX11_perform_14 (by decide) c8 ?_
      refine z_iconst (v := 0) dX11_perform_19 (by decide) ?_
      refine z_istore_n (lv' := [(3, .int 0), (2, .ref a4), (0, .ref 0), (1, .int v1)]) dX11_perform_20 (by decide) rfl ?_
      refine z_iconst (v := 0) dX11_perform_21 (by decide) ?_
      refine z_istore (lv' := [(4, .int 0), (3, .int 0), (2, .ref a4), (0, .ref 0), (1, .int v1)]) dX11_perform_22 (by decide) rfl ?_
      refine zW.sub (w_X11_perform_L24 hn1 hn2 d hda4 (fun q39 q40 S38 h hE hf => ?_) zN 0 0 S5 h hE hf) [3, 4, 2, 1, 0] rfl rfl rfl rfl
      try dsimp only at hf
      refine z_iload_n dX11_perform_101 rfl ?_
      have e_ := Option.some.inj hf
      subst e_
      exact z_ireturn dX11_perform_102 rfl ⟨h, rfl, rfl, hE⟩
    · have hf := zif_f hf c8
      refine z_if_ne_f (tgt := 19) dX11_perform_14 (by decide) c8 ?_
      refine z_iconst (v := (-1)) dX11_perform_17 (by decide) ?_
      have e_ := Option.some.inj hf
      subst e_
      exact z_ireturn dX11_perform_18 rfl ⟨h, rfl, rfl, hE⟩
def f_X1_noteAt (v1 : Int32) (v2 : Int32) (S : zS) : Option (Int32 × zS) :=
zl (((((S.1 21 7) + 120) - 1) - v1) - ((((S.1 21 7) + 120) - 1) - v1) / 60 * 60) fun (y1 : Int32) =>
if 0 ≤ y1 then
if ¬ v2 = 0 then
if ia_in y1 60 = true then
some (S.1 24 y1.toNatClampNeg, S)
else none
else
if ia_in y1 60 = true then
some (S.1 23 y1.toNatClampNeg, S)
else none
else
some ((-1), S)
theorem w_X1_noteAt {L : Nat} {xs : Nat → Int32} {fm : Bool} {h0 : Nat → va_E} {t : Nat × Nat × Nat} (hn1 : 64 ≤ t.1) (hn2 : t.1 ≤ 1000000) (d : Nat) {h : Nat → va_E} {S : zS} (hE : zE (zDc t.1) h0 S (h, t)) {v1 : Int32} {v2 : Int32} {R : Int32 × zS} (hf : f_X1_noteAt v1 v2 S = some R) : zC (ia_P0 L xs fm) (d + 1) 1005 [.ref 21, .int v1, .int v2] (h, t) (zQi (zDc t.1) h0 t R) := by
  refine zC_of mt_1005 nn_1005 (Nat.le_of_ble_eq_true rfl) ?_
  refine zW_lv (lv' := [(0, .ref 21), (1, .int v1), (2, .int v2)]) rfl ?_
  unfold f_X1_noteAt at hf
  refine z_aload_n dX1_noteAt_0 rfl ?_
  refine z_getI dX1_noteAt_1 tF_1_55 hE dc_21 rfl rfl ?_
  refine z_bipush (v := 120) dX1_noteAt_4 (by decide) ?_
  refine z_iadd dX1_noteAt_6 ?_
  refine z_iconst (v := 1) dX1_noteAt_7 (by decide) ?_
  refine z_isub dX1_noteAt_8 ?_
  refine z_iload_n dX1_noteAt_9 rfl ?_
  refine z_isub dX1_noteAt_10 ?_
  refine z_bipush (v := 60) dX1_noteAt_11 (by decide) ?_
  refine z_irem dX1_noteAt_13 (by decide) ?_
  obtain ⟨y1, ey1, hf⟩ := zl_some hf
  refine z_topi ey1 ?_
  refine z_istore_n (lv' := [(3, .int y1), (0, .ref 21), (1, .int v1), (2, .int v2)]) dX1_noteAt_14 (by decide) rfl ?_
  refine z_iload_n dX1_noteAt_15 rfl ?_
  by_cases c2 : 0 ≤ y1
  · have hf := zif_t hf c2
    refine z_if_ge_t (tgt := 21) dX1_noteAt_16 (by decide) c2 ?_
    refine z_iload_n dX1_noteAt_21 rfl ?_
    by_cases c3 : ¬ v2 = 0
    · have hf := zif_t hf c3
      refine z_if_ne_t (tgt := 34) dX1_noteAt_22 (by decide) c3 ?_
      refine z_aload_n dX1_noteAt_34 rfl ?_
      refine z_getC dX1_noteAt_35 tF_1_18 hE dc_21 rfl rfl ?_
      refine z_iload_n dX1_noteAt_38 rfl ?_
      obtain ⟨b4, hf⟩ := zchk hf
      refine z_ialoadL dX1_noteAt_39 hE dc_24 b4 rfl ?_
      have e_ := Option.some.inj hf
      subst e_
      exact z_ireturn dX1_noteAt_40 rfl ⟨h, rfl, rfl, hE⟩
    · have hf := zif_f hf c3
      refine z_if_ne_f (tgt := 34) dX1_noteAt_22 (by decide) c3 ?_
      refine z_aload_n dX1_noteAt_25 rfl ?_
      refine z_getC dX1_noteAt_26 tF_1_15 hE dc_21 rfl rfl ?_
      refine z_iload_n dX1_noteAt_29 rfl ?_
      obtain ⟨b5, hf⟩ := zchk hf
      refine z_ialoadL dX1_noteAt_30 hE dc_23 b5 rfl ?_
      refine z_goto (tgt := 40) dX1_noteAt_31 (by decide) ?_
      have e_ := Option.some.inj hf
      subst e_
      exact z_ireturn dX1_noteAt_40 rfl ⟨h, rfl, rfl, hE⟩
  · have hf := zif_f hf c2
    refine z_if_ge_f (tgt := 21) dX1_noteAt_16 (by decide) c2 ?_
    refine z_iconst (v := (-1)) dX1_noteAt_19 (by decide) ?_
    have e_ := Option.some.inj hf
    subst e_
    exact z_ireturn dX1_noteAt_20 rfl ⟨h, rfl, rfl, hE⟩
def f_X11_log (v1 : Int32) (v2 : Int32) (S : zS) : Option (Int32 × zS) :=
if v1 < 0 then
some ((-1), S)
else
if (S.1 21 8) ≤ v1 then
some ((-1), S)
else
if v2 < 0 then
some ((-1), S)
else
if v2 ≤ 1 then
zb (f_X1_noteAt v1 v2 S) fun r6 S5 =>
some (r6, S5)
else
some ((-1), S)
theorem w_X11_log {L : Nat} {xs : Nat → Int32} {fm : Bool} {h0 : Nat → va_E} {t : Nat × Nat × Nat} (hn1 : 64 ≤ t.1) (hn2 : t.1 ≤ 1000000) (d : Nat) {h : Nat → va_E} {S : zS} (hE : zE (zDc t.1) h0 S (h, t)) {v1 : Int32} {v2 : Int32} {R : Int32 × zS} (hf : f_X11_log v1 v2 S = some R) : zC (ia_P0 L xs fm) (d + 2) 11054 [.ref 0, .int v1, .int v2] (h, t) (zQi (zDc t.1) h0 t R) := by
  refine zC_of mt_11054 nn_11054 (Nat.le_of_ble_eq_true rfl) ?_
  refine zW_lv (lv' := [(0, .ref 0), (1, .int v1), (2, .int v2)]) rfl ?_
  unfold f_X11_log at hf
  refine z_iload_n dX11_log_0 rfl ?_
  by_cases c1 : v1 < 0
  · have hf := zif_t hf c1
    refine z_if_lt_t (tgt := 24) dX11_log_1 (by decide) c1 ?_
    refine z_iconst (v := (-1)) dX11_log_24 (by decide) ?_
    have e_ := Option.some.inj hf
    subst e_
    exact z_ireturn dX11_log_25 rfl ⟨h, rfl, rfl, hE⟩
  · have hf := zif_f hf c1
    refine z_if_lt_f (tgt := 24) dX11_log_1 (by decide) c1 ?_
    refine z_iload_n dX11_log_4 rfl ?_
    refine z_aload_n dX11_log_5 rfl ?_
    refine z_getC dX11_log_6 tF_11_68 hE dc_0 rfl rfl ?_
    refine z_getI dX11_log_9 tF_11_355 hE dc_21 rfl rfl ?_
    by_cases c2 : (S.1 21 8) ≤ v1
    · have hf := zif_t hf c2
      refine z_icmp_ge_t (tgt := 24) dX11_log_12 (by decide) c2 ?_
      refine z_iconst (v := (-1)) dX11_log_24 (by decide) ?_
      have e_ := Option.some.inj hf
      subst e_
      exact z_ireturn dX11_log_25 rfl ⟨h, rfl, rfl, hE⟩
    · have hf := zif_f hf c2
      refine z_icmp_ge_f (tgt := 24) dX11_log_12 (by decide) c2 ?_
      refine z_iload_n dX11_log_15 rfl ?_
      by_cases c3 : v2 < 0
      · have hf := zif_t hf c3
        refine z_if_lt_t (tgt := 24) dX11_log_16 (by decide) c3 ?_
        refine z_iconst (v := (-1)) dX11_log_24 (by decide) ?_
        have e_ := Option.some.inj hf
        subst e_
        exact z_ireturn dX11_log_25 rfl ⟨h, rfl, rfl, hE⟩
      · have hf := zif_f hf c3
        refine z_if_lt_f (tgt := 24) dX11_log_16 (by decide) c3 ?_
        refine z_iload_n dX11_log_19 rfl ?_
        refine z_iconst (v := 1) dX11_log_20 (by decide) ?_
        by_cases c4 : v2 ≤ 1
        · have hf := zif_t hf c4
          refine z_icmp_le_t (tgt := 26) dX11_log_21 (by decide) c4 ?_
          refine z_aload_n dX11_log_26 rfl ?_
          refine z_getC dX11_log_27 tF_11_68 hE dc_0 rfl rfl ?_
          refine z_iload_n dX11_log_30 rfl ?_
          refine z_iload_n dX11_log_31 rfl ?_
          obtain ⟨r6, S5, k7, hf⟩ := zb_some hf
          refine z_callVi dX11_log_32 tM_11_358 mt_1005 (Nat.le_of_ble_eq_true rfl) rfl rfl (z_recv hE dc_21 rfl) rfl (ia_oks_le hn1 rfl) (Nat.le_of_ble_eq_true rfl) (w_X1_noteAt hn1 hn2 (d + 0) hE k7) (fun h hE => ?_)
          have e_ := Option.some.inj hf
          subst e_
          exact z_ireturn dX11_log_35 rfl ⟨h, rfl, rfl, hE⟩
        · have hf := zif_f hf c4
          refine z_icmp_le_f (tgt := 26) dX11_log_21 (by decide) c4 ?_
          refine z_iconst (v := (-1)) dX11_log_24 (by decide) ?_
          have e_ := Option.some.inj hf
          subst e_
          exact z_ireturn dX11_log_25 rfl ⟨h, rfl, rfl, hE⟩
def f_X1_takeImage_17  (S : zS) : Option (Unit × zS) :=
if 0 ≤ (0 : Int32).toInt ∧ 0 ≤ (0 : Int32).toInt ∧ 0 ≤ (66 : Int32).toInt ∧ (0 : Int32).toInt + (66 : Int32).toInt ≤ ((66 : Nat) : Int) ∧ (0 : Int32).toInt + (66 : Int32).toInt ≤ ((66 : Nat) : Int) then
zl (sC S 18 ((0 : Int32).toNatClampNeg) 25 ((0 : Int32).toNatClampNeg) ((66 : Int32).toNatClampNeg)) fun S2 =>
zl (sV S2 21 4 1) fun S3 =>
some ((), S3)
else none
theorem w_X1_takeImage_17 {L : Nat} {xs : Nat → Int32} {fm : Bool} {h0 : Nat → va_E} {t : Nat × Nat × Nat} (hn1 : 64 ≤ t.1) (hn2 : t.1 ≤ 1000000) (d : Nat) {h : Nat → va_E} {S : zS} (hE : zE (zDc t.1) h0 S (h, t)) {R : Unit × zS} (hf : f_X1_takeImage_17  S = some R) : zC (ia_P0 L xs fm) (d + 1) 1006 [.ref 21, .ref 17] (h, t) (zQv (zDc t.1) h0 t R) := by
  refine zC_of mt_1006 nn_1006 (Nat.le_of_ble_eq_true rfl) ?_
  refine zW_lv (lv' := [(0, .ref 21), (1, .ref 17)]) rfl ?_
  unfold f_X1_takeImage_17 at hf
  refine z_aload_n dX1_takeImage_0 rfl ?_
  refine z_getC dX1_takeImage_1 tF_1_35 hE dc_17 rfl rfl ?_
  refine z_iconst (v := 0) dX1_takeImage_4 (by decide) ?_
  refine z_aload_n dX1_takeImage_5 rfl ?_
  refine z_getC dX1_takeImage_6 tF_1_21 hE dc_21 rfl rfl ?_
  refine z_iconst (v := 0) dX1_takeImage_9 (by decide) ?_
  refine z_bipush (v := 66) dX1_takeImage_10 (by decide) ?_
  obtain ⟨b1, hf⟩ := zchk hf
  obtain ⟨S2, eS2, hf⟩ := zl_some hf
  refine z_cpy dX1_takeImage_12 tM_1_40 hE dc_18 dc_25 (Nat.le_of_ble_eq_true rfl) b1 (fun h hE => ?_)
  rw [← eS2] at hE
  refine z_aload_n dX1_takeImage_15 rfl ?_
  refine z_iconst (v := 1) dX1_takeImage_16 (by decide) ?_
  obtain ⟨S3, eS3, hf⟩ := zl_some hf
  refine z_putI dX1_takeImage_17 tF_1_31 hE dc_21 rfl rfl (show ia_fit .boolean (.int 1) = true from by decide) rfl (fun h hE => ?_)
  rw [← eS3] at hE
  have e_ := Option.some.inj hf
  subst e_
  exact z_vreturn dX1_takeImage_20 rfl ⟨h, rfl, rfl, hE⟩
def f_X11_image  (S : zS) : Option (Int32 × zS) :=
if ¬ (S.1 0 17) = 0 then
zb (f_X1_takeImage_17 S) fun _ S2 =>
zb (f_X7_minute 17 S2) fun r6 S5 =>
some (r6, S5)
else
some ((-1), S)
theorem w_X11_image {L : Nat} {xs : Nat → Int32} {fm : Bool} {h0 : Nat → va_E} {t : Nat × Nat × Nat} (hn1 : 64 ≤ t.1) (hn2 : t.1 ≤ 1000000) (d : Nat) {h : Nat → va_E} {S : zS} (hE : zE (zDc t.1) h0 S (h, t)) {R : Int32 × zS} (hf : f_X11_image  S = some R) : zC (ia_P0 L xs fm) (d + 2) 11055 [.ref 0] (h, t) (zQi (zDc t.1) h0 t R) := by
  refine zC_of mt_11055 nn_11055 (Nat.le_of_ble_eq_true rfl) ?_
  refine zW_lv (lv' := [(0, .ref 0)]) rfl ?_
  unfold f_X11_image at hf
  refine z_aload_n dX11_image_0 rfl ?_
  refine z_getI dX11_image_1 tF_11_149 hE dc_0 rfl rfl ?_
  by_cases c1 : ¬ (S.1 0 17) = 0
  · have hf := zif_t hf c1
    refine z_if_ne_t (tgt := 9) dX11_image_4 (by decide) c1 ?_
    refine z_aload_n dX11_image_9 rfl ?_
    refine z_getC dX11_image_10 tF_11_68 hE dc_0 rfl rfl ?_
    refine z_aload_n dX11_image_13 rfl ?_
    refine z_getC dX11_image_14 tF_11_58 hE dc_0 rfl rfl ?_
    obtain ⟨r3, S2, k4, hf⟩ := zb_some hf
    refine z_callVv dX11_image_17 tM_11_361 mt_1006 (Nat.le_of_ble_eq_true rfl) rfl rfl (z_recv hE dc_21 rfl) rfl (ia_oks_le hn1 rfl) (Nat.le_of_ble_eq_true rfl) (w_X1_takeImage_17 hn1 hn2 (d + 0) hE k4) (fun h hE => ?_)
    refine z_aload_n dX11_image_20 rfl ?_
    refine z_getC dX11_image_21 tF_11_58 hE dc_0 rfl rfl ?_
    obtain ⟨r6, S5, k7, hf⟩ := zb_some hf
    refine z_callVi dX11_image_24 tM_11_244 mt_7017 (Nat.le_of_ble_eq_true rfl) rfl rfl (z_recv hE dc_17 rfl) rfl (ia_oks_le hn1 rfl) (Nat.le_of_ble_eq_true rfl) (w_X7_minute hn1 hn2 (d + 0) sc_17 hE k7) (fun h hE => ?_)
    have e_ := Option.some.inj hf
    subst e_
    exact z_ireturn dX11_image_27 rfl ⟨h, rfl, rfl, hE⟩
  · have hf := zif_f hf c1
    refine z_if_ne_f (tgt := 9) dX11_image_4 (by decide) c1 ?_
    refine z_iconst (v := (-1)) dX11_image_7 (by decide) ?_
    have e_ := Option.some.inj hf
    subst e_
    exact z_ireturn dX11_image_8 rfl ⟨h, rfl, rfl, hE⟩
def f_X1_giveImage_17  (S : zS) : Option (Unit × zS) :=
if 0 ≤ (0 : Int32).toInt ∧ 0 ≤ (0 : Int32).toInt ∧ 0 ≤ (66 : Int32).toInt ∧ (0 : Int32).toInt + (66 : Int32).toInt ≤ ((66 : Nat) : Int) ∧ (0 : Int32).toInt + (66 : Int32).toInt ≤ ((66 : Nat) : Int) then
zl (sC S 25 ((0 : Int32).toNatClampNeg) 18 ((0 : Int32).toNatClampNeg) ((66 : Int32).toNatClampNeg)) fun S2 =>
zl (sV S2 21 6 0) fun S3 =>
some ((), S3)
else none
theorem w_X1_giveImage_17 {L : Nat} {xs : Nat → Int32} {fm : Bool} {h0 : Nat → va_E} {t : Nat × Nat × Nat} (hn1 : 64 ≤ t.1) (hn2 : t.1 ≤ 1000000) (d : Nat) {h : Nat → va_E} {S : zS} (hE : zE (zDc t.1) h0 S (h, t)) {R : Unit × zS} (hf : f_X1_giveImage_17  S = some R) : zC (ia_P0 L xs fm) (d + 1) 1007 [.ref 21, .ref 17] (h, t) (zQv (zDc t.1) h0 t R) := by
  refine zC_of mt_1007 nn_1007 (Nat.le_of_ble_eq_true rfl) ?_
  refine zW_lv (lv' := [(0, .ref 21), (1, .ref 17)]) rfl ?_
  unfold f_X1_giveImage_17 at hf
  refine z_aload_n dX1_giveImage_0 rfl ?_
  refine z_getC dX1_giveImage_1 tF_1_21 hE dc_21 rfl rfl ?_
  refine z_iconst (v := 0) dX1_giveImage_4 (by decide) ?_
  refine z_aload_n dX1_giveImage_5 rfl ?_
  refine z_getC dX1_giveImage_6 tF_1_35 hE dc_17 rfl rfl ?_
  refine z_iconst (v := 0) dX1_giveImage_9 (by decide) ?_
  refine z_bipush (v := 66) dX1_giveImage_10 (by decide) ?_
  obtain ⟨b1, hf⟩ := zchk hf
  obtain ⟨S2, eS2, hf⟩ := zl_some hf
  refine z_cpy dX1_giveImage_12 tM_1_40 hE dc_25 dc_18 (Nat.le_of_ble_eq_true rfl) b1 (fun h hE => ?_)
  rw [← eS2] at hE
  refine z_aload_n dX1_giveImage_15 rfl ?_
  refine z_iconst (v := 0) dX1_giveImage_16 (by decide) ?_
  obtain ⟨S3, eS3, hf⟩ := zl_some hf
  refine z_putI dX1_giveImage_17 tF_1_24 hE dc_21 rfl rfl rfl rfl (fun h hE => ?_)
  rw [← eS3] at hE
  have e_ := Option.some.inj hf
  subst e_
  exact z_vreturn dX1_giveImage_20 rfl ⟨h, rfl, rfl, hE⟩
def f_X11_back  (S : zS) : Option (Int32 × zS) :=
if ¬ (S.1 21 4) = 0 then
zb (f_X1_giveImage_17 S) fun _ S2 =>
zb (f_X7_minute 17 S2) fun r6 S5 =>
some (r6, S5)
else
some ((-1), S)
theorem w_X11_back {L : Nat} {xs : Nat → Int32} {fm : Bool} {h0 : Nat → va_E} {t : Nat × Nat × Nat} (hn1 : 64 ≤ t.1) (hn2 : t.1 ≤ 1000000) (d : Nat) {h : Nat → va_E} {S : zS} (hE : zE (zDc t.1) h0 S (h, t)) {R : Int32 × zS} (hf : f_X11_back  S = some R) : zC (ia_P0 L xs fm) (d + 2) 11056 [.ref 0] (h, t) (zQi (zDc t.1) h0 t R) := by
  refine zC_of mt_11056 nn_11056 (Nat.le_of_ble_eq_true rfl) ?_
  refine zW_lv (lv' := [(0, .ref 0)]) rfl ?_
  unfold f_X11_back at hf
  refine z_aload_n dX11_back_0 rfl ?_
  refine z_getC dX11_back_1 tF_11_68 hE dc_0 rfl rfl ?_
  refine z_getI dX11_back_4 tF_11_364 hE dc_21 rfl rfl ?_
  by_cases c1 : ¬ (S.1 21 4) = 0
  · have hf := zif_t hf c1
    refine z_if_ne_t (tgt := 12) dX11_back_7 (by decide) c1 ?_
    refine z_aload_n dX11_back_12 rfl ?_
    refine z_getC dX11_back_13 tF_11_68 hE dc_0 rfl rfl ?_
    refine z_aload_n dX11_back_16 rfl ?_
    refine z_getC dX11_back_17 tF_11_58 hE dc_0 rfl rfl ?_
    obtain ⟨r3, S2, k4, hf⟩ := zb_some hf
    refine z_callVv dX11_back_20 tM_11_367 mt_1007 (Nat.le_of_ble_eq_true rfl) rfl rfl (z_recv hE dc_21 rfl) rfl (ia_oks_le hn1 rfl) (Nat.le_of_ble_eq_true rfl) (w_X1_giveImage_17 hn1 hn2 (d + 0) hE k4) (fun h hE => ?_)
    refine z_aload_n dX11_back_23 rfl ?_
    refine z_getC dX11_back_24 tF_11_58 hE dc_0 rfl rfl ?_
    obtain ⟨r6, S5, k7, hf⟩ := zb_some hf
    refine z_callVi dX11_back_27 tM_11_244 mt_7017 (Nat.le_of_ble_eq_true rfl) rfl rfl (z_recv hE dc_17 rfl) rfl (ia_oks_le hn1 rfl) (Nat.le_of_ble_eq_true rfl) (w_X7_minute hn1 hn2 (d + 0) sc_17 hE k7) (fun h hE => ?_)
    have e_ := Option.some.inj hf
    subst e_
    exact z_ireturn dX11_back_30 rfl ⟨h, rfl, rfl, hE⟩
  · have hf := zif_f hf c1
    refine z_if_ne_f (tgt := 12) dX11_back_7 (by decide) c1 ?_
    refine z_iconst (v := (-1)) dX11_back_10 (by decide) ?_
    have e_ := Option.some.inj hf
    subst e_
    exact z_ireturn dX11_back_11 rfl ⟨h, rfl, rfl, hE⟩
def f_X11_count (v1 : Int32) (S : zS) : Option (Int32 × zS) :=
if v1.toInt < 0 ∨ 11 < v1.toInt then
some ((-1000000), S)
else
if v1 = 0 then
if ia_in v1 3 = true then
some (S.1 12 v1.toNatClampNeg, S)
else none
else if v1 = 1 then
if ia_in v1 3 = true then
some (S.1 12 v1.toNatClampNeg, S)
else none
else if v1 = 2 then
if ia_in v1 3 = true then
some (S.1 12 v1.toNatClampNeg, S)
else none
else if v1 = 3 then
some (S.1 0 14, S)
else if v1 = 4 then
some (S.1 0 15, S)
else if v1 = 5 then
some (S.1 1 1, S)
else if v1 = 6 then
if (S.1 0 17) = 0 then
some ((-1), S)
else
zb (f_X7_onTable 17 S) fun r13 S12 =>
some (r13, S12)
else if v1 = 7 then
zb (f_X7_minute 17 S) fun r17 S16 =>
some (r17, S16)
else if v1 = 8 then
some (S.1 0 16, S)
else if v1 = 9 then
some (S.1 37 1, S)
else if v1 = 10 then
some (S.1 21 6, S)
else if v1 = 11 then
some (S.1 21 8, S)
else none
theorem w_X11_count {L : Nat} {xs : Nat → Int32} {fm : Bool} {h0 : Nat → va_E} {t : Nat × Nat × Nat} (hn1 : 64 ≤ t.1) (hn2 : t.1 ≤ 1000000) (d : Nat) {h : Nat → va_E} {S : zS} (hE : zE (zDc t.1) h0 S (h, t)) {v1 : Int32} {R : Int32 × zS} (hf : f_X11_count v1 S = some R) : zC (ia_P0 L xs fm) (d + 2) 11057 [.ref 0, .int v1] (h, t) (zQi (zDc t.1) h0 t R) := by
  refine zC_of mt_11057 nn_11057 (Nat.le_of_ble_eq_true rfl) ?_
  refine zW_lv (lv' := [(0, .ref 0), (1, .int v1)]) rfl ?_
  unfold f_X11_count at hf
  refine z_iload_n dX11_count_0 rfl ?_
  by_cases c1 : v1.toInt < 0 ∨ 11 < v1.toInt
  · have hf := zif_t hf c1
    refine z_tabO (tgt := 148) dX11_count_1 c1 (by decide) ?_
    refine z_ldcw dX11_count_148 tK_11_275 ?_
    have e_ := Option.some.inj hf
    subst e_
    exact z_ireturn dX11_count_151 rfl ⟨h, rfl, rfl, hE⟩
  · have hf := zif_f hf c1
    by_cases c3 : v1 = 0
    · have hf := zif_t hf c3
      refine z_tabI (off := 63) (tgt := 64) dX11_count_1 c1 (by rw [c3]; rfl) (by decide) ?_
      refine z_aload_n dX11_count_64 rfl ?_
      refine z_getC dX11_count_65 tF_11_42 hE dc_0 rfl rfl ?_
      refine z_getC dX11_count_68 tF_11_153 hE dc_11 rfl rfl ?_
      refine z_iload_n dX11_count_71 rfl ?_
      obtain ⟨b2, hf⟩ := zchk hf
      refine z_ialoadL dX11_count_72 hE dc_12 b2 rfl ?_
      have e_ := Option.some.inj hf
      subst e_
      exact z_ireturn dX11_count_73 rfl ⟨h, rfl, rfl, hE⟩
    · have hf := zif_f hf c3
      by_cases c5 : v1 = 1
      · have hf := zif_t hf c5
        refine z_tabI (off := 63) (tgt := 64) dX11_count_1 c1 (by rw [c5]; rfl) (by decide) ?_
        refine z_aload_n dX11_count_64 rfl ?_
        refine z_getC dX11_count_65 tF_11_42 hE dc_0 rfl rfl ?_
        refine z_getC dX11_count_68 tF_11_153 hE dc_11 rfl rfl ?_
        refine z_iload_n dX11_count_71 rfl ?_
        obtain ⟨b4, hf⟩ := zchk hf
        refine z_ialoadL dX11_count_72 hE dc_12 b4 rfl ?_
        have e_ := Option.some.inj hf
        subst e_
        exact z_ireturn dX11_count_73 rfl ⟨h, rfl, rfl, hE⟩
      · have hf := zif_f hf c5
        by_cases c7 : v1 = 2
        · have hf := zif_t hf c7
          refine z_tabI (off := 63) (tgt := 64) dX11_count_1 c1 (by rw [c7]; rfl) (by decide) ?_
          refine z_aload_n dX11_count_64 rfl ?_
          refine z_getC dX11_count_65 tF_11_42 hE dc_0 rfl rfl ?_
          refine z_getC dX11_count_68 tF_11_153 hE dc_11 rfl rfl ?_
          refine z_iload_n dX11_count_71 rfl ?_
          obtain ⟨b6, hf⟩ := zchk hf
          refine z_ialoadL dX11_count_72 hE dc_12 b6 rfl ?_
          have e_ := Option.some.inj hf
          subst e_
          exact z_ireturn dX11_count_73 rfl ⟨h, rfl, rfl, hE⟩
        · have hf := zif_f hf c7
          by_cases c8 : v1 = 3
          · have hf := zif_t hf c8
            refine z_tabI (off := 73) (tgt := 74) dX11_count_1 c1 (by rw [c8]; rfl) (by decide) ?_
            refine z_aload_n dX11_count_74 rfl ?_
            refine z_getI dX11_count_75 tF_11_156 hE dc_0 rfl rfl ?_
            have e_ := Option.some.inj hf
            subst e_
            exact z_ireturn dX11_count_78 rfl ⟨h, rfl, rfl, hE⟩
          · have hf := zif_f hf c8
            by_cases c9 : v1 = 4
            · have hf := zif_t hf c9
              refine z_tabI (off := 78) (tgt := 79) dX11_count_1 c1 (by rw [c9]; rfl) (by decide) ?_
              refine z_aload_n dX11_count_79 rfl ?_
              refine z_getI dX11_count_80 tF_11_169 hE dc_0 rfl rfl ?_
              have e_ := Option.some.inj hf
              subst e_
              exact z_ireturn dX11_count_83 rfl ⟨h, rfl, rfl, hE⟩
            · have hf := zif_f hf c9
              by_cases c10 : v1 = 5
              · have hf := zif_t hf c10
                refine z_tabI (off := 83) (tgt := 84) dX11_count_1 c1 (by rw [c10]; rfl) (by decide) ?_
                refine z_aload_n dX11_count_84 rfl ?_
                refine z_getC dX11_count_85 tF_11_10 hE dc_0 rfl rfl ?_
                refine z_getI dX11_count_88 tF_11_110 hE dc_1 rfl rfl ?_
                have e_ := Option.some.inj hf
                subst e_
                exact z_ireturn dX11_count_91 rfl ⟨h, rfl, rfl, hE⟩
              · have hf := zif_f hf c10
                by_cases c15 : v1 = 6
                · have hf := zif_t hf c15
                  refine z_tabI (off := 91) (tgt := 92) dX11_count_1 c1 (by rw [c15]; rfl) (by decide) ?_
                  refine z_aload_n dX11_count_92 rfl ?_
                  refine z_getI dX11_count_93 tF_11_149 hE dc_0 rfl rfl ?_
                  by_cases c11 : (S.1 0 17) = 0
                  · have hf := zif_t hf c11
                    refine z_if_eq_t (tgt := 109) dX11_count_96 (by decide) c11 ?_
                    refine z_iconst (v := (-1)) dX11_count_109 (by decide) ?_
                    have e_ := Option.some.inj hf
                    subst e_
                    exact z_ireturn dX11_count_110 rfl ⟨h, rfl, rfl, hE⟩
                  · have hf := zif_f hf c11
                    refine z_if_eq_f (tgt := 109) dX11_count_96 (by decide) c11 ?_
                    refine z_aload_n dX11_count_99 rfl ?_
                    refine z_getC dX11_count_100 tF_11_58 hE dc_0 rfl rfl ?_
                    obtain ⟨r13, S12, k14, hf⟩ := zb_some hf
                    refine z_callVi dX11_count_103 tM_11_234 mt_7010 (Nat.le_of_ble_eq_true rfl) rfl rfl (z_recv hE dc_17 rfl) rfl (ia_oks_le hn1 rfl) (Nat.le_of_ble_eq_true rfl) (w_X7_onTable hn1 hn2 (d + 0) sc_17 hE k14) (fun h hE => ?_)
                    refine z_goto (tgt := 110) dX11_count_106 (by decide) ?_
                    have e_ := Option.some.inj hf
                    subst e_
                    exact z_ireturn dX11_count_110 rfl ⟨h, rfl, rfl, hE⟩
                · have hf := zif_f hf c15
                  by_cases c19 : v1 = 7
                  · have hf := zif_t hf c19
                    refine z_tabI (off := 110) (tgt := 111) dX11_count_1 c1 (by rw [c19]; rfl) (by decide) ?_
                    refine z_aload_n dX11_count_111 rfl ?_
                    refine z_getC dX11_count_112 tF_11_58 hE dc_0 rfl rfl ?_
                    obtain ⟨r17, S16, k18, hf⟩ := zb_some hf
                    refine z_callVi dX11_count_115 tM_11_244 mt_7017 (Nat.le_of_ble_eq_true rfl) rfl rfl (z_recv hE dc_17 rfl) rfl (ia_oks_le hn1 rfl) (Nat.le_of_ble_eq_true rfl) (w_X7_minute hn1 hn2 (d + 0) sc_17 hE k18) (fun h hE => ?_)
                    have e_ := Option.some.inj hf
                    subst e_
                    exact z_ireturn dX11_count_118 rfl ⟨h, rfl, rfl, hE⟩
                  · have hf := zif_f hf c19
                    by_cases c20 : v1 = 8
                    · have hf := zif_t hf c20
                      refine z_tabI (off := 118) (tgt := 119) dX11_count_1 c1 (by rw [c20]; rfl) (by decide) ?_
                      refine z_aload_n dX11_count_119 rfl ?_
                      refine z_getI dX11_count_120 tF_11_102 hE dc_0 rfl rfl ?_
                      have e_ := Option.some.inj hf
                      subst e_
                      exact z_ireturn dX11_count_123 rfl ⟨h, rfl, rfl, hE⟩
                    · have hf := zif_f hf c20
                      by_cases c21 : v1 = 9
                      · have hf := zif_t hf c21
                        refine z_tabI (off := 123) (tgt := 124) dX11_count_1 c1 (by rw [c21]; rfl) (by decide) ?_
                        refine z_aload_n dX11_count_124 rfl ?_
                        refine z_getC dX11_count_125 tF_11_89 hE dc_0 rfl rfl ?_
                        refine z_getI dX11_count_128 tF_11_332 hE dc_37 rfl rfl ?_
                        have e_ := Option.some.inj hf
                        subst e_
                        exact z_ireturn dX11_count_131 rfl ⟨h, rfl, rfl, hE⟩
                      · have hf := zif_f hf c21
                        by_cases c22 : v1 = 10
                        · have hf := zif_t hf c22
                          refine z_tabI (off := 131) (tgt := 132) dX11_count_1 c1 (by rw [c22]; rfl) (by decide) ?_
                          refine z_aload_n dX11_count_132 rfl ?_
                          refine z_getC dX11_count_133 tF_11_68 hE dc_0 rfl rfl ?_
                          refine z_getI dX11_count_136 tF_11_370 hE dc_21 rfl rfl ?_
                          have e_ := Option.some.inj hf
                          subst e_
                          exact z_ireturn dX11_count_139 rfl ⟨h, rfl, rfl, hE⟩
                        · have hf := zif_f hf c22
                          by_cases c23 : v1 = 11
                          · have hf := zif_t hf c23
                            refine z_tabI (off := 139) (tgt := 140) dX11_count_1 c1 (by rw [c23]; rfl) (by decide) ?_
                            refine z_aload_n dX11_count_140 rfl ?_
                            refine z_getC dX11_count_141 tF_11_68 hE dc_0 rfl rfl ?_
                            refine z_getI dX11_count_144 tF_11_355 hE dc_21 rfl rfl ?_
                            have e_ := Option.some.inj hf
                            subst e_
                            exact z_ireturn dX11_count_147 rfl ⟨h, rfl, rfl, hE⟩
                          · have hf := zif_f hf c23
                            cases hf
end ZX
